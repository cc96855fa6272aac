/-! METHODS, printed by gen.py. -/
def fX9_leaves (s0 : AS) (a1 : Int32) : Option (AS × Int32) :=
  am_let (am_si s0 215 0 (0 : Int32)) (fun (s1 : AS) => am_r (fX9_isPerson s1 a1.toInt64) (fun (v2 : Int32) => if v2 = 0 then (some (s1, (-2 : Int32))) else (am_c (fX9_laysNow s1) (fun (s4 : AS) (v3 : Unit) => am_g (¬ (a1 < 0 ∨ 8 ≤ a1.toNatClampNeg)) (some (s4, s4.1 234 a1.toNatClampNeg))))))
def kX9_leaves : List (Nat × Instr × Nat) := [(0, .aload_n 0, 1), (1, .iconst 0, 1), (2, .putfield 80, 3), (5, .aload_n 0, 1), (6, .iload_n 1, 1), (7, .i2l, 1), (8, .invokevirtual 344, 3), (11, .ifCond .ne 6, 3), (14, .bipush (-2), 2), (16, .ireturn, 1), (17, .aload_n 0, 1), (18, .invokevirtual 358, 3), (21, .aload_n 0, 1), (22, .getfield 71, 3), (25, .iload_n 1, 1), (26, .iaload, 1), (27, .ireturn, 1)]
theorem qX9_leaves : ∀ q ∈ kX9_leaves, decode mX9_leaves.2.2.1 q.1 = .ok (q.2.1, q.2.2) ∧ am_iok mX9_leaves.2.2.2.1 q.1 q.2.1 q.2.2 = true := by decide +kernel
set_option maxRecDepth 100000 in
theorem wX9_leaves : Cond.code mX9_leaves.2.1 mX9_leaves.2.2.1 mX9_leaves.2.2.2.1 mX9_leaves.2.2.2.2.1 ∈ am_T := List.mem_filter.mpr ⟨List.mem_of_getElem? (i := 1714) rfl, rfl⟩
set_option maxHeartbeats 4000000 in
set_option maxRecDepth 100000 in
theorem tX9_leaves (l : Launch) (d : Nat) {s0 : AS} {a1 : Int32} {sE : AS} {rE : Int32} (hf : fX9_leaves s0 a1 = some (sE, rE)) : am_Ct l (d + 6) mX9_leaves [.inr (.inr ((10, 0, 0), 215)), .inl a1] s0 sE (some (.inl rE)) := by
  refine am_sim l (d + 5) (code := kX9_leaves) (by decide +kernel) wX9_leaves qX9_leaves (Nat.le_of_ble_eq_true rfl) ?_
  intro X hX
  show X 0 [(0, .inr (.inr ((10, 0, 0), 215))), (1, .inl a1)] [] s0
  unfold fX9_leaves at hf
  refine am_blk hX 0 3 (And.intro rfl (am_nl (Z := fun s1 => X 5 [(0, .inr (.inr ((10, 0, 0), 215))), (1, .inl a1)] [] s1) hf (fun s1 hf => ?_)))
  obtain ⟨v2, hcv2, hf⟩ := am_r_of hf
  refine am_blk hX 3 5 (And.intro rfl (And.intro rfl (Exists.intro s1 (Exists.intro (some (.inl v2)) (And.intro (tX9_isPerson l (d + 3) hcv2) (And.intro (fun hb => ?_) (fun hb => ?_)))))))
  · have hf := am_if hf hb
    show X 17 [(0, .inr (.inr ((10, 0, 0), 215))), (1, .inl a1)] [] s1
    obtain ⟨s4, v3, hcv3, hf⟩ := am_c_of hf
    obtain ⟨g5, hf⟩ := am_g_of hf
    refine am_blk hX 10 7 (And.intro rfl (And.intro rfl (Exists.intro s4 (Exists.intro none (And.intro (tX9_laysNow l (d + 0) hcv3) (And.intro rfl (And.intro rfl (And.intro g5 (am_ri hf)))))))))
  · have hf := am_it hf hb
    show X 14 [(0, .inr (.inr ((10, 0, 0), 215))), (1, .inl a1)] [] s1
    refine am_blk hX 8 2 (am_ri hf)
def fX9_number (s0 : AS) (a1 : Int32) (a2 : Int32) : Option (AS × Int32) :=
  if (s0.1 215 12) = 0 then (if (s0.1 215 8) = (2 : Int32) then (am_r (fX9_in ((s0.1 215 10).toInt64) a1.toInt64 a2.toInt64) (fun (v1 : Int32) => if v1 = 0 then (am_c (fX9_fails s0 (2 : Int32)) (fun (s6 : AS) (v5 : Unit) => some (s6, a1))) else (am_let (s0.1 215 10) (fun (x2 : Int32) => am_c (fX9_goesOn s0) (fun (s4 : AS) (v3 : Unit) => some (s4, x2)))))) else (am_c (fX9_fails s0 (1 : Int32)) (fun (s8 : AS) (v7 : Unit) => some (s8, a1)))) else (some (s0, a1))
def kX9_number : List (Nat × Instr × Nat) := [(0, .aload_n 0, 1), (1, .getfield 132, 3), (4, .ifCond .eq 5, 3), (7, .iload_n 1, 1), (8, .ireturn, 1), (9, .aload_n 0, 1), (10, .getfield 121, 3), (13, .iconst 2, 1), (14, .if_icmp .eq 10, 3), (17, .aload_n 0, 1), (18, .iconst 1, 1), (19, .invokevirtual 148, 3), (22, .iload_n 1, 1), (23, .ireturn, 1), (24, .aload_n 0, 1), (25, .getfield 114, 3), (28, .i2l, 1), (29, .iload_n 1, 1), (30, .i2l, 1), (31, .iload_n 2, 1), (32, .i2l, 1), (33, .invokestatic 85, 3), (36, .ifCond .ne 10, 3), (39, .aload_n 0, 1), (40, .iconst 2, 1), (41, .invokevirtual 148, 3), (44, .iload_n 1, 1), (45, .ireturn, 1), (46, .aload_n 0, 1), (47, .getfield 114, 3), (50, .istore_n 3, 1), (51, .aload_n 0, 1), (52, .invokevirtual 142, 3), (55, .iload_n 3, 1), (56, .ireturn, 1)]
theorem qX9_number : ∀ q ∈ kX9_number, decode mX9_number.2.2.1 q.1 = .ok (q.2.1, q.2.2) ∧ am_iok mX9_number.2.2.2.1 q.1 q.2.1 q.2.2 = true := by decide +kernel
set_option maxRecDepth 100000 in
theorem wX9_number : Cond.code mX9_number.2.1 mX9_number.2.2.1 mX9_number.2.2.2.1 mX9_number.2.2.2.2.1 ∈ am_T := List.mem_filter.mpr ⟨List.mem_of_getElem? (i := 1544) rfl, rfl⟩
set_option maxHeartbeats 4000000 in
set_option maxRecDepth 100000 in
theorem tX9_number (l : Launch) (d : Nat) {s0 : AS} {a1 : Int32} {a2 : Int32} {sE : AS} {rE : Int32} (hf : fX9_number s0 a1 a2 = some (sE, rE)) : am_Ct l (d + 3) mX9_number [.inr (.inr ((10, 0, 0), 215)), .inl a1, .inl a2] s0 sE (some (.inl rE)) := by
  refine am_sim l (d + 2) (code := kX9_number) (by decide +kernel) wX9_number qX9_number (Nat.le_of_ble_eq_true rfl) ?_
  intro X hX
  show X 0 [(0, .inr (.inr ((10, 0, 0), 215))), (1, .inl a1), (2, .inl a2)] [] s0
  unfold fX9_number at hf
  refine am_blk hX 0 3 (And.intro rfl (And.intro (fun hb => ?_) (fun hb => ?_)))
  · have hf := am_it hf hb
    show X 9 [(0, .inr (.inr ((10, 0, 0), 215))), (1, .inl a1), (2, .inl a2)] [] s0
    refine am_blk hX 5 4 (And.intro rfl (And.intro (fun hb => ?_) (fun hb => ?_)))
    · have hf := am_it hf hb
      show X 24 [(0, .inr (.inr ((10, 0, 0), 215))), (1, .inl a1), (2, .inl a2)] [] s0
      obtain ⟨v1, hcv1, hf⟩ := am_r_of hf
      refine am_blk hX 14 9 (And.intro rfl (And.intro rfl (Exists.intro s0 (Exists.intro (some (.inl v1)) (And.intro (tX9_in l (d + 1) hcv1) (And.intro (fun hb => ?_) (fun hb => ?_)))))))
      · have hf := am_if hf hb
        show X 46 [(0, .inr (.inr ((10, 0, 0), 215))), (1, .inl a1), (2, .inl a2)] [] s0
        refine am_blk hX 28 3 (And.intro rfl (am_nl (Z := fun x2 => X 51 [(3, .inl x2), (0, .inr (.inr ((10, 0, 0), 215))), (1, .inl a1), (2, .inl a2)] [] s0) hf (fun x2 hf => ?_)))
        obtain ⟨s4, v3, hcv3, hf⟩ := am_c_of hf
        refine am_blk hX 31 4 (And.intro rfl (And.intro rfl (Exists.intro s4 (Exists.intro none (And.intro (tX9_goesOn l (d + 0) hcv3) (am_ri hf))))))
      · have hf := am_it hf hb
        show X 39 [(0, .inr (.inr ((10, 0, 0), 215))), (1, .inl a1), (2, .inl a2)] [] s0
        obtain ⟨s6, v5, hcv5, hf⟩ := am_c_of hf
        refine am_blk hX 23 5 (And.intro rfl (And.intro rfl (Exists.intro s6 (Exists.intro none (And.intro (tX9_fails l (d + 1) hcv5) (am_ri hf))))))
    · have hf := am_if hf hb
      show X 17 [(0, .inr (.inr ((10, 0, 0), 215))), (1, .inl a1), (2, .inl a2)] [] s0
      obtain ⟨s8, v7, hcv7, hf⟩ := am_c_of hf
      refine am_blk hX 9 5 (And.intro rfl (And.intro rfl (Exists.intro s8 (Exists.intro none (And.intro (tX9_fails l (d + 1) hcv7) (am_ri hf))))))
  · have hf := am_if hf hb
    show X 7 [(0, .inr (.inr ((10, 0, 0), 215))), (1, .inl a1), (2, .inl a2)] [] s0
    refine am_blk hX 3 2 (am_ri hf)
def fX9_placeHere (s0 : AS) : Option (AS × Int32) :=
  am_r (fX9_hasRead s0 (0 : Int32)) (fun (v1 : Int32) => am_c (fX9_number s0 (0 : Int32) (v1 - (1 : Int32))) (fun (s3 : AS) (v2 : Int32) => some (s3, v2)))
def kX9_placeHere : List (Nat × Instr × Nat) := [(0, .aload_n 0, 1), (1, .iconst 0, 1), (2, .aload_n 0, 1), (3, .iconst 0, 1), (4, .invokevirtual 162, 3), (7, .iconst 1, 1), (8, .isub, 1), (9, .invokevirtual 155, 3), (12, .ireturn, 1)]
theorem qX9_placeHere : ∀ q ∈ kX9_placeHere, decode mX9_placeHere.2.2.1 q.1 = .ok (q.2.1, q.2.2) ∧ am_iok mX9_placeHere.2.2.2.1 q.1 q.2.1 q.2.2 = true := by decide +kernel
set_option maxRecDepth 100000 in
theorem wX9_placeHere : Cond.code mX9_placeHere.2.1 mX9_placeHere.2.2.1 mX9_placeHere.2.2.2.1 mX9_placeHere.2.2.2.2.1 ∈ am_T := List.mem_filter.mpr ⟨List.mem_of_getElem? (i := 1549) rfl, rfl⟩
set_option maxHeartbeats 4000000 in
set_option maxRecDepth 100000 in
theorem tX9_placeHere (l : Launch) (d : Nat) {s0 : AS} {sE : AS} {rE : Int32} (hf : fX9_placeHere s0 = some (sE, rE)) : am_Ct l (d + 4) mX9_placeHere [.inr (.inr ((10, 0, 0), 215))] s0 sE (some (.inl rE)) := by
  refine am_sim l (d + 3) (code := kX9_placeHere) (by decide +kernel) wX9_placeHere qX9_placeHere (Nat.le_of_ble_eq_true rfl) ?_
  intro X hX
  show X 0 [(0, .inr (.inr ((10, 0, 0), 215)))] [] s0
  unfold fX9_placeHere at hf
  obtain ⟨v1, hcv1, hf⟩ := am_r_of hf
  obtain ⟨s3, v2, hcv2, hf⟩ := am_c_of hf
  refine am_blk hX 0 9 (And.intro rfl (And.intro rfl (Exists.intro s0 (Exists.intro (some (.inl v1)) (And.intro (tX9_hasRead l (d + 2) hcv1) (And.intro rfl (And.intro rfl (Exists.intro s3 (Exists.intro (some (.inl v2)) (And.intro (tX9_number l (d + 0) hcv2) (am_ri hf)))))))))))
def fX9_number_ (s0 : AS) (a1 : Int64) (a3 : Int32) (a4 : Int32) : Option (AS × Int32) :=
  am_c (fX9_asks s0 a1) (fun (s2 : AS) (v1 : Unit) => am_c (fX9_number s2 a3 a4) (fun (s4 : AS) (v3 : Int32) => some (s4, v3)))
def kX9_number_ : List (Nat × Instr × Nat) := [(0, .aload_n 0, 1), (1, .lload_n 1, 1), (2, .invokevirtual 151, 3), (5, .aload_n 0, 1), (6, .iload_n 3, 1), (7, .iload 4, 2), (9, .invokevirtual 155, 3), (12, .ireturn, 1)]
theorem qX9_number_ : ∀ q ∈ kX9_number_, decode mX9_number_.2.2.1 q.1 = .ok (q.2.1, q.2.2) ∧ am_iok mX9_number_.2.2.2.1 q.1 q.2.1 q.2.2 = true := by decide +kernel
set_option maxRecDepth 100000 in
theorem wX9_number_ : Cond.code mX9_number_.2.1 mX9_number_.2.2.1 mX9_number_.2.2.2.1 mX9_number_.2.2.2.2.1 ∈ am_T := List.mem_filter.mpr ⟨List.mem_of_getElem? (i := 1540) rfl, rfl⟩
set_option maxHeartbeats 4000000 in
set_option maxRecDepth 100000 in
theorem tX9_number_ (l : Launch) (d : Nat) {s0 : AS} {a1 : Int64} {a3 : Int32} {a4 : Int32} {sE : AS} {rE : Int32} (hf : fX9_number_ s0 a1 a3 a4 = some (sE, rE)) : am_Ct l (d + 5) mX9_number_ [.inr (.inr ((10, 0, 0), 215)), .inr (.inl a1), .inl a3, .inl a4] s0 sE (some (.inl rE)) := by
  refine am_sim l (d + 4) (code := kX9_number_) (by decide +kernel) wX9_number_ qX9_number_ (Nat.le_of_ble_eq_true rfl) ?_
  intro X hX
  show X 0 [(0, .inr (.inr ((10, 0, 0), 215))), (1, .inr (.inl a1)), (3, .inl a3), (4, .inl a4)] [] s0
  unfold fX9_number_ at hf
  obtain ⟨s2, v1, hcv1, hf⟩ := am_c_of hf
  obtain ⟨s4, v3, hcv3, hf⟩ := am_c_of hf
  refine am_blk hX 0 8 (And.intro rfl (And.intro rfl (Exists.intro s2 (Exists.intro none (And.intro (tX9_asks l (d + 0) hcv1) (And.intro rfl (And.intro rfl (Exists.intro s4 (Exists.intro (some (.inl v3)) (And.intro (tX9_number l (d + 1) hcv3) (am_ri hf)))))))))))
def fX9_roadLine (s0 : AS) : Option (AS × Unit) :=
  am_r (fX9_hasRead s0 (4 : Int32)) (fun (v1 : Int32) => am_let ((3 : Int32) * ((40 : Int32) + v1)) (fun (x2 : Int32) => am_c (fX9_placeHere s0) (fun (s4 : AS) (v3 : Int32) => am_g (¬ (x2 < 0 ∨ 150 ≤ x2.toNatClampNeg)) (am_let (am_si s4 223 (x2.toNatClampNeg) v3) (fun (s6 : AS) => am_c (fX9_asks s6 (555 : Int64)) (fun (s8 : AS) (v7 : Unit) => am_let (fun (s9 : AS) => am_c (fX9_placeHere s9) (fun (s11 : AS) (v10 : Int32) => am_g (¬ ((x2 + (1 : Int32)) < 0 ∨ 150 ≤ (x2 + (1 : Int32)).toNatClampNeg)) (am_let (am_si s11 223 ((x2 + (1 : Int32)).toNatClampNeg) v10) (fun (s13 : AS) => am_c (fX9_number_ s13 (247516 : Int64) (1 : Int32) (99 : Int32)) (fun (s15 : AS) (v14 : Int32) => am_g (¬ ((x2 + (2 : Int32)) < 0 ∨ 150 ≤ (x2 + (2 : Int32)).toNatClampNeg)) (am_let (am_si s15 223 ((x2 + (2 : Int32)).toNatClampNeg) v14) (fun (s17 : AS) => am_r (fX9_hasRead s17 (4 : Int32)) (fun (v18 : Int32) => am_c (fX9_tells s17 (4 : Int32) (v18 + (1 : Int32))) (fun (s20 : AS) (v19 : Unit) => some (s20, ())))))))))) (fun J61 => if (s8.1 215 12) = 0 then (if (s8.1 215 8) = (2 : Int32) then (am_g (¬ (x2 < 0 ∨ 150 ≤ x2.toNatClampNeg)) (if (s8.1 215 10) = (s8.1 223 x2.toNatClampNeg) then (am_c (fX9_fails s8 (2 : Int32)) (fun (s23 : AS) (v22 : Unit) => J61 s23)) else (J61 s8))) else (J61 s8)) else (J61 s8))))))))
def kX9_roadLine : List (Nat × Instr × Nat) := [(0, .iconst 3, 1), (1, .bipush 40, 2), (3, .aload_n 0, 1), (4, .iconst 4, 1), (5, .invokevirtual 162, 3), (8, .iadd, 1), (9, .imul, 1), (10, .istore_n 1, 1), (11, .aload_n 0, 1), (12, .getfield 37, 3), (15, .iload_n 1, 1), (16, .aload_n 0, 1), (17, .invokevirtual 166, 3), (20, .iastore, 1), (21, .aload_n 0, 1), (22, .ldc2_w 170, 3), (25, .invokevirtual 151, 3), (28, .aload_n 0, 1), (29, .getfield 132, 3), (32, .ifCond .ne 29, 3), (35, .aload_n 0, 1), (36, .getfield 121, 3), (39, .iconst 2, 1), (40, .if_icmp .ne 21, 3), (43, .aload_n 0, 1), (44, .getfield 114, 3), (47, .aload_n 0, 1), (48, .getfield 37, 3), (51, .iload_n 1, 1), (52, .iaload, 1), (53, .if_icmp .ne 8, 3), (56, .aload_n 0, 1), (57, .iconst 2, 1), (58, .invokevirtual 148, 3), (61, .aload_n 0, 1), (62, .getfield 37, 3), (65, .iload_n 1, 1), (66, .iconst 1, 1), (67, .iadd, 1), (68, .aload_n 0, 1), (69, .invokevirtual 166, 3), (72, .iastore, 1), (73, .aload_n 0, 1), (74, .getfield 37, 3), (77, .iload_n 1, 1), (78, .iconst 2, 1), (79, .iadd, 1), (80, .aload_n 0, 1), (81, .ldc2_w 172, 3), (84, .iconst 1, 1), (85, .bipush 99, 2), (87, .invokevirtual 174, 3), (90, .iastore, 1), (91, .aload_n 0, 1), (92, .iconst 4, 1), (93, .aload_n 0, 1), (94, .iconst 4, 1), (95, .invokevirtual 162, 3), (98, .iconst 1, 1), (99, .iadd, 1), (100, .invokevirtual 177, 3), (103, .return_, 1)]
theorem qX9_roadLine : ∀ q ∈ kX9_roadLine, decode mX9_roadLine.2.2.1 q.1 = .ok (q.2.1, q.2.2) ∧ am_iok mX9_roadLine.2.2.2.1 q.1 q.2.1 q.2.2 = true := by decide +kernel
set_option maxRecDepth 100000 in
theorem wX9_roadLine : Cond.code mX9_roadLine.2.1 mX9_roadLine.2.2.1 mX9_roadLine.2.2.2.1 mX9_roadLine.2.2.2.2.1 ∈ am_T := List.mem_filter.mpr ⟨List.mem_of_getElem? (i := 1568) rfl, rfl⟩
set_option maxHeartbeats 4000000 in
set_option maxRecDepth 100000 in
theorem tX9_roadLine (l : Launch) (d : Nat) {s0 : AS} {sE : AS} {rE : Unit} (hf : fX9_roadLine s0 = some (sE, rE)) : am_Ct l (d + 6) mX9_roadLine [.inr (.inr ((10, 0, 0), 215))] s0 sE none := by
  refine am_sim l (d + 5) (code := kX9_roadLine) (by decide +kernel) wX9_roadLine qX9_roadLine (Nat.le_of_ble_eq_true rfl) ?_
  intro X hX
  show X 0 [(0, .inr (.inr ((10, 0, 0), 215)))] [] s0
  unfold fX9_roadLine at hf
  obtain ⟨v1, hcv1, hf⟩ := am_r_of hf
  refine am_blk hX 0 8 (And.intro rfl (And.intro rfl (Exists.intro s0 (Exists.intro (some (.inl v1)) (And.intro (tX9_hasRead l (d + 4) hcv1) (am_nl (Z := fun x2 => X 11 [(1, .inl x2), (0, .inr (.inr ((10, 0, 0), 215)))] [] s0) hf (fun x2 hf => ?_)))))))
  obtain ⟨s4, v3, hcv3, hf⟩ := am_c_of hf
  obtain ⟨g5, hf⟩ := am_g_of hf
  refine am_blk hX 8 6 (And.intro rfl (And.intro rfl (And.intro rfl (Exists.intro s4 (Exists.intro (some (.inl v3)) (And.intro (tX9_placeHere l (d + 1) hcv3) (And.intro rfl (And.intro g5 (am_nl (Z := fun s6 => X 21 [(1, .inl x2), (0, .inr (.inr ((10, 0, 0), 215)))] [] s6) hf (fun s6 hf => ?_))))))))))
  obtain ⟨s8, v7, hcv7, hf⟩ := am_c_of hf
  refine am_jn hf (fun J61 => ∀ (s9 : AS), J61 s9 = some (sE, rE) → X 61 [(0, .inr (.inr ((10, 0, 0), 215))), (1, .inl x2)] [] s9) ?_ ?_
  · intro s9 hf
    obtain ⟨s11, v10, hcv10, hf⟩ := am_c_of hf
    obtain ⟨g12, hf⟩ := am_g_of hf
    refine am_blk hX 34 8 (And.intro rfl (And.intro rfl (And.intro rfl (Exists.intro s11 (Exists.intro (some (.inl v10)) (And.intro (tX9_placeHere l (d + 1) hcv10) (And.intro rfl (And.intro g12 (am_nl (Z := fun s13 => X 73 [(0, .inr (.inr ((10, 0, 0), 215))), (1, .inl x2)] [] s13) hf (fun s13 hf => ?_))))))))))
    obtain ⟨s15, v14, hcv14, hf⟩ := am_c_of hf
    obtain ⟨g16, hf⟩ := am_g_of hf
    refine am_blk hX 42 11 (And.intro rfl (And.intro rfl (And.intro rfl (Exists.intro s15 (Exists.intro (some (.inl v14)) (And.intro (tX9_number_ l (d + 0) hcv14) (And.intro rfl (And.intro g16 (am_nl (Z := fun s17 => X 91 [(0, .inr (.inr ((10, 0, 0), 215))), (1, .inl x2)] [] s17) hf (fun s17 hf => ?_))))))))))
    obtain ⟨v18, hcv18, hf⟩ := am_r_of hf
    obtain ⟨s20, v19, hcv19, hf⟩ := am_c_of hf
    refine am_blk hX 53 9 (And.intro rfl (And.intro rfl (Exists.intro s17 (Exists.intro (some (.inl v18)) (And.intro (tX9_hasRead l (d + 4) hcv18) (And.intro rfl (And.intro rfl (Exists.intro s20 (Exists.intro none (And.intro (tX9_tells l (d + 4) hcv19) (And.intro rfl (am_rv hf))))))))))))
  · intro J61 hJ61 hf
    refine am_blk hX 14 6 (And.intro rfl (And.intro rfl (Exists.intro s8 (Exists.intro none (And.intro (tX9_asks l (d + 1) hcv7) (And.intro rfl (And.intro (fun hb => ?_) (fun hb => ?_))))))))
    · have hf := am_if hf hb
      show X 61 [(1, .inl x2), (0, .inr (.inr ((10, 0, 0), 215)))] [] s8
      exact am_wk hX [1, 0] (hJ61 s8 hf)
    · have hf := am_it hf hb
      show X 35 [(1, .inl x2), (0, .inr (.inr ((10, 0, 0), 215)))] [] s8
      refine am_blk hX 20 4 (And.intro rfl (And.intro (fun hb => ?_) (fun hb => ?_)))
      · have hf := am_if hf hb
        show X 61 [(1, .inl x2), (0, .inr (.inr ((10, 0, 0), 215)))] [] s8
        exact am_wk hX [1, 0] (hJ61 s8 hf)
      · have hf := am_it hf hb
        show X 43 [(1, .inl x2), (0, .inr (.inr ((10, 0, 0), 215)))] [] s8
        obtain ⟨g21, hf⟩ := am_g_of hf
        refine am_blk hX 24 7 (And.intro rfl (And.intro rfl (And.intro rfl (And.intro g21 (And.intro (fun hb => ?_) (fun hb => ?_))))))
        · have hf := am_if hf hb
          show X 61 [(1, .inl x2), (0, .inr (.inr ((10, 0, 0), 215)))] [] s8
          exact am_wk hX [1, 0] (hJ61 s8 hf)
        · have hf := am_it hf hb
          show X 56 [(1, .inl x2), (0, .inr (.inr ((10, 0, 0), 215)))] [] s8
          obtain ⟨s23, v22, hcv22, hf⟩ := am_c_of hf
          refine am_blk hX 31 3 (And.intro rfl (And.intro rfl (Exists.intro s23 (Exists.intro none (And.intro (tX9_fails l (d + 4) hcv22) (?_))))))
          show X 61 [(1, .inl x2), (0, .inr (.inr ((10, 0, 0), 215)))] [] s23
          exact am_wk hX [1, 0] (hJ61 s23 hf)
def fX9_personLine (s0 : AS) : Option (AS × Unit) :=
  am_r (fX9_hasRead s0 (5 : Int32)) (fun (v1 : Int32) => am_let ((5 : Int32) * ((32 : Int32) + v1)) (fun (x2 : Int32) => am_c (fX9_asks s0 (47 : Int64)) (fun (s4 : AS) (v3 : Unit) => am_c (fX9_placeHere s4) (fun (s6 : AS) (v5 : Int32) => am_g (¬ (x2 < 0 ∨ 200 ≤ x2.toNatClampNeg)) (am_let (am_si s6 224 (x2.toNatClampNeg) v5) (fun (s8 : AS) => am_c (fX9_asks s8 (12253591 : Int64)) (fun (s10 : AS) (v9 : Unit) => am_c (fX9_placeHere s10) (fun (s12 : AS) (v11 : Int32) => am_g (¬ ((x2 + (1 : Int32)) < 0 ∨ 200 ≤ (x2 + (1 : Int32)).toNatClampNeg)) (am_let (am_si s12 224 ((x2 + (1 : Int32)).toNatClampNeg) v11) (fun (s14 : AS) => am_c (fX9_number_ s14 (260971484 : Int64) (0 : Int32) (5 : Int32)) (fun (s16 : AS) (v15 : Int32) => am_g (¬ ((x2 + (2 : Int32)) < 0 ∨ 200 ≤ (x2 + (2 : Int32)).toNatClampNeg)) (am_let (am_si s16 224 ((x2 + (2 : Int32)).toNatClampNeg) v15) (fun (s18 : AS) => am_c (fX9_number_ s18 (7542361 : Int64) (0 : Int32) (9 : Int32)) (fun (s20 : AS) (v19 : Int32) => am_g (¬ ((x2 + (3 : Int32)) < 0 ∨ 200 ≤ (x2 + (3 : Int32)).toNatClampNeg)) (am_let (am_si s20 224 ((x2 + (3 : Int32)).toNatClampNeg) v19) (fun (s22 : AS) => am_c (fX9_number_ s22 (1359346 : Int64) (1 : Int32) (99 : Int32)) (fun (s24 : AS) (v23 : Int32) => am_g (¬ ((x2 + (4 : Int32)) < 0 ∨ 200 ≤ (x2 + (4 : Int32)).toNatClampNeg)) (am_let (am_si s24 224 ((x2 + (4 : Int32)).toNatClampNeg) v23) (fun (s26 : AS) => am_r (fX9_hasRead s26 (5 : Int32)) (fun (v27 : Int32) => am_c (fX9_tells s26 (5 : Int32) (v27 + (1 : Int32))) (fun (s29 : AS) (v28 : Unit) => some (s29, ()))))))))))))))))))))))
def kX9_personLine : List (Nat × Instr × Nat) := [(0, .iconst 5, 1), (1, .bipush 32, 2), (3, .aload_n 0, 1), (4, .iconst 5, 1), (5, .invokevirtual 162, 3), (8, .iadd, 1), (9, .imul, 1), (10, .istore_n 1, 1), (11, .aload_n 0, 1), (12, .ldc2_w 181, 3), (15, .invokevirtual 151, 3), (18, .aload_n 0, 1), (19, .getfield 40, 3), (22, .iload_n 1, 1), (23, .aload_n 0, 1), (24, .invokevirtual 166, 3), (27, .iastore, 1), (28, .aload_n 0, 1), (29, .ldc2_w 183, 3), (32, .invokevirtual 151, 3), (35, .aload_n 0, 1), (36, .getfield 40, 3), (39, .iload_n 1, 1), (40, .iconst 1, 1), (41, .iadd, 1), (42, .aload_n 0, 1), (43, .invokevirtual 166, 3), (46, .iastore, 1), (47, .aload_n 0, 1), (48, .getfield 40, 3), (51, .iload_n 1, 1), (52, .iconst 2, 1), (53, .iadd, 1), (54, .aload_n 0, 1), (55, .ldc2_w 185, 3), (58, .iconst 0, 1), (59, .iconst 5, 1), (60, .invokevirtual 174, 3), (63, .iastore, 1), (64, .aload_n 0, 1), (65, .getfield 40, 3), (68, .iload_n 1, 1), (69, .iconst 3, 1), (70, .iadd, 1), (71, .aload_n 0, 1), (72, .ldc2_w 187, 3), (75, .iconst 0, 1), (76, .bipush 9, 2), (78, .invokevirtual 174, 3), (81, .iastore, 1), (82, .aload_n 0, 1), (83, .getfield 40, 3), (86, .iload_n 1, 1), (87, .iconst 4, 1), (88, .iadd, 1), (89, .aload_n 0, 1), (90, .ldc2_w 189, 3), (93, .iconst 1, 1), (94, .bipush 99, 2), (96, .invokevirtual 174, 3), (99, .iastore, 1), (100, .aload_n 0, 1), (101, .iconst 5, 1), (102, .aload_n 0, 1), (103, .iconst 5, 1), (104, .invokevirtual 162, 3), (107, .iconst 1, 1), (108, .iadd, 1), (109, .invokevirtual 177, 3), (112, .return_, 1)]
theorem qX9_personLine : ∀ q ∈ kX9_personLine, decode mX9_personLine.2.2.1 q.1 = .ok (q.2.1, q.2.2) ∧ am_iok mX9_personLine.2.2.2.1 q.1 q.2.1 q.2.2 = true := by decide +kernel
set_option maxRecDepth 100000 in
theorem wX9_personLine : Cond.code mX9_personLine.2.1 mX9_personLine.2.2.1 mX9_personLine.2.2.2.1 mX9_personLine.2.2.2.2.1 ∈ am_T := List.mem_filter.mpr ⟨List.mem_of_getElem? (i := 1575) rfl, rfl⟩
set_option maxHeartbeats 4000000 in
set_option maxRecDepth 100000 in
theorem tX9_personLine (l : Launch) (d : Nat) {s0 : AS} {sE : AS} {rE : Unit} (hf : fX9_personLine s0 = some (sE, rE)) : am_Ct l (d + 6) mX9_personLine [.inr (.inr ((10, 0, 0), 215))] s0 sE none := by
  refine am_sim l (d + 5) (code := kX9_personLine) (by decide +kernel) wX9_personLine qX9_personLine (Nat.le_of_ble_eq_true rfl) ?_
  intro X hX
  show X 0 [(0, .inr (.inr ((10, 0, 0), 215)))] [] s0
  unfold fX9_personLine at hf
  obtain ⟨v1, hcv1, hf⟩ := am_r_of hf
  refine am_blk hX 0 8 (And.intro rfl (And.intro rfl (Exists.intro s0 (Exists.intro (some (.inl v1)) (And.intro (tX9_hasRead l (d + 4) hcv1) (am_nl (Z := fun x2 => X 11 [(1, .inl x2), (0, .inr (.inr ((10, 0, 0), 215)))] [] s0) hf (fun x2 hf => ?_)))))))
  obtain ⟨s4, v3, hcv3, hf⟩ := am_c_of hf
  obtain ⟨s6, v5, hcv5, hf⟩ := am_c_of hf
  obtain ⟨g7, hf⟩ := am_g_of hf
  refine am_blk hX 8 9 (And.intro rfl (And.intro rfl (Exists.intro s4 (Exists.intro none (And.intro (tX9_asks l (d + 1) hcv3) (And.intro rfl (And.intro rfl (And.intro rfl (Exists.intro s6 (Exists.intro (some (.inl v5)) (And.intro (tX9_placeHere l (d + 1) hcv5) (And.intro rfl (And.intro g7 (am_nl (Z := fun s8 => X 28 [(1, .inl x2), (0, .inr (.inr ((10, 0, 0), 215)))] [] s8) hf (fun s8 hf => ?_)))))))))))))))
  obtain ⟨s10, v9, hcv9, hf⟩ := am_c_of hf
  obtain ⟨s12, v11, hcv11, hf⟩ := am_c_of hf
  obtain ⟨g13, hf⟩ := am_g_of hf
  refine am_blk hX 17 11 (And.intro rfl (And.intro rfl (Exists.intro s10 (Exists.intro none (And.intro (tX9_asks l (d + 1) hcv9) (And.intro rfl (And.intro rfl (And.intro rfl (Exists.intro s12 (Exists.intro (some (.inl v11)) (And.intro (tX9_placeHere l (d + 1) hcv11) (And.intro rfl (And.intro g13 (am_nl (Z := fun s14 => X 47 [(1, .inl x2), (0, .inr (.inr ((10, 0, 0), 215)))] [] s14) hf (fun s14 hf => ?_)))))))))))))))
  obtain ⟨s16, v15, hcv15, hf⟩ := am_c_of hf
  obtain ⟨g17, hf⟩ := am_g_of hf
  refine am_blk hX 28 11 (And.intro rfl (And.intro rfl (And.intro rfl (Exists.intro s16 (Exists.intro (some (.inl v15)) (And.intro (tX9_number_ l (d + 0) hcv15) (And.intro rfl (And.intro g17 (am_nl (Z := fun s18 => X 64 [(1, .inl x2), (0, .inr (.inr ((10, 0, 0), 215)))] [] s18) hf (fun s18 hf => ?_))))))))))
  obtain ⟨s20, v19, hcv19, hf⟩ := am_c_of hf
  obtain ⟨g21, hf⟩ := am_g_of hf
  refine am_blk hX 39 11 (And.intro rfl (And.intro rfl (And.intro rfl (Exists.intro s20 (Exists.intro (some (.inl v19)) (And.intro (tX9_number_ l (d + 0) hcv19) (And.intro rfl (And.intro g21 (am_nl (Z := fun s22 => X 82 [(1, .inl x2), (0, .inr (.inr ((10, 0, 0), 215)))] [] s22) hf (fun s22 hf => ?_))))))))))
  obtain ⟨s24, v23, hcv23, hf⟩ := am_c_of hf
  obtain ⟨g25, hf⟩ := am_g_of hf
  refine am_blk hX 50 11 (And.intro rfl (And.intro rfl (And.intro rfl (Exists.intro s24 (Exists.intro (some (.inl v23)) (And.intro (tX9_number_ l (d + 0) hcv23) (And.intro rfl (And.intro g25 (am_nl (Z := fun s26 => X 100 [(1, .inl x2), (0, .inr (.inr ((10, 0, 0), 215)))] [] s26) hf (fun s26 hf => ?_))))))))))
  obtain ⟨v27, hcv27, hf⟩ := am_r_of hf
  obtain ⟨s29, v28, hcv28, hf⟩ := am_c_of hf
  refine am_blk hX 61 9 (And.intro rfl (And.intro rfl (Exists.intro s26 (Exists.intro (some (.inl v27)) (And.intro (tX9_hasRead l (d + 4) hcv27) (And.intro rfl (And.intro rfl (Exists.intro s29 (Exists.intro none (And.intro (tX9_tells l (d + 4) hcv28) (And.intro rfl (am_rv hf))))))))))))
def fX9_line (s0 : AS) : Option (AS × Unit) :=
  am_r (fX9_is s0 (365260 : Int64)) (fun (v1 : Int32) => am_c (fX9_isRoom s0 v1 (4 : Int32) (10 : Int32)) (fun (s3 : AS) (v2 : Int32) => am_let (fun (s4 : AS) => some (s4, ())) (fun J104 => if v2 = 0 then (am_let (fun (s5 : AS) => if (s5.1 215 12) = 0 then (am_c (fX9_asks s5 (4075508 : Int64)) (fun (s7 : AS) (v6 : Unit) => am_c (fX9_number s7 (0 : Int32) (5 : Int32)) (fun (s9 : AS) (v8 : Int32) => am_c (fX9_number_ s9 (1903978 : Int64) (0 : Int32) (99 : Int32)) (fun (s11 : AS) (v10 : Int32) => am_r (fX9_isGood s11) (fun (v12 : Int32) => if v12 = 0 then (J104 s11) else (am_g (¬ (((24 : Int32) + v8) < 0 ∨ 30 ≤ ((24 : Int32) + v8).toNatClampNeg)) (am_let (am_si s11 225 (((24 : Int32) + v8).toNatClampNeg) v10) (fun (s14 : AS) => J104 s14)))))))) else (J104 s5)) (fun J55 => if (s3.1 215 12) = 0 then (am_r (fX9_is s3 (232608281 : Int64)) (fun (v15 : Int32) => am_c (fX9_isRoom s3 v15 (5 : Int32) (8 : Int32)) (fun (s17 : AS) (v16 : Int32) => if v16 = 0 then (J55 s17) else (am_c (fX9_personLine s17) (fun (s19 : AS) (v18 : Unit) => J104 s19))))) else (J55 s3))) else (am_c (fX9_roadLine s3) (fun (s21 : AS) (v20 : Unit) => J104 s21)))))
def kX9_line : List (Nat × Instr × Nat) := [(0, .aload_n 0, 1), (1, .aload_n 0, 1), (2, .ldc2_w 191, 3), (5, .invokevirtual 138, 3), (8, .iconst 4, 1), (9, .bipush 10, 2), (11, .invokevirtual 193, 3), (14, .ifCond .eq 10, 3), (17, .aload_n 0, 1), (18, .invokevirtual 197, 3), (21, .goto 83, 3), (24, .aload_n 0, 1), (25, .getfield 132, 3), (28, .ifCond .ne 27, 3), (31, .aload_n 0, 1), (32, .aload_n 0, 1), (33, .ldc2_w 200, 3), (36, .invokevirtual 138, 3), (39, .iconst 5, 1), (40, .bipush 8, 2), (42, .invokevirtual 193, 3), (45, .ifCond .eq 10, 3), (48, .aload_n 0, 1), (49, .invokevirtual 202, 3), (52, .goto 52, 3), (55, .aload_n 0, 1), (56, .getfield 132, 3), (59, .ifCond .ne 45, 3), (62, .aload_n 0, 1), (63, .ldc2_w 205, 3), (66, .invokevirtual 151, 3), (69, .aload_n 0, 1), (70, .iconst 0, 1), (71, .iconst 5, 1), (72, .invokevirtual 155, 3), (75, .istore_n 1, 1), (76, .aload_n 0, 1), (77, .ldc2_w 207, 3), (80, .iconst 0, 1), (81, .bipush 99, 2), (83, .invokevirtual 174, 3), (86, .istore_n 2, 1), (87, .aload_n 0, 1), (88, .invokevirtual 209, 3), (91, .ifCond .eq 13, 3), (94, .aload_n 0, 1), (95, .getfield 43, 3), (98, .bipush 24, 2), (100, .iload_n 1, 1), (101, .iadd, 1), (102, .iload_n 2, 1), (103, .iastore, 1), (104, .return_, 1)]
theorem qX9_line : ∀ q ∈ kX9_line, decode mX9_line.2.2.1 q.1 = .ok (q.2.1, q.2.2) ∧ am_iok mX9_line.2.2.2.1 q.1 q.2.1 q.2.2 = true := by decide +kernel
set_option maxRecDepth 100000 in
theorem wX9_line : Cond.code mX9_line.2.1 mX9_line.2.2.1 mX9_line.2.2.2.1 mX9_line.2.2.2.2.1 ∈ am_T := List.mem_filter.mpr ⟨List.mem_of_getElem? (i := 1559) rfl, rfl⟩
set_option maxHeartbeats 4000000 in
set_option maxRecDepth 100000 in
theorem tX9_line (l : Launch) (d : Nat) {s0 : AS} {sE : AS} {rE : Unit} (hf : fX9_line s0 = some (sE, rE)) : am_Ct l (d + 7) mX9_line [.inr (.inr ((10, 0, 0), 215))] s0 sE none := by
  refine am_sim l (d + 6) (code := kX9_line) (by decide +kernel) wX9_line qX9_line (Nat.le_of_ble_eq_true rfl) ?_
  intro X hX
  show X 0 [(0, .inr (.inr ((10, 0, 0), 215)))] [] s0
  unfold fX9_line at hf
  obtain ⟨v1, hcv1, hf⟩ := am_r_of hf
  obtain ⟨s3, v2, hcv2, hf⟩ := am_c_of hf
  refine am_jn hf (fun J104 => ∀ (s4 : AS), J104 s4 = some (sE, rE) → X 104 [] [] s4) ?_ ?_
  · intro s4 hf
    refine am_blk hX 52 1 (And.intro rfl (am_rv hf))
  · intro J104 hJ104 hf
    refine am_blk hX 0 8 (And.intro rfl (And.intro rfl (Exists.intro s0 (Exists.intro (some (.inl v1)) (And.intro (tX9_is l (d + 5) hcv1) (And.intro rfl (And.intro rfl (Exists.intro s3 (Exists.intro (some (.inl v2)) (And.intro (tX9_isRoom l (d + 3) hcv2) (And.intro (fun hb => ?_) (fun hb => ?_))))))))))))
    · have hf := am_it hf hb
      show X 24 [(0, .inr (.inr ((10, 0, 0), 215)))] [] s3
      refine am_jn hf (fun J55 => ∀ (s5 : AS), J55 s5 = some (sE, rE) → X 55 [(0, .inr (.inr ((10, 0, 0), 215)))] [] s5) ?_ ?_
      · intro s5 hf
        refine am_blk hX 25 3 (And.intro rfl (And.intro (fun hb => ?_) (fun hb => ?_)))
        · have hf := am_if hf hb
          show X 104 [(0, .inr (.inr ((10, 0, 0), 215)))] [] s5
          exact am_wk hX [] (hJ104 s5 hf)
        · have hf := am_it hf hb
          show X 62 [(0, .inr (.inr ((10, 0, 0), 215)))] [] s5
          obtain ⟨s7, v6, hcv6, hf⟩ := am_c_of hf
          obtain ⟨s9, v8, hcv8, hf⟩ := am_c_of hf
          obtain ⟨s11, v10, hcv10, hf⟩ := am_c_of hf
          obtain ⟨v12, hcv12, hf⟩ := am_r_of hf
          refine am_blk hX 28 17 (And.intro rfl (And.intro rfl (Exists.intro s7 (Exists.intro none (And.intro (tX9_asks l (d + 2) hcv6) (And.intro rfl (And.intro rfl (Exists.intro s9 (Exists.intro (some (.inl v8)) (And.intro (tX9_number l (d + 3) hcv8) (And.intro rfl (And.intro rfl (Exists.intro s11 (Exists.intro (some (.inl v10)) (And.intro (tX9_number_ l (d + 1) hcv10) (And.intro rfl (And.intro rfl (Exists.intro s11 (Exists.intro (some (.inl v12)) (And.intro (tX9_isGood l (d + 5) hcv12) (And.intro (fun hb => ?_) (fun hb => ?_))))))))))))))))))))))
          · have hf := am_it hf hb
            show X 104 [(2, .inl v10), (1, .inl v8), (0, .inr (.inr ((10, 0, 0), 215)))] [] s11
            exact am_wk hX [] (hJ104 s11 hf)
          · have hf := am_if hf hb
            show X 94 [(2, .inl v10), (1, .inl v8), (0, .inr (.inr ((10, 0, 0), 215)))] [] s11
            obtain ⟨g13, hf⟩ := am_g_of hf
            refine am_blk hX 45 7 (And.intro rfl (And.intro rfl (And.intro g13 (am_nl (Z := fun s14 => X 104 [(2, .inl v10), (1, .inl v8), (0, .inr (.inr ((10, 0, 0), 215)))] [] s14) hf (fun s14 hf => ?_)))))
            exact am_wk hX [] (hJ104 s14 hf)
      · intro J55 hJ55 hf
        refine am_blk hX 11 3 (And.intro rfl (And.intro (fun hb => ?_) (fun hb => ?_)))
        · have hf := am_if hf hb
          show X 55 [(0, .inr (.inr ((10, 0, 0), 215)))] [] s3
          exact am_wk hX [0] (hJ55 s3 hf)
        · have hf := am_it hf hb
          show X 31 [(0, .inr (.inr ((10, 0, 0), 215)))] [] s3
          obtain ⟨v15, hcv15, hf⟩ := am_r_of hf
          obtain ⟨s17, v16, hcv16, hf⟩ := am_c_of hf
          refine am_blk hX 14 8 (And.intro rfl (And.intro rfl (Exists.intro s3 (Exists.intro (some (.inl v15)) (And.intro (tX9_is l (d + 5) hcv15) (And.intro rfl (And.intro rfl (Exists.intro s17 (Exists.intro (some (.inl v16)) (And.intro (tX9_isRoom l (d + 3) hcv16) (And.intro (fun hb => ?_) (fun hb => ?_))))))))))))
          · have hf := am_it hf hb
            show X 55 [(0, .inr (.inr ((10, 0, 0), 215)))] [] s17
            exact am_wk hX [0] (hJ55 s17 hf)
          · have hf := am_if hf hb
            show X 48 [(0, .inr (.inr ((10, 0, 0), 215)))] [] s17
            obtain ⟨s19, v18, hcv18, hf⟩ := am_c_of hf
            refine am_blk hX 22 3 (And.intro rfl (And.intro rfl (Exists.intro s19 (Exists.intro none (And.intro (tX9_personLine l (d + 0) hcv18) (?_))))))
            show X 104 [(0, .inr (.inr ((10, 0, 0), 215)))] [] s19
            exact am_wk hX [] (hJ104 s19 hf)
    · have hf := am_if hf hb
      show X 17 [(0, .inr (.inr ((10, 0, 0), 215)))] [] s3
      obtain ⟨s21, v20, hcv20, hf⟩ := am_c_of hf
      refine am_blk hX 8 3 (And.intro rfl (And.intro rfl (Exists.intro s21 (Exists.intro none (And.intro (tX9_roadLine l (d + 0) hcv20) (?_))))))
      show X 104 [(0, .inr (.inr ((10, 0, 0), 215)))] [] s21
      exact am_wk hX [] (hJ104 s21 hf)
def fX9_lineEnds (s0 : AS) : Option (AS × Unit) :=
  am_let (fun (s1 : AS) => am_let (fun (s2 : AS) => some (s2, ())) (fun J24 => if (s1.1 215 12) = 0 then (am_c (fX9_goesOn s1) (fun (s4 : AS) (v3 : Unit) => J24 s4)) else (J24 s1))) (fun J13 => if (s0.1 215 8) = (3 : Int32) then (J13 s0) else (am_c (fX9_fails s0 (1 : Int32)) (fun (s6 : AS) (v5 : Unit) => J13 s6)))
def kX9_lineEnds : List (Nat × Instr × Nat) := [(0, .aload_n 0, 1), (1, .getfield 121, 3), (4, .iconst 3, 1), (5, .if_icmp .eq 8, 3), (8, .aload_n 0, 1), (9, .iconst 1, 1), (10, .invokevirtual 148, 3), (13, .aload_n 0, 1), (14, .getfield 132, 3), (17, .ifCond .ne 7, 3), (20, .aload_n 0, 1), (21, .invokevirtual 142, 3), (24, .return_, 1)]
theorem qX9_lineEnds : ∀ q ∈ kX9_lineEnds, decode mX9_lineEnds.2.2.1 q.1 = .ok (q.2.1, q.2.2) ∧ am_iok mX9_lineEnds.2.2.2.1 q.1 q.2.1 q.2.2 = true := by decide +kernel
set_option maxRecDepth 100000 in
theorem wX9_lineEnds : Cond.code mX9_lineEnds.2.1 mX9_lineEnds.2.2.1 mX9_lineEnds.2.2.2.1 mX9_lineEnds.2.2.2.2.1 ∈ am_T := List.mem_filter.mpr ⟨List.mem_of_getElem? (i := 1586) rfl, rfl⟩
set_option maxHeartbeats 4000000 in
set_option maxRecDepth 100000 in
theorem tX9_lineEnds (l : Launch) (d : Nat) {s0 : AS} {sE : AS} {rE : Unit} (hf : fX9_lineEnds s0 = some (sE, rE)) : am_Ct l (d + 3) mX9_lineEnds [.inr (.inr ((10, 0, 0), 215))] s0 sE none := by
  refine am_sim l (d + 2) (code := kX9_lineEnds) (by decide +kernel) wX9_lineEnds qX9_lineEnds (Nat.le_of_ble_eq_true rfl) ?_
  intro X hX
  show X 0 [(0, .inr (.inr ((10, 0, 0), 215)))] [] s0
  unfold fX9_lineEnds at hf
  refine am_jn hf (fun J13 => ∀ (s1 : AS), J13 s1 = some (sE, rE) → X 13 [(0, .inr (.inr ((10, 0, 0), 215)))] [] s1) ?_ ?_
  · intro s1 hf
    refine am_jn hf (fun J24 => ∀ (s2 : AS), J24 s2 = some (sE, rE) → X 24 [] [] s2) ?_ ?_
    · intro s2 hf
      refine am_blk hX 12 1 (And.intro rfl (am_rv hf))
    · intro J24 hJ24 hf
      refine am_blk hX 7 3 (And.intro rfl (And.intro (fun hb => ?_) (fun hb => ?_)))
      · have hf := am_if hf hb
        show X 24 [(0, .inr (.inr ((10, 0, 0), 215)))] [] s1
        exact am_wk hX [] (hJ24 s1 hf)
      · have hf := am_it hf hb
        show X 20 [(0, .inr (.inr ((10, 0, 0), 215)))] [] s1
        obtain ⟨s4, v3, hcv3, hf⟩ := am_c_of hf
        refine am_blk hX 10 2 (And.intro rfl (And.intro rfl (Exists.intro s4 (Exists.intro none (And.intro (tX9_goesOn l (d + 0) hcv3) (?_))))))
        show X 24 [(0, .inr (.inr ((10, 0, 0), 215)))] [] s4
        exact am_wk hX [] (hJ24 s4 hf)
  · intro J13 hJ13 hf
    refine am_blk hX 0 4 (And.intro rfl (And.intro (fun hb => ?_) (fun hb => ?_)))
    · have hf := am_it hf hb
      show X 13 [(0, .inr (.inr ((10, 0, 0), 215)))] [] s0
      exact am_wk hX [0] (hJ13 s0 hf)
    · have hf := am_if hf hb
      show X 8 [(0, .inr (.inr ((10, 0, 0), 215)))] [] s0
      obtain ⟨s6, v5, hcv5, hf⟩ := am_c_of hf
      refine am_blk hX 4 3 (And.intro rfl (And.intro rfl (Exists.intro s6 (Exists.intro none (And.intro (tX9_fails l (d + 1) hcv5) (?_))))))
      show X 13 [(0, .inr (.inr ((10, 0, 0), 215)))] [] s6
      exact am_wk hX [0] (hJ13 s6 hf)
def fX9_loop_L70 (s4 : AS) (x5 : Int32) : Nat → Int32 → Option (AS × Int32)
  | 0, _ => none
  | n70 + 1, x6 =>
    if ((60 : Int32) - x5) < x6 then (some (s4, (-1 : Int32))) else (am_g (¬ (((60 : Int32) - x6) < 0 ∨ 61 ≤ ((60 : Int32) - x6).toNatClampNeg)) (am_g (¬ ((60 : Int32) < 0 ∨ 61 ≤ (60 : Int32).toNatClampNeg)) (am_let (am_let (x6 + (1 : Int32)) (fun (x9 : Int32) => fX9_loop_L70 s4 x5 n70 x9)) (fun J118 => if (s4.1 229 (((60 : Int32) - x6).toNatClampNeg)) = (s4.1 229 ((60 : Int32).toNatClampNeg)) then (am_g (¬ (((60 : Int32) - x6) < 0 ∨ 61 ≤ ((60 : Int32) - x6).toNatClampNeg)) (am_g (¬ ((60 : Int32) < 0 ∨ 61 ≤ (60 : Int32).toNatClampNeg)) (if (s4.1 230 (((60 : Int32) - x6).toNatClampNeg)) = (s4.1 230 ((60 : Int32).toNatClampNeg)) then (some (s4, x6)) else (J118)))) else (J118)))))
def fX9_loop_L33 (s4 : AS) (J68 : Int32 → Option (AS × Int32)) : Nat → Int32 → Int32 → Option (AS × Int32)
  | 0, _, _ => none
  | n33 + 1, x12, x13 =>
    am_r (fX9_people s4) (fun (v14 : Int32) => if v14 ≤ x13 then (J68 x12) else (am_g (¬ (x13 < 0 ∨ 8 ≤ x13.toNatClampNeg)) (am_let (fun (x16 : Int32) => am_let (x13 + (1 : Int32)) (fun (x17 : Int32) => fX9_loop_L33 s4 J68 n33 x16 x17)) (fun J61 => if (s4.1 233 x13.toNatClampNeg) ≤ x12 then (J61 x12) else (am_g (¬ (x13 < 0 ∨ 8 ≤ x13.toNatClampNeg)) (J61 (s4.1 233 x13.toNatClampNeg)))))))
def fX9_loop (s0 : AS) : Option (AS × Int32) :=
  am_let (am_si s0 215 0 (0 : Int32)) (fun (s1 : AS) => am_r (fX9_isMarch s1) (fun (v2 : Int32) => if v2 = 0 then (some (s1, (-2 : Int32))) else (am_c (fX9_laysNow s1) (fun (s4 : AS) (v3 : Unit) => if (s4.1 215 45) = (-1 : Int32) then (am_let (fun (x5 : Int32) => fX9_loop_L70 s4 x5 am_fu (1 : Int32)) (fun J68 => fX9_loop_L33 s4 J68 am_fu (0 : Int32) (0 : Int32))) else (some (s4, (-1 : Int32)))))))
def kX9_loop : List (Nat × Instr × Nat) := [(0, .aload_n 0, 1), (1, .iconst 0, 1), (2, .putfield 80, 3), (5, .aload_n 0, 1), (6, .invokevirtual 251, 3), (9, .ifCond .ne 6, 3), (12, .bipush (-2), 2), (14, .ireturn, 1), (15, .aload_n 0, 1), (16, .invokevirtual 358, 3), (19, .aload_n 0, 1), (20, .getfield 309, 3), (23, .iconst (-1), 1), (24, .if_icmp .eq 5, 3), (27, .iconst (-1), 1), (28, .ireturn, 1), (29, .iconst 0, 1), (30, .istore_n 1, 1), (31, .iconst 0, 1), (32, .istore_n 2, 1), (33, .iload_n 2, 1), (34, .aload_n 0, 1), (35, .invokevirtual 248, 3), (38, .if_icmp .ge 30, 3), (41, .aload_n 0, 1), (42, .getfield 68, 3), (45, .iload_n 2, 1), (46, .iaload, 1), (47, .iload_n 1, 1), (48, .if_icmp .le 12, 3), (51, .aload_n 0, 1), (52, .getfield 68, 3), (55, .iload_n 2, 1), (56, .iaload, 1), (57, .goto 4, 3), (60, .iload_n 1, 1), (61, .istore_n 1, 1), (62, .iinc 2 1, 3), (65, .goto (-32), 3), (68, .iconst 1, 1), (69, .istore_n 2, 1), (70, .iload_n 2, 1), (71, .bipush 60, 2), (73, .iload_n 1, 1), (74, .isub, 1), (75, .if_icmp .gt 49, 3), (78, .aload_n 0, 1), (79, .getfield 56, 3), (82, .bipush 60, 2), (84, .iload_n 2, 1), (85, .isub, 1), (86, .iaload, 1), (87, .aload_n 0, 1), (88, .getfield 56, 3), (91, .bipush 60, 2), (93, .iaload, 1), (94, .if_icmp .ne 24, 3), (97, .aload_n 0, 1), (98, .getfield 59, 3), (101, .bipush 60, 2), (103, .iload_n 2, 1), (104, .isub, 1), (105, .iaload, 1), (106, .aload_n 0, 1), (107, .getfield 59, 3), (110, .bipush 60, 2), (112, .iaload, 1), (113, .if_icmp .ne 5, 3), (116, .iload_n 2, 1), (117, .ireturn, 1), (118, .iinc 2 1, 3), (121, .goto (-51), 3), (124, .iconst (-1), 1), (125, .ireturn, 1)]
theorem qX9_loop : ∀ q ∈ kX9_loop, decode mX9_loop.2.2.1 q.1 = .ok (q.2.1, q.2.2) ∧ am_iok mX9_loop.2.2.2.1 q.1 q.2.1 q.2.2 = true := by decide +kernel
set_option maxRecDepth 100000 in
theorem wX9_loop : Cond.code mX9_loop.2.1 mX9_loop.2.2.1 mX9_loop.2.2.2.1 mX9_loop.2.2.2.2.1 ∈ am_T := List.mem_filter.mpr ⟨List.mem_of_getElem? (i := 1794) rfl, rfl⟩
set_option maxHeartbeats 4000000 in
set_option maxRecDepth 100000 in
theorem tX9_loop (l : Launch) (d : Nat) {s0 : AS} {sE : AS} {rE : Int32} (hf : fX9_loop s0 = some (sE, rE)) : am_Ct l (d + 6) mX9_loop [.inr (.inr ((10, 0, 0), 215))] s0 sE (some (.inl rE)) := by
  refine am_sim l (d + 5) (code := kX9_loop) (by decide +kernel) wX9_loop qX9_loop (Nat.le_of_ble_eq_true rfl) ?_
  intro X hX
  show X 0 [(0, .inr (.inr ((10, 0, 0), 215)))] [] s0
  unfold fX9_loop at hf
  refine am_blk hX 0 3 (And.intro rfl (am_nl (Z := fun s1 => X 5 [(0, .inr (.inr ((10, 0, 0), 215)))] [] s1) hf (fun s1 hf => ?_)))
  obtain ⟨v2, hcv2, hf⟩ := am_r_of hf
  refine am_blk hX 3 3 (And.intro rfl (And.intro rfl (Exists.intro s1 (Exists.intro (some (.inl v2)) (And.intro (tX9_isMarch l (d + 4) hcv2) (And.intro (fun hb => ?_) (fun hb => ?_)))))))
  · have hf := am_if hf hb
    show X 15 [(0, .inr (.inr ((10, 0, 0), 215)))] [] s1
    obtain ⟨s4, v3, hcv3, hf⟩ := am_c_of hf
    refine am_blk hX 8 6 (And.intro rfl (And.intro rfl (Exists.intro s4 (Exists.intro none (And.intro (tX9_laysNow l (d + 0) hcv3) (And.intro rfl (And.intro (fun hb => ?_) (fun hb => ?_))))))))
    · have hf := am_it hf hb
      show X 29 [(0, .inr (.inr ((10, 0, 0), 215)))] [] s4
      refine am_jn hf (fun J68 => ∀ (x5 : Int32), J68 x5 = some (sE, rE) → X 68 [(0, .inr (.inr ((10, 0, 0), 215))), (1, .inl x5)] [] s4) ?_ ?_
      · intro x5 hf
        have hL70 : ∀ (n70 : Nat) (x6 : Int32), fX9_loop_L70 s4 x5 n70 x6 = some (sE, rE) → X 70 [(0, .inr (.inr ((10, 0, 0), 215))), (1, .inl x5), (2, .inl x6)] [] s4 := by
          intro n70
          induction n70 with
          | zero => intro x6 hf; exact am_no (show none = some _ from hf)
          | succ n70 ih70 =>
            intro x6 hf
            refine am_blk hX 41 5 (And.intro (fun hb => ?_) (fun hb => ?_))
            · have hf := am_it hf hb
              show X 124 [(0, .inr (.inr ((10, 0, 0), 215))), (1, .inl x5), (2, .inl x6)] [] s4
              refine am_blk hX 72 2 (am_ri hf)
            · have hf := am_if hf hb
              show X 78 [(0, .inr (.inr ((10, 0, 0), 215))), (1, .inl x5), (2, .inl x6)] [] s4
              obtain ⟨g7, hf⟩ := am_g_of hf
              obtain ⟨g8, hf⟩ := am_g_of hf
              refine am_jn hf (fun J118 => J118 = some (sE, rE) → X 118 [(0, .inr (.inr ((10, 0, 0), 215))), (1, .inl x5), (2, .inl x6)] [] s4) ?_ ?_
              · intro hf
                refine am_blk hX 70 1 (am_nl (Z := fun x9 => X 121 [(2, .inl x9), (0, .inr (.inr ((10, 0, 0), 215))), (1, .inl x5)] [] s4) hf (fun x9 hf => ?_))
                refine am_blk hX 71 1 (?_)
                show X 70 [(2, .inl x9), (0, .inr (.inr ((10, 0, 0), 215))), (1, .inl x5)] [] s4
                exact am_wk hX [1, 2, 0] (ih70 x9 hf)
              · intro J118 hJ118 hf
                refine am_blk hX 46 11 (And.intro rfl (And.intro rfl (And.intro g7 (And.intro rfl (And.intro rfl (And.intro g8 (And.intro (fun hb => ?_) (fun hb => ?_))))))))
                · have hf := am_if hf hb
                  show X 118 [(0, .inr (.inr ((10, 0, 0), 215))), (1, .inl x5), (2, .inl x6)] [] s4
                  exact am_wk hX [0, 1, 2] (hJ118 hf)
                · have hf := am_it hf hb
                  show X 97 [(0, .inr (.inr ((10, 0, 0), 215))), (1, .inl x5), (2, .inl x6)] [] s4
                  obtain ⟨g10, hf⟩ := am_g_of hf
                  obtain ⟨g11, hf⟩ := am_g_of hf
                  refine am_blk hX 57 11 (And.intro rfl (And.intro rfl (And.intro g10 (And.intro rfl (And.intro rfl (And.intro g11 (And.intro (fun hb => ?_) (fun hb => ?_))))))))
                  · have hf := am_if hf hb
                    show X 118 [(0, .inr (.inr ((10, 0, 0), 215))), (1, .inl x5), (2, .inl x6)] [] s4
                    exact am_wk hX [0, 1, 2] (hJ118 hf)
                  · have hf := am_it hf hb
                    show X 116 [(0, .inr (.inr ((10, 0, 0), 215))), (1, .inl x5), (2, .inl x6)] [] s4
                    refine am_blk hX 68 2 (am_ri hf)
        refine am_blk hX 39 2 (?_)
        show X 70 [(2, .inl (1 : Int32)), (0, .inr (.inr ((10, 0, 0), 215))), (1, .inl x5)] [] s4
        exact am_wk hX [1, 2, 0] (hL70 am_fu (1 : Int32) hf)
      · intro J68 hJ68 hf
        have hL33 : ∀ (n33 : Nat) (x12 : Int32) (x13 : Int32), fX9_loop_L33 s4 J68 n33 x12 x13 = some (sE, rE) → X 33 [(0, .inr (.inr ((10, 0, 0), 215))), (1, .inl x12), (2, .inl x13)] [] s4 := by
          intro n33
          induction n33 with
          | zero => intro x12 x13 hf; exact am_no (show none = some _ from hf)
          | succ n33 ih33 =>
            intro x12 x13 hf
            obtain ⟨v14, hcv14, hf⟩ := am_r_of hf
            refine am_blk hX 20 4 (And.intro rfl (And.intro rfl (Exists.intro s4 (Exists.intro (some (.inl v14)) (And.intro (tX9_people l (d + 4) hcv14) (And.intro (fun hb => ?_) (fun hb => ?_)))))))
            · have hf := am_it hf hb
              show X 68 [(0, .inr (.inr ((10, 0, 0), 215))), (1, .inl x12), (2, .inl x13)] [] s4
              exact am_wk hX [0, 1] (hJ68 x12 hf)
            · have hf := am_if hf hb
              show X 41 [(0, .inr (.inr ((10, 0, 0), 215))), (1, .inl x12), (2, .inl x13)] [] s4
              obtain ⟨g15, hf⟩ := am_g_of hf
              refine am_jn hf (fun J61 => ∀ (x16 : Int32), J61 x16 = some (sE, rE) → X 61 [(0, .inr (.inr ((10, 0, 0), 215))), (2, .inl x13)] [.inl x16] s4) ?_ ?_
              · intro x16 hf
                refine am_blk hX 36 2 (am_nl (Z := fun x17 => X 65 [(2, .inl x17), (1, .inl x16), (0, .inr (.inr ((10, 0, 0), 215)))] [] s4) hf (fun x17 hf => ?_))
                refine am_blk hX 38 1 (?_)
                show X 33 [(2, .inl x17), (1, .inl x16), (0, .inr (.inr ((10, 0, 0), 215)))] [] s4
                exact am_wk hX [2, 1, 0] (ih33 x16 x17 hf)
              · intro J61 hJ61 hf
                refine am_blk hX 24 6 (And.intro rfl (And.intro rfl (And.intro g15 (And.intro (fun hb => ?_) (fun hb => ?_)))))
                · have hf := am_it hf hb
                  show X 60 [(0, .inr (.inr ((10, 0, 0), 215))), (1, .inl x12), (2, .inl x13)] [] s4
                  refine am_blk hX 35 1 (?_)
                  show X 61 [(0, .inr (.inr ((10, 0, 0), 215))), (1, .inl x12), (2, .inl x13)] [.inl x12] s4
                  exact am_wk hX [0, 2] (hJ61 x12 hf)
                · have hf := am_if hf hb
                  show X 51 [(0, .inr (.inr ((10, 0, 0), 215))), (1, .inl x12), (2, .inl x13)] [] s4
                  obtain ⟨g18, hf⟩ := am_g_of hf
                  refine am_blk hX 30 5 (And.intro rfl (And.intro rfl (And.intro g18 (?_))))
                  show X 61 [(0, .inr (.inr ((10, 0, 0), 215))), (1, .inl x12), (2, .inl x13)] [.inl (s4.1 233 x13.toNatClampNeg)] s4
                  exact am_wk hX [0, 2] (hJ61 (s4.1 233 x13.toNatClampNeg) hf)
        refine am_blk hX 16 4 (?_)
        show X 33 [(2, .inl (0 : Int32)), (1, .inl (0 : Int32)), (0, .inr (.inr ((10, 0, 0), 215)))] [] s4
        exact am_wk hX [2, 1, 0] (hL33 am_fu (0 : Int32) (0 : Int32) hf)
    · have hf := am_if hf hb
      show X 27 [(0, .inr (.inr ((10, 0, 0), 215)))] [] s4
      refine am_blk hX 14 2 (am_ri hf)
  · have hf := am_it hf hb
    show X 12 [(0, .inr (.inr ((10, 0, 0), 215)))] [] s1
    refine am_blk hX 6 2 (am_ri hf)
def fX9_luck_L43 (a1 : Int32) (a2 : Int32) (a3 : Int32) : Nat → AS → Int32 → Int32 → Option (AS × Int32)
  | 0, _, _, _ => none
  | n43 + 1, s5, x6, x7 =>
    if a2 ≤ x7 then (some (s5, x6)) else (am_c (fX9_draws s5 (a1.toInt64 + x7.toInt64)) (fun (s9 : AS) (v8 : Unit) => am_r (fX9_firstAt s9 a3 (0 : Int32)) (fun (v10 : Int32) => am_let (fun (x11 : Int32) => am_let (x6 + x11) (fun (x12 : Int32) => am_let (x7 + (1 : Int32)) (fun (x13 : Int32) => fX9_luck_L43 a1 a2 a3 n43 s9 x12 x13))) (fun J76 => if v10 = (-1 : Int32) then (J76 (0 : Int32)) else (J76 (1 : Int32))))))
def fX9_luck (s0 : AS) (a1 : Int32) (a2 : Int32) (a3 : Int32) : Option (AS × Int32) :=
  am_let (am_si s0 215 0 (0 : Int32)) (fun (s1 : AS) => am_r (fX9_isSeed s1 a1) (fun (v2 : Int32) => am_let (some (s1, (-2 : Int32))) (fun J34 => if v2 = 0 then (J34) else (am_r (fX9_in a2.toInt64 (1 : Int64) (20 : Int64)) (fun (v3 : Int32) => if v3 = 0 then (J34) else (am_r (fX9_isPlace s1 a3.toInt64) (fun (v4 : Int32) => if v4 = 0 then (J34) else (fX9_luck_L43 a1 a2 a3 am_fu s1 (0 : Int32) (0 : Int32)))))))))
def kX9_luck : List (Nat × Instr × Nat) := [(0, .aload_n 0, 1), (1, .iconst 0, 1), (2, .putfield 80, 3), (5, .aload_n 0, 1), (6, .iload_n 1, 1), (7, .invokevirtual 442, 3), (10, .ifCond .eq 24, 3), (13, .iload_n 2, 1), (14, .i2l, 1), (15, .lconst 1, 1), (16, .ldc2_w 448, 3), (19, .invokestatic 85, 3), (22, .ifCond .eq 12, 3), (25, .aload_n 0, 1), (26, .iload_n 3, 1), (27, .i2l, 1), (28, .invokevirtual 349, 3), (31, .ifCond .ne 6, 3), (34, .bipush (-2), 2), (36, .ireturn, 1), (37, .iconst 0, 1), (38, .istore 4, 2), (40, .iconst 0, 1), (41, .istore 5, 2), (43, .iload 5, 2), (45, .iload_n 2, 1), (46, .if_icmp .ge 39, 3), (49, .aload_n 0, 1), (50, .iload_n 1, 1), (51, .i2l, 1), (52, .iload 5, 2), (54, .i2l, 1), (55, .ladd, 1), (56, .invokevirtual 445, 3), (59, .iload 4, 2), (61, .aload_n 0, 1), (62, .iload_n 3, 1), (63, .iconst 0, 1), (64, .invokevirtual 361, 3), (67, .iconst (-1), 1), (68, .if_icmp .eq 7, 3), (71, .iconst 1, 1), (72, .goto 4, 3), (75, .iconst 0, 1), (76, .iadd, 1), (77, .istore 4, 2), (79, .iinc 5 1, 3), (82, .goto (-39), 3), (85, .iload 4, 2), (87, .ireturn, 1)]
theorem qX9_luck : ∀ q ∈ kX9_luck, decode mX9_luck.2.2.1 q.1 = .ok (q.2.1, q.2.2) ∧ am_iok mX9_luck.2.2.2.1 q.1 q.2.1 q.2.2 = true := by decide +kernel
set_option maxRecDepth 100000 in
theorem wX9_luck : Cond.code mX9_luck.2.1 mX9_luck.2.2.1 mX9_luck.2.2.2.1 mX9_luck.2.2.2.2.1 ∈ am_T := List.mem_filter.mpr ⟨List.mem_of_getElem? (i := 1969) rfl, rfl⟩
set_option maxHeartbeats 4000000 in
set_option maxRecDepth 100000 in
theorem tX9_luck (l : Launch) (d : Nat) {s0 : AS} {a1 : Int32} {a2 : Int32} {a3 : Int32} {sE : AS} {rE : Int32} (hf : fX9_luck s0 a1 a2 a3 = some (sE, rE)) : am_Ct l (d + 6) mX9_luck [.inr (.inr ((10, 0, 0), 215)), .inl a1, .inl a2, .inl a3] s0 sE (some (.inl rE)) := by
  refine am_sim l (d + 5) (code := kX9_luck) (by decide +kernel) wX9_luck qX9_luck (Nat.le_of_ble_eq_true rfl) ?_
  intro X hX
  show X 0 [(0, .inr (.inr ((10, 0, 0), 215))), (1, .inl a1), (2, .inl a2), (3, .inl a3)] [] s0
  unfold fX9_luck at hf
  refine am_blk hX 0 3 (And.intro rfl (am_nl (Z := fun s1 => X 5 [(0, .inr (.inr ((10, 0, 0), 215))), (1, .inl a1), (2, .inl a2), (3, .inl a3)] [] s1) hf (fun s1 hf => ?_)))
  obtain ⟨v2, hcv2, hf⟩ := am_r_of hf
  refine am_jn hf (fun J34 => J34 = some (sE, rE) → X 34 [] [] s1) ?_ ?_
  · intro hf
    refine am_blk hX 18 2 (am_ri hf)
  · intro J34 hJ34 hf
    refine am_blk hX 3 4 (And.intro rfl (And.intro rfl (Exists.intro s1 (Exists.intro (some (.inl v2)) (And.intro (tX9_isSeed l (d + 3) hcv2) (And.intro (fun hb => ?_) (fun hb => ?_)))))))
    · have hf := am_it hf hb
      show X 34 [(0, .inr (.inr ((10, 0, 0), 215))), (1, .inl a1), (2, .inl a2), (3, .inl a3)] [] s1
      exact am_wk hX [] (hJ34 hf)
    · have hf := am_if hf hb
      show X 13 [(0, .inr (.inr ((10, 0, 0), 215))), (1, .inl a1), (2, .inl a2), (3, .inl a3)] [] s1
      obtain ⟨v3, hcv3, hf⟩ := am_r_of hf
      refine am_blk hX 7 6 (And.intro rfl (Exists.intro s1 (Exists.intro (some (.inl v3)) (And.intro (tX9_in l (d + 4) hcv3) (And.intro (fun hb => ?_) (fun hb => ?_))))))
      · have hf := am_it hf hb
        show X 34 [(0, .inr (.inr ((10, 0, 0), 215))), (1, .inl a1), (2, .inl a2), (3, .inl a3)] [] s1
        exact am_wk hX [] (hJ34 hf)
      · have hf := am_if hf hb
        show X 25 [(0, .inr (.inr ((10, 0, 0), 215))), (1, .inl a1), (2, .inl a2), (3, .inl a3)] [] s1
        obtain ⟨v4, hcv4, hf⟩ := am_r_of hf
        refine am_blk hX 13 5 (And.intro rfl (And.intro rfl (Exists.intro s1 (Exists.intro (some (.inl v4)) (And.intro (tX9_isPlace l (d + 3) hcv4) (And.intro (fun hb => ?_) (fun hb => ?_)))))))
        · have hf := am_if hf hb
          show X 37 [(0, .inr (.inr ((10, 0, 0), 215))), (1, .inl a1), (2, .inl a2), (3, .inl a3)] [] s1
          have hL43 : ∀ (n43 : Nat) (s5 : AS) (x6 : Int32) (x7 : Int32), fX9_luck_L43 a1 a2 a3 n43 s5 x6 x7 = some (sE, rE) → X 43 [(0, .inr (.inr ((10, 0, 0), 215))), (1, .inl a1), (2, .inl a2), (3, .inl a3), (4, .inl x6), (5, .inl x7)] [] s5 := by
            intro n43
            induction n43 with
            | zero => intro s5 x6 x7 hf; exact am_no (show none = some _ from hf)
            | succ n43 ih43 =>
              intro s5 x6 x7 hf
              refine am_blk hX 24 3 (And.intro (fun hb => ?_) (fun hb => ?_))
              · have hf := am_it hf hb
                show X 85 [(0, .inr (.inr ((10, 0, 0), 215))), (1, .inl a1), (2, .inl a2), (3, .inl a3), (4, .inl x6), (5, .inl x7)] [] s5
                refine am_blk hX 48 2 (am_ri hf)
              · have hf := am_if hf hb
                show X 49 [(0, .inr (.inr ((10, 0, 0), 215))), (1, .inl a1), (2, .inl a2), (3, .inl a3), (4, .inl x6), (5, .inl x7)] [] s5
                obtain ⟨s9, v8, hcv8, hf⟩ := am_c_of hf
                obtain ⟨v10, hcv10, hf⟩ := am_r_of hf
                refine am_jn hf (fun J76 => ∀ (x11 : Int32), J76 x11 = some (sE, rE) → X 76 [(0, .inr (.inr ((10, 0, 0), 215))), (1, .inl a1), (2, .inl a2), (3, .inl a3), (5, .inl x7)] [.inl x11, .inl x6] s9) ?_ ?_
                · intro x11 hf
                  refine am_blk hX 44 2 (am_nl (Z := fun x12 => X 79 [(4, .inl x12), (0, .inr (.inr ((10, 0, 0), 215))), (1, .inl a1), (2, .inl a2), (3, .inl a3), (5, .inl x7)] [] s9) hf (fun x12 hf => ?_))
                  refine am_blk hX 46 1 (am_nl (Z := fun x13 => X 82 [(5, .inl x13), (4, .inl x12), (0, .inr (.inr ((10, 0, 0), 215))), (1, .inl a1), (2, .inl a2), (3, .inl a3)] [] s9) hf (fun x13 hf => ?_))
                  refine am_blk hX 47 1 (?_)
                  show X 43 [(5, .inl x13), (4, .inl x12), (0, .inr (.inr ((10, 0, 0), 215))), (1, .inl a1), (2, .inl a2), (3, .inl a3)] [] s9
                  exact am_wk hX [2, 3, 4, 5, 1, 0] (ih43 s9 x12 x13 hf)
                · intro J76 hJ76 hf
                  refine am_blk hX 27 14 (And.intro rfl (And.intro rfl (Exists.intro s9 (Exists.intro none (And.intro (tX9_draws l (d + 0) hcv8) (And.intro rfl (And.intro rfl (Exists.intro s9 (Exists.intro (some (.inl v10)) (And.intro (tX9_firstAt l (d + 4) hcv10) (And.intro (fun hb => ?_) (fun hb => ?_))))))))))))
                  · have hf := am_it hf hb
                    show X 75 [(0, .inr (.inr ((10, 0, 0), 215))), (1, .inl a1), (2, .inl a2), (3, .inl a3), (4, .inl x6), (5, .inl x7)] [.inl x6] s9
                    refine am_blk hX 43 1 (?_)
                    show X 76 [(0, .inr (.inr ((10, 0, 0), 215))), (1, .inl a1), (2, .inl a2), (3, .inl a3), (4, .inl x6), (5, .inl x7)] [.inl (0 : Int32), .inl x6] s9
                    exact am_wk hX [0, 1, 2, 3, 5] (hJ76 (0 : Int32) hf)
                  · have hf := am_if hf hb
                    show X 71 [(0, .inr (.inr ((10, 0, 0), 215))), (1, .inl a1), (2, .inl a2), (3, .inl a3), (4, .inl x6), (5, .inl x7)] [.inl x6] s9
                    refine am_blk hX 41 2 (?_)
                    show X 76 [(0, .inr (.inr ((10, 0, 0), 215))), (1, .inl a1), (2, .inl a2), (3, .inl a3), (4, .inl x6), (5, .inl x7)] [.inl (1 : Int32), .inl x6] s9
                    exact am_wk hX [0, 1, 2, 3, 5] (hJ76 (1 : Int32) hf)
          refine am_blk hX 20 4 (?_)
          show X 43 [(5, .inl (0 : Int32)), (4, .inl (0 : Int32)), (0, .inr (.inr ((10, 0, 0), 215))), (1, .inl a1), (2, .inl a2), (3, .inl a3)] [] s1
          exact am_wk hX [2, 3, 4, 5, 1, 0] (hL43 am_fu s1 (0 : Int32) (0 : Int32) hf)
        · have hf := am_it hf hb
          show X 34 [(0, .inr (.inr ((10, 0, 0), 215))), (1, .inl a1), (2, .inl a2), (3, .inl a3)] [] s1
          exact am_wk hX [] (hJ34 hf)
def fX9_marchLine (s0 : AS) : Option (AS × Unit) :=
  am_c (fX9_asks s0 (6941627 : Int64)) (fun (s2 : AS) (v1 : Unit) => am_c (fX9_number_ s2 (235981828 : Int64) (2 : Int32) (7 : Int32)) (fun (s4 : AS) (v3 : Int32) => am_c (fX9_tells s4 (0 : Int32) v3) (fun (s6 : AS) (v5 : Unit) => am_c (fX9_asks s6 (10492274 : Int64)) (fun (s8 : AS) (v7 : Unit) => am_c (fX9_placeHere s8) (fun (s10 : AS) (v9 : Int32) => am_c (fX9_tells s10 (1 : Int32) v9) (fun (s12 : AS) (v11 : Unit) => am_c (fX9_number_ s12 (369932 : Int64) (0 : Int32) (3 : Int32)) (fun (s14 : AS) (v13 : Int32) => am_c (fX9_tells s14 (2 : Int32) v13) (fun (s16 : AS) (v15 : Unit) => am_c (fX9_number_ s16 (298288 : Int64) (0 : Int32) (10 : Int32)) (fun (s18 : AS) (v17 : Int32) => am_c (fX9_tells s18 (3 : Int32) v17) (fun (s20 : AS) (v19 : Unit) => some (s20, ())))))))))))
def kX9_marchLine : List (Nat × Instr × Nat) := [(0, .aload_n 0, 1), (1, .ldc2_w 213, 3), (4, .invokevirtual 151, 3), (7, .aload_n 0, 1), (8, .iconst 0, 1), (9, .aload_n 0, 1), (10, .ldc2_w 215, 3), (13, .iconst 2, 1), (14, .bipush 7, 2), (16, .invokevirtual 174, 3), (19, .invokevirtual 177, 3), (22, .aload_n 0, 1), (23, .ldc2_w 217, 3), (26, .invokevirtual 151, 3), (29, .aload_n 0, 1), (30, .iconst 1, 1), (31, .aload_n 0, 1), (32, .invokevirtual 166, 3), (35, .invokevirtual 177, 3), (38, .aload_n 0, 1), (39, .iconst 2, 1), (40, .aload_n 0, 1), (41, .ldc2_w 219, 3), (44, .iconst 0, 1), (45, .iconst 3, 1), (46, .invokevirtual 174, 3), (49, .invokevirtual 177, 3), (52, .aload_n 0, 1), (53, .iconst 3, 1), (54, .aload_n 0, 1), (55, .ldc2_w 221, 3), (58, .iconst 0, 1), (59, .bipush 10, 2), (61, .invokevirtual 174, 3), (64, .invokevirtual 177, 3), (67, .return_, 1)]
theorem qX9_marchLine : ∀ q ∈ kX9_marchLine, decode mX9_marchLine.2.2.1 q.1 = .ok (q.2.1, q.2.2) ∧ am_iok mX9_marchLine.2.2.2.1 q.1 q.2.1 q.2.2 = true := by decide +kernel
set_option maxRecDepth 100000 in
theorem wX9_marchLine : Cond.code mX9_marchLine.2.1 mX9_marchLine.2.2.1 mX9_marchLine.2.2.2.1 mX9_marchLine.2.2.2.2.1 ∈ am_T := List.mem_filter.mpr ⟨List.mem_of_getElem? (i := 1518) rfl, rfl⟩
set_option maxHeartbeats 4000000 in
set_option maxRecDepth 100000 in
theorem tX9_marchLine (l : Launch) (d : Nat) {s0 : AS} {sE : AS} {rE : Unit} (hf : fX9_marchLine s0 = some (sE, rE)) : am_Ct l (d + 6) mX9_marchLine [.inr (.inr ((10, 0, 0), 215))] s0 sE none := by
  refine am_sim l (d + 5) (code := kX9_marchLine) (by decide +kernel) wX9_marchLine qX9_marchLine (Nat.le_of_ble_eq_true rfl) ?_
  intro X hX
  show X 0 [(0, .inr (.inr ((10, 0, 0), 215)))] [] s0
  unfold fX9_marchLine at hf
  obtain ⟨s2, v1, hcv1, hf⟩ := am_c_of hf
  obtain ⟨s4, v3, hcv3, hf⟩ := am_c_of hf
  obtain ⟨s6, v5, hcv5, hf⟩ := am_c_of hf
  obtain ⟨s8, v7, hcv7, hf⟩ := am_c_of hf
  obtain ⟨s10, v9, hcv9, hf⟩ := am_c_of hf
  obtain ⟨s12, v11, hcv11, hf⟩ := am_c_of hf
  obtain ⟨s14, v13, hcv13, hf⟩ := am_c_of hf
  obtain ⟨s16, v15, hcv15, hf⟩ := am_c_of hf
  obtain ⟨s18, v17, hcv17, hf⟩ := am_c_of hf
  obtain ⟨s20, v19, hcv19, hf⟩ := am_c_of hf
  refine am_blk hX 0 36 (And.intro rfl (And.intro rfl (Exists.intro s2 (Exists.intro none (And.intro (tX9_asks l (d + 1) hcv1) (And.intro rfl (And.intro rfl (Exists.intro s4 (Exists.intro (some (.inl v3)) (And.intro (tX9_number_ l (d + 0) hcv3) (And.intro rfl (And.intro rfl (Exists.intro s6 (Exists.intro none (And.intro (tX9_tells l (d + 4) hcv5) (And.intro rfl (And.intro rfl (Exists.intro s8 (Exists.intro none (And.intro (tX9_asks l (d + 1) hcv7) (And.intro rfl (And.intro rfl (Exists.intro s10 (Exists.intro (some (.inl v9)) (And.intro (tX9_placeHere l (d + 1) hcv9) (And.intro rfl (And.intro rfl (Exists.intro s12 (Exists.intro none (And.intro (tX9_tells l (d + 4) hcv11) (And.intro rfl (And.intro rfl (Exists.intro s14 (Exists.intro (some (.inl v13)) (And.intro (tX9_number_ l (d + 0) hcv13) (And.intro rfl (And.intro rfl (Exists.intro s16 (Exists.intro none (And.intro (tX9_tells l (d + 4) hcv15) (And.intro rfl (And.intro rfl (Exists.intro s18 (Exists.intro (some (.inl v17)) (And.intro (tX9_number_ l (d + 0) hcv17) (And.intro rfl (And.intro rfl (Exists.intro s20 (Exists.intro none (And.intro (tX9_tells l (d + 4) hcv19) (And.intro rfl (am_rv hf))))))))))))))))))))))))))))))))))))))))))))))))))))
def fX9_march_L13 (J71 : AS → Option (AS × Int32)) : Nat → AS → Option (AS × Int32)
  | 0, _ => none
  | n13 + 1, s12 =>
    am_r (fX9_isGood s12) (fun (v13 : Int32) => if v13 = 0 then (J71 s12) else (if (s12.1 215 8) = 0 then (J71 s12) else (am_g (¬ ((4 : Int32) < 0 ∨ 5 ≤ (4 : Int32).toNatClampNeg)) (am_let (fun (s15 : AS) => am_r (fX9_isGood s15) (fun (v16 : Int32) => am_let (fun (s17 : AS) => am_g (¬ ((4 : Int32) < 0 ∨ 5 ≤ (4 : Int32).toNatClampNeg)) (am_g (¬ ((4 : Int32) < 0 ∨ 5 ≤ (4 : Int32).toNatClampNeg)) (am_let (am_si s17 221 ((4 : Int32).toNatClampNeg) ((s17.1 221 ((4 : Int32).toNatClampNeg)) + (1 : Int32))) (fun (s20 : AS) => fX9_march_L13 J71 n13 s20)))) (fun J58 => if v16 = 0 then (J58 s15) else (am_c (fX9_lineEnds s15) (fun (s22 : AS) (v21 : Unit) => J58 s22))))) (fun J47 => if (s12.1 221 ((4 : Int32).toNatClampNeg)) = 0 then (am_c (fX9_marchLine s12) (fun (s26 : AS) (v25 : Unit) => J47 s26)) else (am_c (fX9_line s12) (fun (s24 : AS) (v23 : Unit) => J47 s24)))))))
def fX9_march (s0 : AS) : Option (AS × Int32) :=
  am_let (am_si s0 215 0 (0 : Int32)) (fun (s1 : AS) => am_c (fX9_clears s1) (fun (s3 : AS) (v2 : Unit) => am_c (fX9_begins s3) (fun (s5 : AS) (v4 : Unit) => am_let (fun (s6 : AS) => am_c (fX9_isOver s6) (fun (s8 : AS) (v7 : Unit) => if (s8.1 215 12) = 0 then (am_c (fX9_copyMarch s8 (4 : Int32) (0 : Int32)) (fun (s10 : AS) (v9 : Unit) => am_g (¬ ((0 : Int32) < 0 ∨ 5 ≤ (0 : Int32).toNatClampNeg)) (some (s10, s10.1 221 ((0 : Int32).toNatClampNeg))))) else (some (s8, (-4 : Int32))))) (fun J71 => fX9_march_L13 J71 am_fu s5))))
def kX9_march : List (Nat × Instr × Nat) := [(0, .aload_n 0, 1), (1, .iconst 0, 1), (2, .putfield 80, 3), (5, .aload_n 0, 1), (6, .invokevirtual 223, 3), (9, .aload_n 0, 1), (10, .invokevirtual 226, 3), (13, .aload_n 0, 1), (14, .invokevirtual 209, 3), (17, .ifCond .eq 54, 3), (20, .aload_n 0, 1), (21, .getfield 121, 3), (24, .ifCond .eq 47, 3), (27, .aload_n 0, 1), (28, .getfield 31, 3), (31, .iconst 4, 1), (32, .iaload, 1), (33, .ifCond .ne 10, 3), (36, .aload_n 0, 1), (37, .invokevirtual 229, 3), (40, .goto 7, 3), (43, .aload_n 0, 1), (44, .invokevirtual 232, 3), (47, .aload_n 0, 1), (48, .invokevirtual 209, 3), (51, .ifCond .eq 7, 3), (54, .aload_n 0, 1), (55, .invokevirtual 235, 3), (58, .aload_n 0, 1), (59, .getfield 31, 3), (62, .iconst 4, 1), (63, .dup2, 1), (64, .iaload, 1), (65, .iconst 1, 1), (66, .iadd, 1), (67, .iastore, 1), (68, .goto (-55), 3), (71, .aload_n 0, 1), (72, .invokevirtual 238, 3), (75, .aload_n 0, 1), (76, .getfield 132, 3), (79, .ifCond .eq 6, 3), (82, .bipush (-4), 2), (84, .ireturn, 1), (85, .aload_n 0, 1), (86, .iconst 4, 1), (87, .iconst 0, 1), (88, .invokevirtual 241, 3), (91, .aload_n 0, 1), (92, .getfield 31, 3), (95, .iconst 0, 1), (96, .iaload, 1), (97, .ireturn, 1)]
theorem qX9_march : ∀ q ∈ kX9_march, decode mX9_march.2.2.1 q.1 = .ok (q.2.1, q.2.2) ∧ am_iok mX9_march.2.2.2.1 q.1 q.2.1 q.2.2 = true := by decide +kernel
set_option maxRecDepth 100000 in
theorem wX9_march : Cond.code mX9_march.2.1 mX9_march.2.2.1 mX9_march.2.2.2.1 mX9_march.2.2.2.2.1 ∈ am_T := List.mem_filter.mpr ⟨List.mem_of_getElem? (i := 1485) rfl, rfl⟩
set_option maxHeartbeats 4000000 in
set_option maxRecDepth 100000 in
theorem tX9_march (l : Launch) (d : Nat) {s0 : AS} {sE : AS} {rE : Int32} (hf : fX9_march s0 = some (sE, rE)) : am_Ct l (d + 8) mX9_march [.inr (.inr ((10, 0, 0), 215))] s0 sE (some (.inl rE)) := by
  refine am_sim l (d + 7) (code := kX9_march) (by decide +kernel) wX9_march qX9_march (Nat.le_of_ble_eq_true rfl) ?_
  intro X hX
  show X 0 [(0, .inr (.inr ((10, 0, 0), 215)))] [] s0
  unfold fX9_march at hf
  refine am_blk hX 0 3 (And.intro rfl (am_nl (Z := fun s1 => X 5 [(0, .inr (.inr ((10, 0, 0), 215)))] [] s1) hf (fun s1 hf => ?_)))
  obtain ⟨s3, v2, hcv2, hf⟩ := am_c_of hf
  obtain ⟨s5, v4, hcv4, hf⟩ := am_c_of hf
  refine am_jn hf (fun J71 => ∀ (s6 : AS), J71 s6 = some (sE, rE) → X 71 [(0, .inr (.inr ((10, 0, 0), 215)))] [] s6) ?_ ?_
  · intro s6 hf
    obtain ⟨s8, v7, hcv7, hf⟩ := am_c_of hf
    refine am_blk hX 37 5 (And.intro rfl (And.intro rfl (Exists.intro s8 (Exists.intro none (And.intro (tX9_isOver l (d + 6) hcv7) (And.intro rfl (And.intro (fun hb => ?_) (fun hb => ?_))))))))
    · have hf := am_it hf hb
      show X 85 [(0, .inr (.inr ((10, 0, 0), 215)))] [] s8
      obtain ⟨s10, v9, hcv9, hf⟩ := am_c_of hf
      obtain ⟨g11, hf⟩ := am_g_of hf
      refine am_blk hX 44 9 (And.intro rfl (And.intro rfl (Exists.intro s10 (Exists.intro none (And.intro (tX9_copyMarch l (d + 5) hcv9) (And.intro rfl (And.intro rfl (And.intro g11 (am_ri hf)))))))))
    · have hf := am_if hf hb
      show X 82 [(0, .inr (.inr ((10, 0, 0), 215)))] [] s8
      refine am_blk hX 42 2 (am_ri hf)
  · intro J71 hJ71 hf
    have hL13 : ∀ (n13 : Nat) (s12 : AS), fX9_march_L13 J71 n13 s12 = some (sE, rE) → X 13 [(0, .inr (.inr ((10, 0, 0), 215)))] [] s12 := by
      intro n13
      induction n13 with
      | zero => intro s12 hf; exact am_no (show none = some _ from hf)
      | succ n13 ih13 =>
        intro s12 hf
        obtain ⟨v13, hcv13, hf⟩ := am_r_of hf
        refine am_blk hX 7 3 (And.intro rfl (And.intro rfl (Exists.intro s12 (Exists.intro (some (.inl v13)) (And.intro (tX9_isGood l (d + 6) hcv13) (And.intro (fun hb => ?_) (fun hb => ?_)))))))
        · have hf := am_it hf hb
          show X 71 [(0, .inr (.inr ((10, 0, 0), 215)))] [] s12
          exact am_wk hX [0] (hJ71 s12 hf)
        · have hf := am_if hf hb
          show X 20 [(0, .inr (.inr ((10, 0, 0), 215)))] [] s12
          refine am_blk hX 10 3 (And.intro rfl (And.intro (fun hb => ?_) (fun hb => ?_)))
          · have hf := am_it hf hb
            show X 71 [(0, .inr (.inr ((10, 0, 0), 215)))] [] s12
            exact am_wk hX [0] (hJ71 s12 hf)
          · have hf := am_if hf hb
            show X 27 [(0, .inr (.inr ((10, 0, 0), 215)))] [] s12
            obtain ⟨g14, hf⟩ := am_g_of hf
            refine am_jn hf (fun J47 => ∀ (s15 : AS), J47 s15 = some (sE, rE) → X 47 [(0, .inr (.inr ((10, 0, 0), 215)))] [] s15) ?_ ?_
            · intro s15 hf
              obtain ⟨v16, hcv16, hf⟩ := am_r_of hf
              refine am_jn hf (fun J58 => ∀ (s17 : AS), J58 s17 = some (sE, rE) → X 58 [(0, .inr (.inr ((10, 0, 0), 215)))] [] s17) ?_ ?_
              · intro s17 hf
                obtain ⟨g18, hf⟩ := am_g_of hf
                obtain ⟨g19, hf⟩ := am_g_of hf
                refine am_blk hX 28 8 (And.intro rfl (And.intro rfl (And.intro g18 (And.intro rfl (And.intro g19 (am_nl (Z := fun s20 => X 68 [(0, .inr (.inr ((10, 0, 0), 215)))] [] s20) hf (fun s20 hf => ?_)))))))
                refine am_blk hX 36 1 (?_)
                show X 13 [(0, .inr (.inr ((10, 0, 0), 215)))] [] s20
                exact am_wk hX [0] (ih13 s20 hf)
              · intro J58 hJ58 hf
                refine am_blk hX 23 3 (And.intro rfl (And.intro rfl (Exists.intro s15 (Exists.intro (some (.inl v16)) (And.intro (tX9_isGood l (d + 6) hcv16) (And.intro (fun hb => ?_) (fun hb => ?_)))))))
                · have hf := am_it hf hb
                  show X 58 [(0, .inr (.inr ((10, 0, 0), 215)))] [] s15
                  exact am_wk hX [0] (hJ58 s15 hf)
                · have hf := am_if hf hb
                  show X 54 [(0, .inr (.inr ((10, 0, 0), 215)))] [] s15
                  obtain ⟨s22, v21, hcv21, hf⟩ := am_c_of hf
                  refine am_blk hX 26 2 (And.intro rfl (And.intro rfl (Exists.intro s22 (Exists.intro none (And.intro (tX9_lineEnds l (d + 4) hcv21) (?_))))))
                  show X 58 [(0, .inr (.inr ((10, 0, 0), 215)))] [] s22
                  exact am_wk hX [0] (hJ58 s22 hf)
            · intro J47 hJ47 hf
              refine am_blk hX 13 5 (And.intro rfl (And.intro rfl (And.intro g14 (And.intro (fun hb => ?_) (fun hb => ?_)))))
              · have hf := am_if hf hb
                show X 43 [(0, .inr (.inr ((10, 0, 0), 215)))] [] s12
                obtain ⟨s24, v23, hcv23, hf⟩ := am_c_of hf
                refine am_blk hX 21 2 (And.intro rfl (And.intro rfl (Exists.intro s24 (Exists.intro none (And.intro (tX9_line l (d + 0) hcv23) (?_))))))
                show X 47 [(0, .inr (.inr ((10, 0, 0), 215)))] [] s24
                exact am_wk hX [0] (hJ47 s24 hf)
              · have hf := am_it hf hb
                show X 36 [(0, .inr (.inr ((10, 0, 0), 215)))] [] s12
                obtain ⟨s26, v25, hcv25, hf⟩ := am_c_of hf
                refine am_blk hX 18 3 (And.intro rfl (And.intro rfl (Exists.intro s26 (Exists.intro none (And.intro (tX9_marchLine l (d + 1) hcv25) (?_))))))
                show X 47 [(0, .inr (.inr ((10, 0, 0), 215)))] [] s26
                exact am_wk hX [0] (hJ47 s26 hf)
    refine am_blk hX 3 4 (And.intro rfl (And.intro rfl (Exists.intro s3 (Exists.intro none (And.intro (tX9_clears l (d + 5) hcv2) (And.intro rfl (And.intro rfl (Exists.intro s5 (Exists.intro none (And.intro (tX9_begins l (d + 4) hcv4) (?_)))))))))))
    show X 13 [(0, .inr (.inr ((10, 0, 0), 215)))] [] s5
    exact am_wk hX [0] (hL13 am_fu s5 hf)
def fX9_mean (s0 : AS) (a1 : Int32) (a2 : Int32) : Option (AS × Int64) :=
  am_let (am_si s0 215 0 (0 : Int32)) (fun (s1 : AS) => am_r (fX9_isRain s1 a1) (fun (v2 : Int32) => am_let (fun (s3 : AS) (x4 : Int64) => some (s3, x4)) (fun J38 => am_let (J38 s1 (-2 : Int64)) (fun J35 => if v2 = 0 then (J35) else (am_r (fX9_isHalf a2) (fun (v5 : Int32) => if v5 = 0 then (J35) else (am_c (fX9_rains s1 a1 (-1 : Int32)) (fun (s7 : AS) (v6 : Int64) => am_r (fX9_told v6 a1 a2) (fun (v8 : Int64) => J38 s7 v8)))))))))
def kX9_mean : List (Nat × Instr × Nat) := [(0, .aload_n 0, 1), (1, .iconst 0, 1), (2, .putfield 80, 3), (5, .aload_n 0, 1), (6, .iload_n 1, 1), (7, .invokevirtual 416, 3), (10, .ifCond .eq 25, 3), (13, .iload_n 2, 1), (14, .invokestatic 419, 3), (17, .ifCond .eq 18, 3), (20, .aload_n 0, 1), (21, .aload_n 0, 1), (22, .iload_n 1, 1), (23, .iconst (-1), 1), (24, .invokevirtual 422, 3), (27, .iload_n 1, 1), (28, .iload_n 2, 1), (29, .invokevirtual 426, 3), (32, .goto 6, 3), (35, .ldc2_w 430, 3), (38, .lreturn, 1)]
theorem qX9_mean : ∀ q ∈ kX9_mean, decode mX9_mean.2.2.1 q.1 = .ok (q.2.1, q.2.2) ∧ am_iok mX9_mean.2.2.2.1 q.1 q.2.1 q.2.2 = true := by decide +kernel
set_option maxRecDepth 100000 in
theorem wX9_mean : Cond.code mX9_mean.2.1 mX9_mean.2.2.1 mX9_mean.2.2.2.1 mX9_mean.2.2.2.2.1 ∈ am_T := List.mem_filter.mpr ⟨List.mem_of_getElem? (i := 1948) rfl, rfl⟩
set_option maxHeartbeats 4000000 in
set_option maxRecDepth 100000 in
theorem tX9_mean (l : Launch) (d : Nat) {s0 : AS} {a1 : Int32} {a2 : Int32} {sE : AS} {rE : Int64} (hf : fX9_mean s0 a1 a2 = some (sE, rE)) : am_Ct l (d + 82) mX9_mean [.inr (.inr ((10, 0, 0), 215)), .inl a1, .inl a2] s0 sE (some (.inr (.inl rE))) := by
  refine am_sim l (d + 81) (code := kX9_mean) (by decide +kernel) wX9_mean qX9_mean (Nat.le_of_ble_eq_true rfl) ?_
  intro X hX
  show X 0 [(0, .inr (.inr ((10, 0, 0), 215))), (1, .inl a1), (2, .inl a2)] [] s0
  unfold fX9_mean at hf
  refine am_blk hX 0 3 (And.intro rfl (am_nl (Z := fun s1 => X 5 [(0, .inr (.inr ((10, 0, 0), 215))), (1, .inl a1), (2, .inl a2)] [] s1) hf (fun s1 hf => ?_)))
  obtain ⟨v2, hcv2, hf⟩ := am_r_of hf
  refine am_jn hf (fun J38 => ∀ (s3 : AS) (x4 : Int64), J38 s3 x4 = some (sE, rE) → X 38 [] [.inr (.inl x4)] s3) ?_ ?_
  · intro s3 x4 hf
    refine am_blk hX 20 1 (And.intro rfl (am_rl hf))
  · intro J38 hJ38 hf
    refine am_jn hf (fun J35 => J35 = some (sE, rE) → X 35 [] [] s1) ?_ ?_
    · intro hf
      refine am_blk hX 19 1 (?_)
      show X 38 [] [.inr (.inl (-2 : Int64))] s1
      exact am_wk hX [] (hJ38 s1 (-2 : Int64) hf)
    · intro J35 hJ35 hf
      refine am_blk hX 3 4 (And.intro rfl (And.intro rfl (Exists.intro s1 (Exists.intro (some (.inl v2)) (And.intro (tX9_isRain l (d + 79) hcv2) (And.intro (fun hb => ?_) (fun hb => ?_)))))))
      · have hf := am_it hf hb
        show X 35 [(0, .inr (.inr ((10, 0, 0), 215))), (1, .inl a1), (2, .inl a2)] [] s1
        exact am_wk hX [] (hJ35 hf)
      · have hf := am_if hf hb
        show X 13 [(0, .inr (.inr ((10, 0, 0), 215))), (1, .inl a1), (2, .inl a2)] [] s1
        obtain ⟨v5, hcv5, hf⟩ := am_r_of hf
        refine am_blk hX 7 3 (And.intro rfl (Exists.intro s1 (Exists.intro (some (.inl v5)) (And.intro (tX9_isHalf l (d + 79) hcv5) (And.intro (fun hb => ?_) (fun hb => ?_))))))
        · have hf := am_it hf hb
          show X 35 [(0, .inr (.inr ((10, 0, 0), 215))), (1, .inl a1), (2, .inl a2)] [] s1
          exact am_wk hX [] (hJ35 hf)
        · have hf := am_if hf hb
          show X 20 [(0, .inr (.inr ((10, 0, 0), 215))), (1, .inl a1), (2, .inl a2)] [] s1
          obtain ⟨s7, v6, hcv6, hf⟩ := am_c_of hf
          obtain ⟨v8, hcv8, hf⟩ := am_r_of hf
          refine am_blk hX 10 9 (And.intro rfl (And.intro rfl (Exists.intro s7 (Exists.intro (some (.inr (.inl v6))) (And.intro (tX9_rains l (d + 76) hcv6) (And.intro rfl (And.intro rfl (Exists.intro s7 (Exists.intro (some (.inr (.inl v8))) (And.intro (tX9_told l (d + 0) hcv8) (?_)))))))))))
          show X 38 [(0, .inr (.inr ((10, 0, 0), 215))), (1, .inl a1), (2, .inl a2)] [.inr (.inl v8)] s7
          exact am_wk hX [] (hJ38 s7 v8 hf)
def fX9_missed_L23 (s4 : AS) : Nat → Int32 → Int32 → Option (AS × Int32)
  | 0, _, _ => none
  | n23 + 1, x5, x6 =>
    am_r (fX9_people s4) (fun (v7 : Int32) => if v7 ≤ x6 then (some (s4, x5)) else (am_g (¬ (x6 < 0 ∨ 8 ≤ x6.toNatClampNeg)) (am_let (fun (x9 : Int32) => am_let (x5 ||| x9) (fun (x10 : Int32) => am_let (x6 + (1 : Int32)) (fun (x11 : Int32) => fX9_missed_L23 s4 n23 x10 x11))) (fun J66 => am_let (J66 (0 : Int32)) (fun J65 => if (s4.1 233 x6.toNatClampNeg) = (-1 : Int32) then (am_g (¬ (((5 : Int32) * x6) < 0 ∨ 200 ≤ ((5 : Int32) * x6).toNatClampNeg)) (am_r (fX9_firstAt s4 (s4.1 224 (((5 : Int32) * x6).toNatClampNeg)) (0 : Int32)) (fun (v13 : Int32) => if v13 = (-1 : Int32) then (J65) else (J66 ((1 : Int32) <<< (x6 &&& 31)))))) else (J65))))))
def fX9_missed (s0 : AS) : Option (AS × Int32) :=
  am_let (am_si s0 215 0 (0 : Int32)) (fun (s1 : AS) => am_r (fX9_isMarch s1) (fun (v2 : Int32) => if v2 = 0 then (some (s1, (-2 : Int32))) else (am_c (fX9_laysNow s1) (fun (s4 : AS) (v3 : Unit) => fX9_missed_L23 s4 am_fu (0 : Int32) (0 : Int32)))))
def kX9_missed : List (Nat × Instr × Nat) := [(0, .aload_n 0, 1), (1, .iconst 0, 1), (2, .putfield 80, 3), (5, .aload_n 0, 1), (6, .invokevirtual 251, 3), (9, .ifCond .ne 6, 3), (12, .bipush (-2), 2), (14, .ireturn, 1), (15, .aload_n 0, 1), (16, .invokevirtual 358, 3), (19, .iconst 0, 1), (20, .istore_n 1, 1), (21, .iconst 0, 1), (22, .istore_n 2, 1), (23, .iload_n 2, 1), (24, .aload_n 0, 1), (25, .invokevirtual 248, 3), (28, .if_icmp .ge 46, 3), (31, .iload_n 1, 1), (32, .aload_n 0, 1), (33, .getfield 68, 3), (36, .iload_n 2, 1), (37, .iaload, 1), (38, .iconst (-1), 1), (39, .if_icmp .ne 26, 3), (42, .aload_n 0, 1), (43, .aload_n 0, 1), (44, .getfield 40, 3), (47, .iconst 5, 1), (48, .iload_n 2, 1), (49, .imul, 1), (50, .iaload, 1), (51, .iconst 0, 1), (52, .invokevirtual 361, 3), (55, .iconst (-1), 1), (56, .if_icmp .eq 9, 3), (59, .iconst 1, 1), (60, .iload_n 2, 1), (61, .ishl, 1), (62, .goto 4, 3), (65, .iconst 0, 1), (66, .ior, 1), (67, .istore_n 1, 1), (68, .iinc 2 1, 3), (71, .goto (-48), 3), (74, .iload_n 1, 1), (75, .ireturn, 1)]
theorem qX9_missed : ∀ q ∈ kX9_missed, decode mX9_missed.2.2.1 q.1 = .ok (q.2.1, q.2.2) ∧ am_iok mX9_missed.2.2.2.1 q.1 q.2.1 q.2.2 = true := by decide +kernel
set_option maxRecDepth 100000 in
theorem wX9_missed : Cond.code mX9_missed.2.1 mX9_missed.2.2.1 mX9_missed.2.2.2.1 mX9_missed.2.2.2.2.1 ∈ am_T := List.mem_filter.mpr ⟨List.mem_of_getElem? (i := 1814) rfl, rfl⟩
set_option maxHeartbeats 4000000 in
set_option maxRecDepth 100000 in
theorem tX9_missed (l : Launch) (d : Nat) {s0 : AS} {sE : AS} {rE : Int32} (hf : fX9_missed s0 = some (sE, rE)) : am_Ct l (d + 6) mX9_missed [.inr (.inr ((10, 0, 0), 215))] s0 sE (some (.inl rE)) := by
  refine am_sim l (d + 5) (code := kX9_missed) (by decide +kernel) wX9_missed qX9_missed (Nat.le_of_ble_eq_true rfl) ?_
  intro X hX
  show X 0 [(0, .inr (.inr ((10, 0, 0), 215)))] [] s0
  unfold fX9_missed at hf
  refine am_blk hX 0 3 (And.intro rfl (am_nl (Z := fun s1 => X 5 [(0, .inr (.inr ((10, 0, 0), 215)))] [] s1) hf (fun s1 hf => ?_)))
  obtain ⟨v2, hcv2, hf⟩ := am_r_of hf
  refine am_blk hX 3 3 (And.intro rfl (And.intro rfl (Exists.intro s1 (Exists.intro (some (.inl v2)) (And.intro (tX9_isMarch l (d + 4) hcv2) (And.intro (fun hb => ?_) (fun hb => ?_)))))))
  · have hf := am_if hf hb
    show X 15 [(0, .inr (.inr ((10, 0, 0), 215)))] [] s1
    obtain ⟨s4, v3, hcv3, hf⟩ := am_c_of hf
    have hL23 : ∀ (n23 : Nat) (x5 : Int32) (x6 : Int32), fX9_missed_L23 s4 n23 x5 x6 = some (sE, rE) → X 23 [(0, .inr (.inr ((10, 0, 0), 215))), (1, .inl x5), (2, .inl x6)] [] s4 := by
      intro n23
      induction n23 with
      | zero => intro x5 x6 hf; exact am_no (show none = some _ from hf)
      | succ n23 ih23 =>
        intro x5 x6 hf
        obtain ⟨v7, hcv7, hf⟩ := am_r_of hf
        refine am_blk hX 14 4 (And.intro rfl (And.intro rfl (Exists.intro s4 (Exists.intro (some (.inl v7)) (And.intro (tX9_people l (d + 4) hcv7) (And.intro (fun hb => ?_) (fun hb => ?_)))))))
        · have hf := am_it hf hb
          show X 74 [(0, .inr (.inr ((10, 0, 0), 215))), (1, .inl x5), (2, .inl x6)] [] s4
          refine am_blk hX 45 2 (am_ri hf)
        · have hf := am_if hf hb
          show X 31 [(0, .inr (.inr ((10, 0, 0), 215))), (1, .inl x5), (2, .inl x6)] [] s4
          obtain ⟨g8, hf⟩ := am_g_of hf
          refine am_jn hf (fun J66 => ∀ (x9 : Int32), J66 x9 = some (sE, rE) → X 66 [(0, .inr (.inr ((10, 0, 0), 215))), (2, .inl x6)] [.inl x9, .inl x5] s4) ?_ ?_
          · intro x9 hf
            refine am_blk hX 41 2 (am_nl (Z := fun x10 => X 68 [(1, .inl x10), (0, .inr (.inr ((10, 0, 0), 215))), (2, .inl x6)] [] s4) hf (fun x10 hf => ?_))
            refine am_blk hX 43 1 (am_nl (Z := fun x11 => X 71 [(2, .inl x11), (1, .inl x10), (0, .inr (.inr ((10, 0, 0), 215)))] [] s4) hf (fun x11 hf => ?_))
            refine am_blk hX 44 1 (?_)
            show X 23 [(2, .inl x11), (1, .inl x10), (0, .inr (.inr ((10, 0, 0), 215)))] [] s4
            exact am_wk hX [2, 1, 0] (ih23 x10 x11 hf)
          · intro J66 hJ66 hf
            refine am_jn hf (fun J65 => J65 = some (sE, rE) → X 65 [(0, .inr (.inr ((10, 0, 0), 215))), (2, .inl x6)] [.inl x5] s4) ?_ ?_
            · intro hf
              refine am_blk hX 40 1 (?_)
              show X 66 [(0, .inr (.inr ((10, 0, 0), 215))), (2, .inl x6)] [.inl (0 : Int32), .inl x5] s4
              exact am_wk hX [0, 1] (hJ66 (0 : Int32) hf)
            · intro J65 hJ65 hf
              refine am_blk hX 18 7 (And.intro rfl (And.intro rfl (And.intro g8 (And.intro (fun hb => ?_) (fun hb => ?_)))))
              · have hf := am_if hf hb
                show X 65 [(0, .inr (.inr ((10, 0, 0), 215))), (1, .inl x5), (2, .inl x6)] [.inl x5] s4
                exact am_wk hX [0, 2] (hJ65 hf)
              · have hf := am_it hf hb
                show X 42 [(0, .inr (.inr ((10, 0, 0), 215))), (1, .inl x5), (2, .inl x6)] [.inl x5] s4
                obtain ⟨g12, hf⟩ := am_g_of hf
                obtain ⟨v13, hcv13, hf⟩ := am_r_of hf
                refine am_blk hX 25 11 (And.intro rfl (And.intro rfl (And.intro g12 (And.intro rfl (And.intro rfl (Exists.intro s4 (Exists.intro (some (.inl v13)) (And.intro (tX9_firstAt l (d + 4) hcv13) (And.intro (fun hb => ?_) (fun hb => ?_))))))))))
                · have hf := am_it hf hb
                  show X 65 [(0, .inr (.inr ((10, 0, 0), 215))), (1, .inl x5), (2, .inl x6)] [.inl x5] s4
                  exact am_wk hX [0, 2] (hJ65 hf)
                · have hf := am_if hf hb
                  show X 59 [(0, .inr (.inr ((10, 0, 0), 215))), (1, .inl x5), (2, .inl x6)] [.inl x5] s4
                  refine am_blk hX 36 4 (?_)
                  show X 66 [(0, .inr (.inr ((10, 0, 0), 215))), (1, .inl x5), (2, .inl x6)] [.inl ((1 : Int32) <<< (x6 &&& 31)), .inl x5] s4
                  exact am_wk hX [0, 2] (hJ66 ((1 : Int32) <<< (x6 &&& 31)) hf)
    refine am_blk hX 8 6 (And.intro rfl (And.intro rfl (Exists.intro s4 (Exists.intro none (And.intro (tX9_laysNow l (d + 0) hcv3) (?_))))))
    show X 23 [(2, .inl (0 : Int32)), (1, .inl (0 : Int32)), (0, .inr (.inr ((10, 0, 0), 215)))] [] s4
    exact am_wk hX [2, 1, 0] (hL23 am_fu (0 : Int32) (0 : Int32) hf)
  · have hf := am_it hf hb
    show X 12 [(0, .inr (.inr ((10, 0, 0), 215)))] [] s1
    refine am_blk hX 6 2 (am_ri hf)
def fX9_peakOf_L4 (s0 : AS) : Nat → Int32 → Int32 → Option Int32
  | 0, _, _ => none
  | n4 + 1, x1, x2 =>
    if (60 : Int32) < x2 then (some x1) else (am_g (¬ (x2 < 0 ∨ 61 ≤ x2.toNatClampNeg)) (am_r (fX9_sizeOf (s0.1 230 x2.toNatClampNeg)) (fun (v4 : Int32) => am_let (fun (x5 : Int32) => am_let (fun (x6 : Int32) => am_let (x2 + (1 : Int32)) (fun (x7 : Int32) => fX9_peakOf_L4 s0 n4 x6 x7)) (fun J42 => if v4 ≤ x5 then (J42 x1) else (J42 x2))) (fun J37 => if x1 = (-1 : Int32) then (J37 (0 : Int32)) else (am_g (¬ (x1 < 0 ∨ 61 ≤ x1.toNatClampNeg)) (am_r (fX9_sizeOf (s0.1 230 x1.toNatClampNeg)) (fun (v9 : Int32) => J37 v9)))))))
def fX9_peakOf (s0 : AS) : Option Int32 :=
  fX9_peakOf_L4 s0 am_fu (-1 : Int32) (0 : Int32)
def kX9_peakOf : List (Nat × Instr × Nat) := [(0, .iconst (-1), 1), (1, .istore_n 1, 1), (2, .iconst 0, 1), (3, .istore_n 2, 1), (4, .iload_n 2, 1), (5, .bipush 60, 2), (7, .if_icmp .gt 41, 3), (10, .aload_n 0, 1), (11, .getfield 59, 3), (14, .iload_n 2, 1), (15, .iaload, 1), (16, .invokestatic 293, 3), (19, .iload_n 1, 1), (20, .iconst (-1), 1), (21, .if_icmp .ne 7, 3), (24, .iconst 0, 1), (25, .goto 12, 3), (28, .aload_n 0, 1), (29, .getfield 59, 3), (32, .iload_n 1, 1), (33, .iaload, 1), (34, .invokestatic 293, 3), (37, .if_icmp .le 5, 3), (40, .iload_n 2, 1), (41, .istore_n 1, 1), (42, .iinc 2 1, 3), (45, .goto (-41), 3), (48, .iload_n 1, 1), (49, .ireturn, 1)]
theorem qX9_peakOf : ∀ q ∈ kX9_peakOf, decode mX9_peakOf.2.2.1 q.1 = .ok (q.2.1, q.2.2) ∧ am_iok mX9_peakOf.2.2.2.1 q.1 q.2.1 q.2.2 = true := by decide +kernel
set_option maxRecDepth 100000 in
theorem wX9_peakOf : Cond.code mX9_peakOf.2.1 mX9_peakOf.2.2.1 mX9_peakOf.2.2.2.1 mX9_peakOf.2.2.2.2.1 ∈ am_T := List.mem_filter.mpr ⟨List.mem_of_getElem? (i := 1750) rfl, rfl⟩
set_option maxHeartbeats 4000000 in
set_option maxRecDepth 100000 in
theorem tX9_peakOf (l : Launch) (d : Nat) {s0 : AS} {rE : Int32} (hf : fX9_peakOf s0 = some rE) : am_Ct l (d + 2) mX9_peakOf [.inr (.inr ((10, 0, 0), 215))] s0 s0 (some (.inl rE)) := by
  refine am_sim l (d + 1) (code := kX9_peakOf) (by decide +kernel) wX9_peakOf qX9_peakOf (Nat.le_of_ble_eq_true rfl) ?_
  intro X hX
  show X 0 [(0, .inr (.inr ((10, 0, 0), 215)))] [] s0
  unfold fX9_peakOf at hf
  have hL4 : ∀ (n4 : Nat) (x1 : Int32) (x2 : Int32), fX9_peakOf_L4 s0 n4 x1 x2 = some rE → X 4 [(0, .inr (.inr ((10, 0, 0), 215))), (1, .inl x1), (2, .inl x2)] [] s0 := by
    intro n4
    induction n4 with
    | zero => intro x1 x2 hf; exact am_no (show none = some _ from hf)
    | succ n4 ih4 =>
      intro x1 x2 hf
      refine am_blk hX 4 3 (And.intro (fun hb => ?_) (fun hb => ?_))
      · have hf := am_it hf hb
        show X 48 [(0, .inr (.inr ((10, 0, 0), 215))), (1, .inl x1), (2, .inl x2)] [] s0
        refine am_blk hX 27 2 (am_rpi hf)
      · have hf := am_if hf hb
        show X 10 [(0, .inr (.inr ((10, 0, 0), 215))), (1, .inl x1), (2, .inl x2)] [] s0
        obtain ⟨g3, hf⟩ := am_g_of hf
        obtain ⟨v4, hcv4, hf⟩ := am_r_of hf
        refine am_jn hf (fun J37 => ∀ (x5 : Int32), J37 x5 = some rE → X 37 [(0, .inr (.inr ((10, 0, 0), 215))), (1, .inl x1), (2, .inl x2)] [.inl x5, .inl v4] s0) ?_ ?_
        · intro x5 hf
          refine am_jn hf (fun J42 => ∀ (x6 : Int32), J42 x6 = some rE → X 42 [(0, .inr (.inr ((10, 0, 0), 215))), (1, .inl x6), (2, .inl x2)] [] s0) ?_ ?_
          · intro x6 hf
            refine am_blk hX 25 1 (am_nl (Z := fun x7 => X 45 [(2, .inl x7), (0, .inr (.inr ((10, 0, 0), 215))), (1, .inl x6)] [] s0) hf (fun x7 hf => ?_))
            refine am_blk hX 26 1 (?_)
            show X 4 [(2, .inl x7), (0, .inr (.inr ((10, 0, 0), 215))), (1, .inl x6)] [] s0
            exact am_wk hX [1, 2, 0] (ih4 x6 x7 hf)
          · intro J42 hJ42 hf
            refine am_blk hX 22 1 (And.intro (fun hb => ?_) (fun hb => ?_))
            · have hf := am_it hf hb
              show X 42 [(0, .inr (.inr ((10, 0, 0), 215))), (1, .inl x1), (2, .inl x2)] [] s0
              exact am_wk hX [0, 1, 2] (hJ42 x1 hf)
            · have hf := am_if hf hb
              show X 40 [(0, .inr (.inr ((10, 0, 0), 215))), (1, .inl x1), (2, .inl x2)] [] s0
              refine am_blk hX 23 2 (?_)
              show X 42 [(1, .inl x2), (0, .inr (.inr ((10, 0, 0), 215))), (2, .inl x2)] [] s0
              exact am_wk hX [1, 0, 2] (hJ42 x2 hf)
        · intro J37 hJ37 hf
          refine am_blk hX 7 8 (And.intro rfl (And.intro rfl (And.intro g3 (And.intro rfl (Exists.intro s0 (Exists.intro (some (.inl v4)) (And.intro (tX9_sizeOf l (d + 0) hcv4) (And.intro (fun hb => ?_) (fun hb => ?_)))))))))
          · have hf := am_if hf hb
            show X 28 [(0, .inr (.inr ((10, 0, 0), 215))), (1, .inl x1), (2, .inl x2)] [.inl v4] s0
            obtain ⟨g8, hf⟩ := am_g_of hf
            obtain ⟨v9, hcv9, hf⟩ := am_r_of hf
            refine am_blk hX 17 5 (And.intro rfl (And.intro rfl (And.intro g8 (And.intro rfl (Exists.intro s0 (Exists.intro (some (.inl v9)) (And.intro (tX9_sizeOf l (d + 0) hcv9) (?_))))))))
            show X 37 [(0, .inr (.inr ((10, 0, 0), 215))), (1, .inl x1), (2, .inl x2)] [.inl v9, .inl v4] s0
            exact am_wk hX [0, 1, 2] (hJ37 v9 hf)
          · have hf := am_it hf hb
            show X 24 [(0, .inr (.inr ((10, 0, 0), 215))), (1, .inl x1), (2, .inl x2)] [.inl v4] s0
            refine am_blk hX 15 2 (?_)
            show X 37 [(0, .inr (.inr ((10, 0, 0), 215))), (1, .inl x1), (2, .inl x2)] [.inl (0 : Int32), .inl v4] s0
            exact am_wk hX [0, 1, 2] (hJ37 (0 : Int32) hf)
  refine am_blk hX 0 4 (?_)
  show X 4 [(2, .inl (0 : Int32)), (1, .inl (-1 : Int32)), (0, .inr (.inr ((10, 0, 0), 215)))] [] s0
  exact am_wk hX [2, 1, 0] (hL4 am_fu (-1 : Int32) (0 : Int32) hf)
def fX9_most (s0 : AS) : Option (AS × Int32) :=
  am_let (am_si s0 215 0 (0 : Int32)) (fun (s1 : AS) => am_r (fX9_isMarch s1) (fun (v2 : Int32) => if v2 = 0 then (some (s1, (-2 : Int32))) else (am_c (fX9_laysNow s1) (fun (s4 : AS) (v3 : Unit) => am_r (fX9_peakOf s4) (fun (v5 : Int32) => am_let (fun (x6 : Int32) => some (s4, x6)) (fun J42 => if v5 = (-1 : Int32) then (J42 (0 : Int32)) else (am_g (¬ (v5 < 0 ∨ 61 ≤ v5.toNatClampNeg)) (am_r (fX9_sizeOf (s4.1 230 v5.toNatClampNeg)) (fun (v8 : Int32) => J42 v8)))))))))
def kX9_most : List (Nat × Instr × Nat) := [(0, .aload_n 0, 1), (1, .iconst 0, 1), (2, .putfield 80, 3), (5, .aload_n 0, 1), (6, .invokevirtual 251, 3), (9, .ifCond .ne 6, 3), (12, .bipush (-2), 2), (14, .ireturn, 1), (15, .aload_n 0, 1), (16, .invokevirtual 358, 3), (19, .aload_n 0, 1), (20, .invokevirtual 367, 3), (23, .istore_n 1, 1), (24, .iload_n 1, 1), (25, .iconst (-1), 1), (26, .if_icmp .ne 7, 3), (29, .iconst 0, 1), (30, .goto 12, 3), (33, .aload_n 0, 1), (34, .getfield 59, 3), (37, .iload_n 1, 1), (38, .iaload, 1), (39, .invokestatic 293, 3), (42, .ireturn, 1)]
theorem qX9_most : ∀ q ∈ kX9_most, decode mX9_most.2.2.1 q.1 = .ok (q.2.1, q.2.2) ∧ am_iok mX9_most.2.2.2.1 q.1 q.2.1 q.2.2 = true := by decide +kernel
set_option maxRecDepth 100000 in
theorem wX9_most : Cond.code mX9_most.2.1 mX9_most.2.2.1 mX9_most.2.2.2.1 mX9_most.2.2.2.2.1 ∈ am_T := List.mem_filter.mpr ⟨List.mem_of_getElem? (i := 1746) rfl, rfl⟩
set_option maxHeartbeats 4000000 in
set_option maxRecDepth 100000 in
theorem tX9_most (l : Launch) (d : Nat) {s0 : AS} {sE : AS} {rE : Int32} (hf : fX9_most s0 = some (sE, rE)) : am_Ct l (d + 6) mX9_most [.inr (.inr ((10, 0, 0), 215))] s0 sE (some (.inl rE)) := by
  refine am_sim l (d + 5) (code := kX9_most) (by decide +kernel) wX9_most qX9_most (Nat.le_of_ble_eq_true rfl) ?_
  intro X hX
  show X 0 [(0, .inr (.inr ((10, 0, 0), 215)))] [] s0
  unfold fX9_most at hf
  refine am_blk hX 0 3 (And.intro rfl (am_nl (Z := fun s1 => X 5 [(0, .inr (.inr ((10, 0, 0), 215)))] [] s1) hf (fun s1 hf => ?_)))
  obtain ⟨v2, hcv2, hf⟩ := am_r_of hf
  refine am_blk hX 3 3 (And.intro rfl (And.intro rfl (Exists.intro s1 (Exists.intro (some (.inl v2)) (And.intro (tX9_isMarch l (d + 4) hcv2) (And.intro (fun hb => ?_) (fun hb => ?_)))))))
  · have hf := am_if hf hb
    show X 15 [(0, .inr (.inr ((10, 0, 0), 215)))] [] s1
    obtain ⟨s4, v3, hcv3, hf⟩ := am_c_of hf
    obtain ⟨v5, hcv5, hf⟩ := am_r_of hf
    refine am_jn hf (fun J42 => ∀ (x6 : Int32), J42 x6 = some (sE, rE) → X 42 [] [.inl x6] s4) ?_ ?_
    · intro x6 hf
      refine am_blk hX 23 1 (am_ri hf)
    · intro J42 hJ42 hf
      refine am_blk hX 8 8 (And.intro rfl (And.intro rfl (Exists.intro s4 (Exists.intro none (And.intro (tX9_laysNow l (d + 0) hcv3) (And.intro rfl (And.intro rfl (Exists.intro s4 (Exists.intro (some (.inl v5)) (And.intro (tX9_peakOf l (d + 3) hcv5) (And.intro (fun hb => ?_) (fun hb => ?_))))))))))))
      · have hf := am_if hf hb
        show X 33 [(1, .inl v5), (0, .inr (.inr ((10, 0, 0), 215)))] [] s4
        obtain ⟨g7, hf⟩ := am_g_of hf
        obtain ⟨v8, hcv8, hf⟩ := am_r_of hf
        refine am_blk hX 18 5 (And.intro rfl (And.intro rfl (And.intro g7 (And.intro rfl (Exists.intro s4 (Exists.intro (some (.inl v8)) (And.intro (tX9_sizeOf l (d + 4) hcv8) (?_))))))))
        show X 42 [(1, .inl v5), (0, .inr (.inr ((10, 0, 0), 215)))] [.inl v8] s4
        exact am_wk hX [] (hJ42 v8 hf)
      · have hf := am_it hf hb
        show X 29 [(1, .inl v5), (0, .inr (.inr ((10, 0, 0), 215)))] [] s4
        refine am_blk hX 16 2 (?_)
        show X 42 [(1, .inl v5), (0, .inr (.inr ((10, 0, 0), 215)))] [.inl (0 : Int32)] s4
        exact am_wk hX [] (hJ42 (0 : Int32) hf)
  · have hf := am_it hf hb
    show X 12 [(0, .inr (.inr ((10, 0, 0), 215)))] [] s1
    refine am_blk hX 6 2 (am_ri hf)
