/-! METHODS, printed by gen.py. -/
def fX9_row_L57 (a1 : Int32) (a3 : Int32) : Nat → AS → Int32 → Option (AS × Int32)
  | 0, _, _ => none
  | n57 + 1, s8, x9 =>
    if a3 ≤ x9 then (some (s8, (0 : Int32))) else (am_g (¬ ((((60 : Int32) * a1) + x9) < 0 ∨ 240 ≤ (((60 : Int32) * a1) + x9).toNatClampNeg)) (am_let (am_sj s8 218 ((((60 : Int32) * a1) + x9).toNatClampNeg) (0 : Int64)) (fun (s11 : AS) => am_let (x9 + (1 : Int32)) (fun (x12 : Int32) => fX9_row_L57 a1 a3 n57 s11 x12))))
def fX9_row (s0 : AS) (a1 : Int32) (a2 : Int32) (a3 : Int32) : Option (AS × Int32) :=
  am_let (am_si s0 215 0 (0 : Int32)) (fun (s1 : AS) => am_r (fX9_isSlot a1) (fun (v2 : Int32) => am_let (some (s1, (-2 : Int32))) (fun J30 => if v2 = 0 then (J30) else (am_r (fX9_in a2.toInt64 (0 : Int64) (3 : Int64)) (fun (v3 : Int32) => if v3 = 0 then (J30) else (if a3 ≤ (60 : Int32) then (if 0 ≤ a3 then (am_g (¬ (a1 < 0 ∨ 4 ≤ a1.toNatClampNeg)) (am_let (am_si s1 216 (a1.toNatClampNeg) a2) (fun (s5 : AS) => am_g (¬ (a1 < 0 ∨ 4 ≤ a1.toNatClampNeg)) (am_let (am_si s5 217 (a1.toNatClampNeg) a3) (fun (s7 : AS) => fX9_row_L57 a1 a3 am_fu s7 (0 : Int32)))))) else (some (s1, (-3 : Int32)))) else (J30)))))))
def kX9_row : List (Nat × Instr × Nat) := [(0, .aload_n 0, 1), (1, .iconst 0, 1), (2, .putfield 80, 3), (5, .iload_n 1, 1), (6, .invokestatic 89, 3), (9, .ifCond .eq 21, 3), (12, .iload_n 2, 1), (13, .i2l, 1), (14, .lconst 0, 1), (15, .ldc2_w 83, 3), (18, .invokestatic 85, 3), (21, .ifCond .eq 9, 3), (24, .iload_n 3, 1), (25, .bipush 60, 2), (27, .if_icmp .le 6, 3), (30, .bipush (-2), 2), (32, .ireturn, 1), (33, .iload_n 3, 1), (34, .ifCond .ge 6, 3), (37, .bipush (-3), 2), (39, .ireturn, 1), (40, .aload_n 0, 1), (41, .getfield 7, 3), (44, .iload_n 1, 1), (45, .iload_n 2, 1), (46, .iastore, 1), (47, .aload_n 0, 1), (48, .getfield 13, 3), (51, .iload_n 1, 1), (52, .iload_n 3, 1), (53, .iastore, 1), (54, .iconst 0, 1), (55, .istore 4, 2), (57, .iload 4, 2), (59, .iload_n 3, 1), (60, .if_icmp .ge 22, 3), (63, .aload_n 0, 1), (64, .getfield 16, 3), (67, .bipush 60, 2), (69, .iload_n 1, 1), (70, .imul, 1), (71, .iload 4, 2), (73, .iadd, 1), (74, .lconst 0, 1), (75, .lastore, 1), (76, .iinc 4 1, 3), (79, .goto (-22), 3), (82, .iconst 0, 1), (83, .ireturn, 1)]
theorem qX9_row : ∀ q ∈ kX9_row, decode mX9_row.2.2.1 q.1 = .ok (q.2.1, q.2.2) ∧ am_iok mX9_row.2.2.2.1 q.1 q.2.1 q.2.2 = true := by decide +kernel
set_option maxRecDepth 100000 in
theorem wX9_row : Cond.code mX9_row.2.1 mX9_row.2.2.1 mX9_row.2.2.2.1 mX9_row.2.2.2.2.1 ∈ am_T := List.mem_filter.mpr ⟨List.mem_of_getElem? (i := 1447) rfl, rfl⟩
set_option maxHeartbeats 4000000 in
set_option maxRecDepth 100000 in
theorem tX9_row (l : Launch) (d : Nat) {s0 : AS} {a1 : Int32} {a2 : Int32} {a3 : Int32} {sE : AS} {rE : Int32} (hf : fX9_row s0 a1 a2 a3 = some (sE, rE)) : am_Ct l (d + 3) mX9_row [.inr (.inr ((10, 0, 0), 215)), .inl a1, .inl a2, .inl a3] s0 sE (some (.inl rE)) := by
  refine am_sim l (d + 2) (code := kX9_row) (by decide +kernel) wX9_row qX9_row (Nat.le_of_ble_eq_true rfl) ?_
  intro X hX
  show X 0 [(0, .inr (.inr ((10, 0, 0), 215))), (1, .inl a1), (2, .inl a2), (3, .inl a3)] [] s0
  unfold fX9_row at hf
  refine am_blk hX 0 3 (And.intro rfl (am_nl (Z := fun s1 => X 5 [(0, .inr (.inr ((10, 0, 0), 215))), (1, .inl a1), (2, .inl a2), (3, .inl a3)] [] s1) hf (fun s1 hf => ?_)))
  obtain ⟨v2, hcv2, hf⟩ := am_r_of hf
  refine am_jn hf (fun J30 => J30 = some (sE, rE) → X 30 [] [] s1) ?_ ?_
  · intro hf
    refine am_blk hX 15 2 (am_ri hf)
  · intro J30 hJ30 hf
    refine am_blk hX 3 3 (And.intro rfl (Exists.intro s1 (Exists.intro (some (.inl v2)) (And.intro (tX9_isSlot l (d + 0) hcv2) (And.intro (fun hb => ?_) (fun hb => ?_))))))
    · have hf := am_it hf hb
      show X 30 [(0, .inr (.inr ((10, 0, 0), 215))), (1, .inl a1), (2, .inl a2), (3, .inl a3)] [] s1
      exact am_wk hX [] (hJ30 hf)
    · have hf := am_if hf hb
      show X 12 [(0, .inr (.inr ((10, 0, 0), 215))), (1, .inl a1), (2, .inl a2), (3, .inl a3)] [] s1
      obtain ⟨v3, hcv3, hf⟩ := am_r_of hf
      refine am_blk hX 6 6 (And.intro rfl (Exists.intro s1 (Exists.intro (some (.inl v3)) (And.intro (tX9_in l (d + 1) hcv3) (And.intro (fun hb => ?_) (fun hb => ?_))))))
      · have hf := am_it hf hb
        show X 30 [(0, .inr (.inr ((10, 0, 0), 215))), (1, .inl a1), (2, .inl a2), (3, .inl a3)] [] s1
        exact am_wk hX [] (hJ30 hf)
      · have hf := am_if hf hb
        show X 24 [(0, .inr (.inr ((10, 0, 0), 215))), (1, .inl a1), (2, .inl a2), (3, .inl a3)] [] s1
        refine am_blk hX 12 3 (And.intro (fun hb => ?_) (fun hb => ?_))
        · have hf := am_it hf hb
          show X 33 [(0, .inr (.inr ((10, 0, 0), 215))), (1, .inl a1), (2, .inl a2), (3, .inl a3)] [] s1
          refine am_blk hX 17 2 (And.intro (fun hb => ?_) (fun hb => ?_))
          · have hf := am_it hf hb
            show X 40 [(0, .inr (.inr ((10, 0, 0), 215))), (1, .inl a1), (2, .inl a2), (3, .inl a3)] [] s1
            obtain ⟨g4, hf⟩ := am_g_of hf
            refine am_blk hX 21 5 (And.intro rfl (And.intro rfl (And.intro g4 (am_nl (Z := fun s5 => X 47 [(0, .inr (.inr ((10, 0, 0), 215))), (1, .inl a1), (2, .inl a2), (3, .inl a3)] [] s5) hf (fun s5 hf => ?_)))))
            obtain ⟨g6, hf⟩ := am_g_of hf
            refine am_blk hX 26 5 (And.intro rfl (And.intro rfl (And.intro g6 (am_nl (Z := fun s7 => X 54 [(0, .inr (.inr ((10, 0, 0), 215))), (1, .inl a1), (2, .inl a2), (3, .inl a3)] [] s7) hf (fun s7 hf => ?_)))))
            have hL57 : ∀ (n57 : Nat) (s8 : AS) (x9 : Int32), fX9_row_L57 a1 a3 n57 s8 x9 = some (sE, rE) → X 57 [(0, .inr (.inr ((10, 0, 0), 215))), (1, .inl a1), (3, .inl a3), (4, .inl x9)] [] s8 := by
              intro n57
              induction n57 with
              | zero => intro s8 x9 hf; exact am_no (show none = some _ from hf)
              | succ n57 ih57 =>
                intro s8 x9 hf
                refine am_blk hX 33 3 (And.intro (fun hb => ?_) (fun hb => ?_))
                · have hf := am_it hf hb
                  show X 82 [(0, .inr (.inr ((10, 0, 0), 215))), (1, .inl a1), (3, .inl a3), (4, .inl x9)] [] s8
                  refine am_blk hX 47 2 (am_ri hf)
                · have hf := am_if hf hb
                  show X 63 [(0, .inr (.inr ((10, 0, 0), 215))), (1, .inl a1), (3, .inl a3), (4, .inl x9)] [] s8
                  obtain ⟨g10, hf⟩ := am_g_of hf
                  refine am_blk hX 36 9 (And.intro rfl (And.intro rfl (And.intro g10 (am_nl (Z := fun s11 => X 76 [(0, .inr (.inr ((10, 0, 0), 215))), (1, .inl a1), (3, .inl a3), (4, .inl x9)] [] s11) hf (fun s11 hf => ?_)))))
                  refine am_blk hX 45 1 (am_nl (Z := fun x12 => X 79 [(4, .inl x12), (0, .inr (.inr ((10, 0, 0), 215))), (1, .inl a1), (3, .inl a3)] [] s11) hf (fun x12 hf => ?_))
                  refine am_blk hX 46 1 (?_)
                  show X 57 [(4, .inl x12), (0, .inr (.inr ((10, 0, 0), 215))), (1, .inl a1), (3, .inl a3)] [] s11
                  exact am_wk hX [1, 2, 3, 0] (ih57 s11 x12 hf)
            refine am_blk hX 31 2 (?_)
            show X 57 [(4, .inl (0 : Int32)), (0, .inr (.inr ((10, 0, 0), 215))), (1, .inl a1), (2, .inl a2), (3, .inl a3)] [] s7
            exact am_wk hX [1, 2, 4, 0] (hL57 am_fu s7 (0 : Int32) hf)
          · have hf := am_if hf hb
            show X 37 [(0, .inr (.inr ((10, 0, 0), 215))), (1, .inl a1), (2, .inl a2), (3, .inl a3)] [] s1
            refine am_blk hX 19 2 (am_ri hf)
        · have hf := am_if hf hb
          show X 30 [(0, .inr (.inr ((10, 0, 0), 215))), (1, .inl a1), (2, .inl a2), (3, .inl a3)] [] s1
          exact am_wk hX [] (hJ30 hf)
def fX9_rules_L150 (a1 : Int32) (s14 : AS) (J214 : Int32 → Option (AS × Int32)) : Nat → Int32 → Int32 → Option (AS × Int32)
  | 0, _, _ => none
  | n150 + 1, x19, x20 =>
    am_g (¬ (a1 < 0 ∨ 4 ≤ a1.toNatClampNeg)) (if (s14.1 217 a1.toNatClampNeg) ≤ x20 then (J214 x19) else (am_g (¬ ((((60 : Int32) * a1) + x20) < 0 ∨ 240 ≤ (((60 : Int32) * a1) + x20).toNatClampNeg)) (am_g (¬ (((s14.2 218 ((((60 : Int32) * a1) + x20).toNatClampNeg)).toInt32) < 0 ∨ 61 ≤ ((s14.2 218 ((((60 : Int32) * a1) + x20).toNatClampNeg)).toInt32).toNatClampNeg)) (am_g (¬ (((((60 : Int32) * a1) + x20) + (1 : Int32)) < 0 ∨ 240 ≤ ((((60 : Int32) * a1) + x20) + (1 : Int32)).toNatClampNeg)) (am_let (fun (x25 : Int32) => am_let (x19 &&& x25) (fun (x26 : Int32) => am_let (x20 + (2 : Int32)) (fun (x27 : Int32) => fX9_rules_L150 a1 s14 J214 n150 x26 x27))) (fun J205 => if (lg_cmp ((s14.1 229 (((s14.2 218 ((((60 : Int32) * a1) + x20).toNatClampNeg)).toInt32).toNatClampNeg)).toInt64) (s14.2 218 (((((60 : Int32) * a1) + x20) + (1 : Int32)).toNatClampNeg))) = 0 then (J205 (1 : Int32)) else (J205 (0 : Int32))))))))
def fX9_rules_L130 (a1 : Int32) : Nat → AS → Int32 → Int32 → Option (AS × Int32)
  | 0, _, _, _ => none
  | n130 + 1, s9, x10, x11 =>
    if (4 : Int32) ≤ x11 then (some (s9, x10)) else (am_let (am_si s9 215 26 x11) (fun (s12 : AS) => am_c (fX9_runs s12) (fun (s14 : AS) (v13 : Unit) => am_let (fun (x15 : Int32) => am_let (fun (x16 : Int32) => am_let (x10 ||| x16) (fun (x17 : Int32) => am_let (x11 + (1 : Int32)) (fun (x18 : Int32) => fX9_rules_L130 a1 n130 s14 x17 x18))) (fun J227 => if x15 = 0 then (J227 (0 : Int32)) else (J227 ((1 : Int32) <<< (x11 &&& 31))))) (fun J214 => fX9_rules_L150 a1 s14 J214 am_fu (1 : Int32) (0 : Int32)))))
def fX9_rules_L51 (a1 : Int32) (s1 : AS) (J122 : Option (AS × Int32)) (J113 : Option (AS × Int32)) : Nat → Int32 → Option (AS × Int32)
  | 0, _ => none
  | n51 + 1, x28 =>
    am_g (¬ (a1 < 0 ∨ 4 ≤ a1.toNatClampNeg)) (if (s1.1 217 a1.toNatClampNeg) ≤ x28 then (J122) else (am_g (¬ ((((60 : Int32) * a1) + x28) < 0 ∨ 240 ≤ (((60 : Int32) * a1) + x28).toNatClampNeg)) (am_r (fX9_in (s1.2 218 ((((60 : Int32) * a1) + x28).toNatClampNeg)) (0 : Int64) (60 : Int64)) (fun (v31 : Int32) => if v31 = 0 then (J113) else (am_g (¬ (((((60 : Int32) * a1) + x28) + (1 : Int32)) < 0 ∨ 240 ≤ ((((60 : Int32) * a1) + x28) + (1 : Int32)).toNatClampNeg)) (am_g (¬ ((0 : Int32) < 0 ∨ 35 ≤ (0 : Int32).toNatClampNeg)) (am_r (fX9_in (s1.2 218 (((((60 : Int32) * a1) + x28) + (1 : Int32)).toNatClampNeg)) (-1 : Int64) (((s1.1 222 ((0 : Int32).toNatClampNeg)).toInt64) - (1 : Int64))) (fun (v34 : Int32) => if v34 = 0 then (J113) else (am_let (x28 + (2 : Int32)) (fun (x35 : Int32) => fX9_rules_L51 a1 s1 J122 J113 n51 x35))))))))))
def fX9_rules (s0 : AS) (a1 : Int32) : Option (AS × Int32) :=
  am_let (am_si s0 215 0 (0 : Int32)) (fun (s1 : AS) => am_r (fX9_isSlot a1) (fun (v2 : Int32) => am_let (some (s1, (-2 : Int32))) (fun J19 => if v2 = 0 then (J19) else (am_r (fX9_isMarch s1) (fun (v3 : Int32) => if v3 = 0 then (J19) else (am_g (¬ (a1 < 0 ∨ 4 ≤ a1.toNatClampNeg)) (if (s1.1 216 a1.toNatClampNeg) = (-1 : Int32) then (some (s1, (-6 : Int32))) else (am_g (¬ (a1 < 0 ∨ 4 ≤ a1.toNatClampNeg)) (am_g (¬ (2 : Int32) = 0) (if ((s1.1 217 a1.toNatClampNeg) - (s1.1 217 a1.toNatClampNeg) / (2 : Int32) * (2 : Int32)) = 0 then (am_let (am_c (fX9_lays s1) (fun (s8 : AS) (v7 : Unit) => fX9_rules_L130 a1 am_fu s8 (0 : Int32) (0 : Int32))) (fun J122 => am_let (some (s1, (-2 : Int32))) (fun J113 => fX9_rules_L51 a1 s1 J122 J113 am_fu (0 : Int32)))) else (some (s1, (-2 : Int32)))))))))))))
def kX9_rules : List (Nat × Instr × Nat) := [(0, .aload_n 0, 1), (1, .iconst 0, 1), (2, .putfield 80, 3), (5, .iload_n 1, 1), (6, .invokestatic 89, 3), (9, .ifCond .eq 10, 3), (12, .aload_n 0, 1), (13, .invokevirtual 251, 3), (16, .ifCond .ne 6, 3), (19, .bipush (-2), 2), (21, .ireturn, 1), (22, .aload_n 0, 1), (23, .getfield 7, 3), (26, .iload_n 1, 1), (27, .iaload, 1), (28, .iconst (-1), 1), (29, .if_icmp .ne 6, 3), (32, .bipush (-6), 2), (34, .ireturn, 1), (35, .aload_n 0, 1), (36, .getfield 13, 3), (39, .iload_n 1, 1), (40, .iaload, 1), (41, .iconst 2, 1), (42, .irem, 1), (43, .ifCond .eq 6, 3), (46, .bipush (-2), 2), (48, .ireturn, 1), (49, .iconst 0, 1), (50, .istore_n 2, 1), (51, .iload_n 2, 1), (52, .aload_n 0, 1), (53, .getfield 13, 3), (56, .iload_n 1, 1), (57, .iaload, 1), (58, .if_icmp .ge 64, 3), (61, .aload_n 0, 1), (62, .getfield 16, 3), (65, .bipush 60, 2), (67, .iload_n 1, 1), (68, .imul, 1), (69, .iload_n 2, 1), (70, .iadd, 1), (71, .laload, 1), (72, .lconst 0, 1), (73, .ldc2_w 254, 3), (76, .invokestatic 85, 3), (79, .ifCond .eq 34, 3), (82, .aload_n 0, 1), (83, .getfield 16, 3), (86, .bipush 60, 2), (88, .iload_n 1, 1), (89, .imul, 1), (90, .iload_n 2, 1), (91, .iadd, 1), (92, .iconst 1, 1), (93, .iadd, 1), (94, .laload, 1), (95, .ldc2_w 124, 3), (98, .aload_n 0, 1), (99, .getfield 34, 3), (102, .iconst 0, 1), (103, .iaload, 1), (104, .i2l, 1), (105, .lconst 1, 1), (106, .lsub, 1), (107, .invokestatic 85, 3), (110, .ifCond .ne 6, 3), (113, .bipush (-2), 2), (115, .ireturn, 1), (116, .iinc 2 2, 3), (119, .goto (-68), 3), (122, .aload_n 0, 1), (123, .invokevirtual 336, 3), (126, .iconst 0, 1), (127, .istore_n 2, 1), (128, .iconst 0, 1), (129, .istore_n 3, 1), (130, .iload_n 3, 1), (131, .iconst 4, 1), (132, .if_icmp .ge 103, 3), (135, .aload_n 0, 1), (136, .iload_n 3, 1), (137, .putfield 265, 3), (140, .aload_n 0, 1), (141, .invokevirtual 339, 3), (144, .iconst 1, 1), (145, .istore 4, 2), (147, .iconst 0, 1), (148, .istore 5, 2), (150, .iload 5, 2), (152, .aload_n 0, 1), (153, .getfield 13, 3), (156, .iload_n 1, 1), (157, .iaload, 1), (158, .if_icmp .ge 56, 3), (161, .iload 4, 2), (163, .aload_n 0, 1), (164, .getfield 56, 3), (167, .aload_n 0, 1), (168, .getfield 16, 3), (171, .bipush 60, 2), (173, .iload_n 1, 1), (174, .imul, 1), (175, .iload 5, 2), (177, .iadd, 1), (178, .laload, 1), (179, .l2i, 1), (180, .iaload, 1), (181, .i2l, 1), (182, .aload_n 0, 1), (183, .getfield 16, 3), (186, .bipush 60, 2), (188, .iload_n 1, 1), (189, .imul, 1), (190, .iload 5, 2), (192, .iadd, 1), (193, .iconst 1, 1), (194, .iadd, 1), (195, .laload, 1), (196, .lcmp, 1), (197, .ifCond .ne 7, 3), (200, .iconst 1, 1), (201, .goto 4, 3), (204, .iconst 0, 1), (205, .iand, 1), (206, .istore 4, 2), (208, .iinc 5 2, 3), (211, .goto (-61), 3), (214, .iload_n 2, 1), (215, .iload 4, 2), (217, .ifCond .eq 9, 3), (220, .iconst 1, 1), (221, .iload_n 3, 1), (222, .ishl, 1), (223, .goto 4, 3), (226, .iconst 0, 1), (227, .ior, 1), (228, .istore_n 2, 1), (229, .iinc 3 1, 3), (232, .goto (-102), 3), (235, .iload_n 2, 1), (236, .ireturn, 1)]
theorem qX9_rules : ∀ q ∈ kX9_rules, decode mX9_rules.2.2.1 q.1 = .ok (q.2.1, q.2.2) ∧ am_iok mX9_rules.2.2.2.1 q.1 q.2.1 q.2.2 = true := by decide +kernel
set_option maxRecDepth 100000 in
theorem wX9_rules : Cond.code mX9_rules.2.1 mX9_rules.2.2.1 mX9_rules.2.2.2.1 mX9_rules.2.2.2.2.1 ∈ am_T := List.mem_filter.mpr ⟨List.mem_of_getElem? (i := 1900) rfl, rfl⟩
set_option maxHeartbeats 4000000 in
set_option maxRecDepth 100000 in
theorem tX9_rules (l : Launch) (d : Nat) {s0 : AS} {a1 : Int32} {sE : AS} {rE : Int32} (hf : fX9_rules s0 a1 = some (sE, rE)) : am_Ct l (d + 5) mX9_rules [.inr (.inr ((10, 0, 0), 215)), .inl a1] s0 sE (some (.inl rE)) := by
  refine am_sim l (d + 4) (code := kX9_rules) (by decide +kernel) wX9_rules qX9_rules (Nat.le_of_ble_eq_true rfl) ?_
  intro X hX
  show X 0 [(0, .inr (.inr ((10, 0, 0), 215))), (1, .inl a1)] [] s0
  unfold fX9_rules at hf
  refine am_blk hX 0 3 (And.intro rfl (am_nl (Z := fun s1 => X 5 [(0, .inr (.inr ((10, 0, 0), 215))), (1, .inl a1)] [] s1) hf (fun s1 hf => ?_)))
  obtain ⟨v2, hcv2, hf⟩ := am_r_of hf
  refine am_jn hf (fun J19 => J19 = some (sE, rE) → X 19 [] [] s1) ?_ ?_
  · intro hf
    refine am_blk hX 9 2 (am_ri hf)
  · intro J19 hJ19 hf
    refine am_blk hX 3 3 (And.intro rfl (Exists.intro s1 (Exists.intro (some (.inl v2)) (And.intro (tX9_isSlot l (d + 2) hcv2) (And.intro (fun hb => ?_) (fun hb => ?_))))))
    · have hf := am_it hf hb
      show X 19 [(0, .inr (.inr ((10, 0, 0), 215))), (1, .inl a1)] [] s1
      exact am_wk hX [] (hJ19 hf)
    · have hf := am_if hf hb
      show X 12 [(0, .inr (.inr ((10, 0, 0), 215))), (1, .inl a1)] [] s1
      obtain ⟨v3, hcv3, hf⟩ := am_r_of hf
      refine am_blk hX 6 3 (And.intro rfl (And.intro rfl (Exists.intro s1 (Exists.intro (some (.inl v3)) (And.intro (tX9_isMarch l (d + 3) hcv3) (And.intro (fun hb => ?_) (fun hb => ?_)))))))
      · have hf := am_if hf hb
        show X 22 [(0, .inr (.inr ((10, 0, 0), 215))), (1, .inl a1)] [] s1
        obtain ⟨g4, hf⟩ := am_g_of hf
        refine am_blk hX 11 6 (And.intro rfl (And.intro rfl (And.intro g4 (And.intro (fun hb => ?_) (fun hb => ?_)))))
        · have hf := am_if hf hb
          show X 35 [(0, .inr (.inr ((10, 0, 0), 215))), (1, .inl a1)] [] s1
          obtain ⟨g5, hf⟩ := am_g_of hf
          obtain ⟨g6, hf⟩ := am_g_of hf
          refine am_blk hX 19 7 (And.intro rfl (And.intro rfl (And.intro g5 (And.intro g6 (And.intro (fun hb => ?_) (fun hb => ?_))))))
          · have hf := am_it hf hb
            show X 49 [(0, .inr (.inr ((10, 0, 0), 215))), (1, .inl a1)] [] s1
            refine am_jn hf (fun J122 => J122 = some (sE, rE) → X 122 [(0, .inr (.inr ((10, 0, 0), 215))), (1, .inl a1)] [] s1) ?_ ?_
            · intro hf
              obtain ⟨s8, v7, hcv7, hf⟩ := am_c_of hf
              have hL130 : ∀ (n130 : Nat) (s9 : AS) (x10 : Int32) (x11 : Int32), fX9_rules_L130 a1 n130 s9 x10 x11 = some (sE, rE) → X 130 [(0, .inr (.inr ((10, 0, 0), 215))), (1, .inl a1), (2, .inl x10), (3, .inl x11)] [] s9 := by
                intro n130
                induction n130 with
                | zero => intro s9 x10 x11 hf; exact am_no (show none = some _ from hf)
                | succ n130 ih130 =>
                  intro s9 x10 x11 hf
                  refine am_blk hX 78 3 (And.intro (fun hb => ?_) (fun hb => ?_))
                  · have hf := am_it hf hb
                    show X 235 [(0, .inr (.inr ((10, 0, 0), 215))), (1, .inl a1), (2, .inl x10), (3, .inl x11)] [] s9
                    refine am_blk hX 141 2 (am_ri hf)
                  · have hf := am_if hf hb
                    show X 135 [(0, .inr (.inr ((10, 0, 0), 215))), (1, .inl a1), (2, .inl x10), (3, .inl x11)] [] s9
                    refine am_blk hX 81 3 (And.intro rfl (am_nl (Z := fun s12 => X 140 [(0, .inr (.inr ((10, 0, 0), 215))), (1, .inl a1), (2, .inl x10), (3, .inl x11)] [] s12) hf (fun s12 hf => ?_)))
                    obtain ⟨s14, v13, hcv13, hf⟩ := am_c_of hf
                    refine am_jn hf (fun J214 => ∀ (x15 : Int32), J214 x15 = some (sE, rE) → X 214 [(0, .inr (.inr ((10, 0, 0), 215))), (1, .inl a1), (2, .inl x10), (3, .inl x11), (4, .inl x15)] [] s14) ?_ ?_
                    · intro x15 hf
                      refine am_jn hf (fun J227 => ∀ (x16 : Int32), J227 x16 = some (sE, rE) → X 227 [(0, .inr (.inr ((10, 0, 0), 215))), (1, .inl a1), (3, .inl x11)] [.inl x16, .inl x10] s14) ?_ ?_
                      · intro x16 hf
                        refine am_blk hX 137 2 (am_nl (Z := fun x17 => X 229 [(2, .inl x17), (0, .inr (.inr ((10, 0, 0), 215))), (1, .inl a1), (3, .inl x11)] [] s14) hf (fun x17 hf => ?_))
                        refine am_blk hX 139 1 (am_nl (Z := fun x18 => X 232 [(3, .inl x18), (2, .inl x17), (0, .inr (.inr ((10, 0, 0), 215))), (1, .inl a1)] [] s14) hf (fun x18 hf => ?_))
                        refine am_blk hX 140 1 (?_)
                        show X 130 [(3, .inl x18), (2, .inl x17), (0, .inr (.inr ((10, 0, 0), 215))), (1, .inl a1)] [] s14
                        exact am_wk hX [2, 3, 1, 0] (ih130 s14 x17 x18 hf)
                      · intro J227 hJ227 hf
                        refine am_blk hX 129 3 (And.intro (fun hb => ?_) (fun hb => ?_))
                        · have hf := am_it hf hb
                          show X 226 [(0, .inr (.inr ((10, 0, 0), 215))), (1, .inl a1), (2, .inl x10), (3, .inl x11), (4, .inl x15)] [.inl x10] s14
                          refine am_blk hX 136 1 (?_)
                          show X 227 [(0, .inr (.inr ((10, 0, 0), 215))), (1, .inl a1), (2, .inl x10), (3, .inl x11), (4, .inl x15)] [.inl (0 : Int32), .inl x10] s14
                          exact am_wk hX [0, 1, 3] (hJ227 (0 : Int32) hf)
                        · have hf := am_if hf hb
                          show X 220 [(0, .inr (.inr ((10, 0, 0), 215))), (1, .inl a1), (2, .inl x10), (3, .inl x11), (4, .inl x15)] [.inl x10] s14
                          refine am_blk hX 132 4 (?_)
                          show X 227 [(0, .inr (.inr ((10, 0, 0), 215))), (1, .inl a1), (2, .inl x10), (3, .inl x11), (4, .inl x15)] [.inl ((1 : Int32) <<< (x11 &&& 31)), .inl x10] s14
                          exact am_wk hX [0, 1, 3] (hJ227 ((1 : Int32) <<< (x11 &&& 31)) hf)
                    · intro J214 hJ214 hf
                      have hL150 : ∀ (n150 : Nat) (x19 : Int32) (x20 : Int32), fX9_rules_L150 a1 s14 J214 n150 x19 x20 = some (sE, rE) → X 150 [(0, .inr (.inr ((10, 0, 0), 215))), (1, .inl a1), (2, .inl x10), (3, .inl x11), (4, .inl x19), (5, .inl x20)] [] s14 := by
                        intro n150
                        induction n150 with
                        | zero => intro x19 x20 hf; exact am_no (show none = some _ from hf)
                        | succ n150 ih150 =>
                          intro x19 x20 hf
                          obtain ⟨g21, hf⟩ := am_g_of hf
                          refine am_blk hX 90 6 (And.intro rfl (And.intro rfl (And.intro g21 (And.intro (fun hb => ?_) (fun hb => ?_)))))
                          · have hf := am_it hf hb
                            show X 214 [(0, .inr (.inr ((10, 0, 0), 215))), (1, .inl a1), (2, .inl x10), (3, .inl x11), (4, .inl x19), (5, .inl x20)] [] s14
                            exact am_wk hX [0, 1, 2, 3, 4] (hJ214 x19 hf)
                          · have hf := am_if hf hb
                            show X 161 [(0, .inr (.inr ((10, 0, 0), 215))), (1, .inl a1), (2, .inl x10), (3, .inl x11), (4, .inl x19), (5, .inl x20)] [] s14
                            obtain ⟨g22, hf⟩ := am_g_of hf
                            obtain ⟨g23, hf⟩ := am_g_of hf
                            obtain ⟨g24, hf⟩ := am_g_of hf
                            refine am_jn hf (fun J205 => ∀ (x25 : Int32), J205 x25 = some (sE, rE) → X 205 [(0, .inr (.inr ((10, 0, 0), 215))), (1, .inl a1), (2, .inl x10), (3, .inl x11), (5, .inl x20)] [.inl x25, .inl x19] s14) ?_ ?_
                            · intro x25 hf
                              refine am_blk hX 125 2 (am_nl (Z := fun x26 => X 208 [(4, .inl x26), (0, .inr (.inr ((10, 0, 0), 215))), (1, .inl a1), (2, .inl x10), (3, .inl x11), (5, .inl x20)] [] s14) hf (fun x26 hf => ?_))
                              refine am_blk hX 127 1 (am_nl (Z := fun x27 => X 211 [(5, .inl x27), (4, .inl x26), (0, .inr (.inr ((10, 0, 0), 215))), (1, .inl a1), (2, .inl x10), (3, .inl x11)] [] s14) hf (fun x27 hf => ?_))
                              refine am_blk hX 128 1 (?_)
                              show X 150 [(5, .inl x27), (4, .inl x26), (0, .inr (.inr ((10, 0, 0), 215))), (1, .inl a1), (2, .inl x10), (3, .inl x11)] [] s14
                              exact am_wk hX [2, 3, 4, 5, 1, 0] (ih150 x26 x27 hf)
                            · intro J205 hJ205 hf
                              refine am_blk hX 96 26 (And.intro rfl (And.intro rfl (And.intro rfl (And.intro g22 (And.intro rfl (And.intro g23 (And.intro rfl (And.intro rfl (And.intro g24 (And.intro (fun hb => ?_) (fun hb => ?_)))))))))))
                              · have hf := am_if hf hb
                                show X 204 [(0, .inr (.inr ((10, 0, 0), 215))), (1, .inl a1), (2, .inl x10), (3, .inl x11), (4, .inl x19), (5, .inl x20)] [.inl x19] s14
                                refine am_blk hX 124 1 (?_)
                                show X 205 [(0, .inr (.inr ((10, 0, 0), 215))), (1, .inl a1), (2, .inl x10), (3, .inl x11), (4, .inl x19), (5, .inl x20)] [.inl (0 : Int32), .inl x19] s14
                                exact am_wk hX [0, 1, 2, 3, 5] (hJ205 (0 : Int32) hf)
                              · have hf := am_it hf hb
                                show X 200 [(0, .inr (.inr ((10, 0, 0), 215))), (1, .inl a1), (2, .inl x10), (3, .inl x11), (4, .inl x19), (5, .inl x20)] [.inl x19] s14
                                refine am_blk hX 122 2 (?_)
                                show X 205 [(0, .inr (.inr ((10, 0, 0), 215))), (1, .inl a1), (2, .inl x10), (3, .inl x11), (4, .inl x19), (5, .inl x20)] [.inl (1 : Int32), .inl x19] s14
                                exact am_wk hX [0, 1, 2, 3, 5] (hJ205 (1 : Int32) hf)
                      refine am_blk hX 84 6 (And.intro rfl (And.intro rfl (Exists.intro s14 (Exists.intro none (And.intro (tX9_runs l (d + 0) hcv13) (?_))))))
                      show X 150 [(5, .inl (0 : Int32)), (4, .inl (1 : Int32)), (0, .inr (.inr ((10, 0, 0), 215))), (1, .inl a1), (2, .inl x10), (3, .inl x11)] [] s14
                      exact am_wk hX [2, 3, 4, 5, 1, 0] (hL150 am_fu (1 : Int32) (0 : Int32) hf)
              refine am_blk hX 72 6 (And.intro rfl (And.intro rfl (Exists.intro s8 (Exists.intro none (And.intro (tX9_lays l (d + 3) hcv7) (?_))))))
              show X 130 [(3, .inl (0 : Int32)), (2, .inl (0 : Int32)), (0, .inr (.inr ((10, 0, 0), 215))), (1, .inl a1)] [] s8
              exact am_wk hX [2, 3, 1, 0] (hL130 am_fu s8 (0 : Int32) (0 : Int32) hf)
            · intro J122 hJ122 hf
              refine am_jn hf (fun J113 => J113 = some (sE, rE) → X 113 [] [] s1) ?_ ?_
              · intro hf
                refine am_blk hX 68 2 (am_ri hf)
              · intro J113 hJ113 hf
                have hL51 : ∀ (n51 : Nat) (x28 : Int32), fX9_rules_L51 a1 s1 J122 J113 n51 x28 = some (sE, rE) → X 51 [(0, .inr (.inr ((10, 0, 0), 215))), (1, .inl a1), (2, .inl x28)] [] s1 := by
                  intro n51
                  induction n51 with
                  | zero => intro x28 hf; exact am_no (show none = some _ from hf)
                  | succ n51 ih51 =>
                    intro x28 hf
                    obtain ⟨g29, hf⟩ := am_g_of hf
                    refine am_blk hX 30 6 (And.intro rfl (And.intro rfl (And.intro g29 (And.intro (fun hb => ?_) (fun hb => ?_)))))
                    · have hf := am_it hf hb
                      show X 122 [(0, .inr (.inr ((10, 0, 0), 215))), (1, .inl a1), (2, .inl x28)] [] s1
                      exact am_wk hX [0, 1] (hJ122 hf)
                    · have hf := am_if hf hb
                      show X 61 [(0, .inr (.inr ((10, 0, 0), 215))), (1, .inl a1), (2, .inl x28)] [] s1
                      obtain ⟨g30, hf⟩ := am_g_of hf
                      obtain ⟨v31, hcv31, hf⟩ := am_r_of hf
                      refine am_blk hX 36 12 (And.intro rfl (And.intro rfl (And.intro g30 (And.intro rfl (Exists.intro s1 (Exists.intro (some (.inl v31)) (And.intro (tX9_in l (d + 3) hcv31) (And.intro (fun hb => ?_) (fun hb => ?_)))))))))
                      · have hf := am_it hf hb
                        show X 113 [(0, .inr (.inr ((10, 0, 0), 215))), (1, .inl a1), (2, .inl x28)] [] s1
                        exact am_wk hX [] (hJ113 hf)
                      · have hf := am_if hf hb
                        show X 82 [(0, .inr (.inr ((10, 0, 0), 215))), (1, .inl a1), (2, .inl x28)] [] s1
                        obtain ⟨g32, hf⟩ := am_g_of hf
                        obtain ⟨g33, hf⟩ := am_g_of hf
                        obtain ⟨v34, hcv34, hf⟩ := am_r_of hf
                        refine am_blk hX 48 20 (And.intro rfl (And.intro rfl (And.intro g32 (And.intro rfl (And.intro rfl (And.intro g33 (And.intro rfl (Exists.intro s1 (Exists.intro (some (.inl v34)) (And.intro (tX9_in l (d + 3) hcv34) (And.intro (fun hb => ?_) (fun hb => ?_))))))))))))
                        · have hf := am_if hf hb
                          show X 116 [(0, .inr (.inr ((10, 0, 0), 215))), (1, .inl a1), (2, .inl x28)] [] s1
                          refine am_blk hX 70 1 (am_nl (Z := fun x35 => X 119 [(2, .inl x35), (0, .inr (.inr ((10, 0, 0), 215))), (1, .inl a1)] [] s1) hf (fun x35 hf => ?_))
                          refine am_blk hX 71 1 (?_)
                          show X 51 [(2, .inl x35), (0, .inr (.inr ((10, 0, 0), 215))), (1, .inl a1)] [] s1
                          exact am_wk hX [1, 2, 0] (ih51 x35 hf)
                        · have hf := am_it hf hb
                          show X 113 [(0, .inr (.inr ((10, 0, 0), 215))), (1, .inl a1), (2, .inl x28)] [] s1
                          exact am_wk hX [] (hJ113 hf)
                refine am_blk hX 28 2 (?_)
                show X 51 [(2, .inl (0 : Int32)), (0, .inr (.inr ((10, 0, 0), 215))), (1, .inl a1)] [] s1
                exact am_wk hX [1, 2, 0] (hL51 am_fu (0 : Int32) hf)
          · have hf := am_if hf hb
            show X 46 [(0, .inr (.inr ((10, 0, 0), 215))), (1, .inl a1)] [] s1
            refine am_blk hX 26 2 (am_ri hf)
        · have hf := am_it hf hb
          show X 32 [(0, .inr (.inr ((10, 0, 0), 215))), (1, .inl a1)] [] s1
          refine am_blk hX 17 2 (am_ri hf)
      · have hf := am_it hf hb
        show X 19 [(0, .inr (.inr ((10, 0, 0), 215))), (1, .inl a1)] [] s1
        exact am_wk hX [] (hJ19 hf)
def fX9_shamsOf_L67 (a1 : Int32) (a2 : Int32) (x6 : Int32) (x8 : Int32) (v10 : Int32) : Nat → AS → Int32 → Int32 → Option (AS × Int32)
  | 0, _, _, _ => none
  | n67 + 1, s11, x12, x13 =>
    am_g (¬ ((0 : Int32) < 0 ∨ 35 ≤ (0 : Int32).toNatClampNeg)) (if (s11.1 222 ((0 : Int32).toNatClampNeg)) ≤ x13 then (some (s11, x12)) else (am_let (fun (s15 : AS) (x16 : Int32) => am_let (x13 + (1 : Int32)) (fun (x17 : Int32) => fX9_shamsOf_L67 a1 a2 x6 x8 v10 n67 s15 x16 x17)) (fun J164 => if x13 = x8 then (J164 s11 x12) else (am_r (fX9_areBeside s11 x6 x13) (fun (v18 : Int32) => if v18 = 0 then (J164 s11 x12) else (am_let (am_si s11 215 27 a2) (fun (s19 : AS) => am_let (am_si s19 215 28 a1) (fun (s20 : AS) => am_let (am_si s20 215 29 x13) (fun (s21 : AS) => am_c (fX9_runs s21) (fun (s23 : AS) (v22 : Unit) => am_r (fX9_wantsOf s23 a1) (fun (v24 : Int32) => am_r (fX9_firstAt s23 v24 (a2 + (1 : Int32))) (fun (v25 : Int32) => am_let (fun (x26 : Int32) => am_let (x12 ||| x26) (fun (x27 : Int32) => J164 s23 x27)) (fun J161 => am_let (J161 (0 : Int32)) (fun J160 => if v25 = (-1 : Int32) then (J160) else (am_let (J161 ((1 : Int32) <<< (x13 &&& 31))) (fun J153 => if v10 = (-1 : Int32) then (J153) else (if v10 ≤ v25 then (J160) else (J153))))))))))))))))))
def fX9_shamsOf (s0 : AS) (a1 : Int32) (a2 : Int32) : Option (AS × Int32) :=
  am_c (fX9_laysNow s0) (fun (s2 : AS) (v1 : Unit) => am_g (¬ (a2 < 0 ∨ 61 ≤ a2.toNatClampNeg)) (am_r (fX9_isBit (s2.1 230 a2.toNatClampNeg) a1) (fun (v4 : Int32) => am_let (some (s2, (0 : Int32))) (fun J25 => if v4 = 0 then (J25) else (if (s2.1 215 45) = a2 then (J25) else (am_g (¬ (a2 < 0 ∨ 61 ≤ a2.toNatClampNeg)) (am_let (s2.1 229 a2.toNatClampNeg) (fun (x6 : Int32) => am_g (¬ ((((8 : Int32) * a2) + a1) < 0 ∨ 488 ≤ (((8 : Int32) * a2) + a1).toNatClampNeg)) (am_let (s2.1 232 ((((8 : Int32) * a2) + a1).toNatClampNeg)) (fun (x8 : Int32) => am_r (fX9_wantsOf s2 a1) (fun (v9 : Int32) => am_r (fX9_firstAt s2 v9 (a2 + (1 : Int32))) (fun (v10 : Int32) => fX9_shamsOf_L67 a1 a2 x6 x8 v10 am_fu s2 (0 : Int32) (0 : Int32)))))))))))))
def kX9_shamsOf : List (Nat × Instr × Nat) := [(0, .aload_n 0, 1), (1, .invokevirtual 358, 3), (4, .aload_n 0, 1), (5, .getfield 59, 3), (8, .iload_n 2, 1), (9, .iaload, 1), (10, .iload_n 1, 1), (11, .invokestatic 280, 3), (14, .ifCond .eq 11, 3), (17, .aload_n 0, 1), (18, .getfield 309, 3), (21, .iload_n 2, 1), (22, .if_icmp .ne 5, 3), (25, .iconst 0, 1), (26, .ireturn, 1), (27, .aload_n 0, 1), (28, .getfield 56, 3), (31, .iload_n 2, 1), (32, .iaload, 1), (33, .istore_n 3, 1), (34, .aload_n 0, 1), (35, .getfield 65, 3), (38, .bipush 8, 2), (40, .iload_n 2, 1), (41, .imul, 1), (42, .iload_n 1, 1), (43, .iadd, 1), (44, .iaload, 1), (45, .istore 4, 2), (47, .aload_n 0, 1), (48, .aload_n 0, 1), (49, .iload_n 1, 1), (50, .invokevirtual 299, 3), (53, .iload_n 2, 1), (54, .iconst 1, 1), (55, .iadd, 1), (56, .invokevirtual 361, 3), (59, .istore 5, 2), (61, .iconst 0, 1), (62, .istore 6, 2), (64, .iconst 0, 1), (65, .istore 7, 2), (67, .iload 7, 2), (69, .aload_n 0, 1), (70, .getfield 34, 3), (73, .iconst 0, 1), (74, .iaload, 1), (75, .if_icmp .ge 95, 3), (78, .iload 7, 2), (80, .iload 4, 2), (82, .if_icmp .eq 82, 3), (85, .aload_n 0, 1), (86, .iload_n 3, 1), (87, .iload 7, 2), (89, .invokevirtual 398, 3), (92, .ifCond .ne 6, 3), (95, .goto 69, 3), (98, .aload_n 0, 1), (99, .iload_n 2, 1), (100, .putfield 268, 3), (103, .aload_n 0, 1), (104, .iload_n 1, 1), (105, .putfield 324, 3), (108, .aload_n 0, 1), (109, .iload 7, 2), (111, .putfield 327, 3), (114, .aload_n 0, 1), (115, .invokevirtual 339, 3), (118, .aload_n 0, 1), (119, .aload_n 0, 1), (120, .iload_n 1, 1), (121, .invokevirtual 299, 3), (124, .iload_n 2, 1), (125, .iconst 1, 1), (126, .iadd, 1), (127, .invokevirtual 361, 3), (130, .istore 8, 2), (132, .iload 6, 2), (134, .iload 8, 2), (136, .iconst (-1), 1), (137, .if_icmp .eq 23, 3), (140, .iload 5, 2), (142, .iconst (-1), 1), (143, .if_icmp .eq 10, 3), (146, .iload 8, 2), (148, .iload 5, 2), (150, .if_icmp .ge 10, 3), (153, .iconst 1, 1), (154, .iload 7, 2), (156, .ishl, 1), (157, .goto 4, 3), (160, .iconst 0, 1), (161, .ior, 1), (162, .istore 6, 2), (164, .iinc 7 1, 3), (167, .goto (-100), 3), (170, .iload 6, 2), (172, .ireturn, 1)]
theorem qX9_shamsOf : ∀ q ∈ kX9_shamsOf, decode mX9_shamsOf.2.2.1 q.1 = .ok (q.2.1, q.2.2) ∧ am_iok mX9_shamsOf.2.2.2.1 q.1 q.2.1 q.2.2 = true := by decide +kernel
set_option maxRecDepth 100000 in
theorem wX9_shamsOf : Cond.code mX9_shamsOf.2.1 mX9_shamsOf.2.2.1 mX9_shamsOf.2.2.2.1 mX9_shamsOf.2.2.2.2.1 ∈ am_T := List.mem_filter.mpr ⟨List.mem_of_getElem? (i := 1908) rfl, rfl⟩
set_option maxHeartbeats 4000000 in
set_option maxRecDepth 100000 in
theorem tX9_shamsOf (l : Launch) (d : Nat) {s0 : AS} {a1 : Int32} {a2 : Int32} {sE : AS} {rE : Int32} (hf : fX9_shamsOf s0 a1 a2 = some (sE, rE)) : am_Ct l (d + 6) mX9_shamsOf [.inr (.inr ((10, 0, 0), 215)), .inl a1, .inl a2] s0 sE (some (.inl rE)) := by
  refine am_sim l (d + 5) (code := kX9_shamsOf) (by decide +kernel) wX9_shamsOf qX9_shamsOf (Nat.le_of_ble_eq_true rfl) ?_
  intro X hX
  show X 0 [(0, .inr (.inr ((10, 0, 0), 215))), (1, .inl a1), (2, .inl a2)] [] s0
  unfold fX9_shamsOf at hf
  obtain ⟨s2, v1, hcv1, hf⟩ := am_c_of hf
  obtain ⟨g3, hf⟩ := am_g_of hf
  obtain ⟨v4, hcv4, hf⟩ := am_r_of hf
  refine am_jn hf (fun J25 => J25 = some (sE, rE) → X 25 [] [] s2) ?_ ?_
  · intro hf
    refine am_blk hX 13 2 (am_ri hf)
  · intro J25 hJ25 hf
    refine am_blk hX 0 9 (And.intro rfl (And.intro rfl (Exists.intro s2 (Exists.intro none (And.intro (tX9_laysNow l (d + 0) hcv1) (And.intro rfl (And.intro rfl (And.intro g3 (And.intro rfl (Exists.intro s2 (Exists.intro (some (.inl v4)) (And.intro (tX9_isBit l (d + 4) hcv4) (And.intro (fun hb => ?_) (fun hb => ?_))))))))))))))
    · have hf := am_it hf hb
      show X 25 [(0, .inr (.inr ((10, 0, 0), 215))), (1, .inl a1), (2, .inl a2)] [] s2
      exact am_wk hX [] (hJ25 hf)
    · have hf := am_if hf hb
      show X 17 [(0, .inr (.inr ((10, 0, 0), 215))), (1, .inl a1), (2, .inl a2)] [] s2
      refine am_blk hX 9 4 (And.intro rfl (And.intro (fun hb => ?_) (fun hb => ?_)))
      · have hf := am_if hf hb
        show X 27 [(0, .inr (.inr ((10, 0, 0), 215))), (1, .inl a1), (2, .inl a2)] [] s2
        obtain ⟨g5, hf⟩ := am_g_of hf
        refine am_blk hX 15 5 (And.intro rfl (And.intro rfl (And.intro g5 (am_nl (Z := fun x6 => X 34 [(3, .inl x6), (0, .inr (.inr ((10, 0, 0), 215))), (1, .inl a1), (2, .inl a2)] [] s2) hf (fun x6 hf => ?_)))))
        obtain ⟨g7, hf⟩ := am_g_of hf
        refine am_blk hX 20 9 (And.intro rfl (And.intro rfl (And.intro g7 (am_nl (Z := fun x8 => X 47 [(4, .inl x8), (3, .inl x6), (0, .inr (.inr ((10, 0, 0), 215))), (1, .inl a1), (2, .inl a2)] [] s2) hf (fun x8 hf => ?_)))))
        obtain ⟨v9, hcv9, hf⟩ := am_r_of hf
        obtain ⟨v10, hcv10, hf⟩ := am_r_of hf
        have hL67 : ∀ (n67 : Nat) (s11 : AS) (x12 : Int32) (x13 : Int32), fX9_shamsOf_L67 a1 a2 x6 x8 v10 n67 s11 x12 x13 = some (sE, rE) → X 67 [(0, .inr (.inr ((10, 0, 0), 215))), (1, .inl a1), (2, .inl a2), (3, .inl x6), (4, .inl x8), (5, .inl v10), (6, .inl x12), (7, .inl x13)] [] s11 := by
          intro n67
          induction n67 with
          | zero => intro s11 x12 x13 hf; exact am_no (show none = some _ from hf)
          | succ n67 ih67 =>
            intro s11 x12 x13 hf
            obtain ⟨g14, hf⟩ := am_g_of hf
            refine am_blk hX 42 6 (And.intro rfl (And.intro rfl (And.intro g14 (And.intro (fun hb => ?_) (fun hb => ?_)))))
            · have hf := am_it hf hb
              show X 170 [(0, .inr (.inr ((10, 0, 0), 215))), (1, .inl a1), (2, .inl a2), (3, .inl x6), (4, .inl x8), (5, .inl v10), (6, .inl x12), (7, .inl x13)] [] s11
              refine am_blk hX 96 2 (am_ri hf)
            · have hf := am_if hf hb
              show X 78 [(0, .inr (.inr ((10, 0, 0), 215))), (1, .inl a1), (2, .inl a2), (3, .inl x6), (4, .inl x8), (5, .inl v10), (6, .inl x12), (7, .inl x13)] [] s11
              refine am_jn hf (fun J164 => ∀ (s15 : AS) (x16 : Int32), J164 s15 x16 = some (sE, rE) → X 164 [(0, .inr (.inr ((10, 0, 0), 215))), (1, .inl a1), (2, .inl a2), (3, .inl x6), (4, .inl x8), (5, .inl v10), (6, .inl x16), (7, .inl x13)] [] s15) ?_ ?_
              · intro s15 x16 hf
                refine am_blk hX 94 1 (am_nl (Z := fun x17 => X 167 [(7, .inl x17), (0, .inr (.inr ((10, 0, 0), 215))), (1, .inl a1), (2, .inl a2), (3, .inl x6), (4, .inl x8), (5, .inl v10), (6, .inl x16)] [] s15) hf (fun x17 hf => ?_))
                refine am_blk hX 95 1 (?_)
                show X 67 [(7, .inl x17), (0, .inr (.inr ((10, 0, 0), 215))), (1, .inl a1), (2, .inl a2), (3, .inl x6), (4, .inl x8), (5, .inl v10), (6, .inl x16)] [] s15
                exact am_wk hX [1, 2, 3, 4, 5, 6, 7, 0] (ih67 s15 x16 x17 hf)
              · intro J164 hJ164 hf
                refine am_blk hX 48 3 (And.intro (fun hb => ?_) (fun hb => ?_))
                · have hf := am_it hf hb
                  show X 164 [(0, .inr (.inr ((10, 0, 0), 215))), (1, .inl a1), (2, .inl a2), (3, .inl x6), (4, .inl x8), (5, .inl v10), (6, .inl x12), (7, .inl x13)] [] s11
                  exact am_wk hX [0, 1, 2, 3, 4, 5, 6, 7] (hJ164 s11 x12 hf)
                · have hf := am_if hf hb
                  show X 85 [(0, .inr (.inr ((10, 0, 0), 215))), (1, .inl a1), (2, .inl a2), (3, .inl x6), (4, .inl x8), (5, .inl v10), (6, .inl x12), (7, .inl x13)] [] s11
                  obtain ⟨v18, hcv18, hf⟩ := am_r_of hf
                  refine am_blk hX 51 5 (And.intro rfl (And.intro rfl (Exists.intro s11 (Exists.intro (some (.inl v18)) (And.intro (tX9_areBeside l (d + 3) hcv18) (And.intro (fun hb => ?_) (fun hb => ?_)))))))
                  · have hf := am_if hf hb
                    show X 98 [(0, .inr (.inr ((10, 0, 0), 215))), (1, .inl a1), (2, .inl a2), (3, .inl x6), (4, .inl x8), (5, .inl v10), (6, .inl x12), (7, .inl x13)] [] s11
                    refine am_blk hX 57 3 (And.intro rfl (am_nl (Z := fun s19 => X 103 [(0, .inr (.inr ((10, 0, 0), 215))), (1, .inl a1), (2, .inl a2), (3, .inl x6), (4, .inl x8), (5, .inl v10), (6, .inl x12), (7, .inl x13)] [] s19) hf (fun s19 hf => ?_)))
                    refine am_blk hX 60 3 (And.intro rfl (am_nl (Z := fun s20 => X 108 [(0, .inr (.inr ((10, 0, 0), 215))), (1, .inl a1), (2, .inl a2), (3, .inl x6), (4, .inl x8), (5, .inl v10), (6, .inl x12), (7, .inl x13)] [] s20) hf (fun s20 hf => ?_)))
                    refine am_blk hX 63 3 (And.intro rfl (am_nl (Z := fun s21 => X 114 [(0, .inr (.inr ((10, 0, 0), 215))), (1, .inl a1), (2, .inl a2), (3, .inl x6), (4, .inl x8), (5, .inl v10), (6, .inl x12), (7, .inl x13)] [] s21) hf (fun s21 hf => ?_)))
                    obtain ⟨s23, v22, hcv22, hf⟩ := am_c_of hf
                    obtain ⟨v24, hcv24, hf⟩ := am_r_of hf
                    obtain ⟨v25, hcv25, hf⟩ := am_r_of hf
                    refine am_jn hf (fun J161 => ∀ (x26 : Int32), J161 x26 = some (sE, rE) → X 161 [(0, .inr (.inr ((10, 0, 0), 215))), (1, .inl a1), (2, .inl a2), (3, .inl x6), (4, .inl x8), (5, .inl v10), (7, .inl x13)] [.inl x26, .inl x12] s23) ?_ ?_
                    · intro x26 hf
                      refine am_blk hX 92 2 (am_nl (Z := fun x27 => X 164 [(6, .inl x27), (0, .inr (.inr ((10, 0, 0), 215))), (1, .inl a1), (2, .inl a2), (3, .inl x6), (4, .inl x8), (5, .inl v10), (7, .inl x13)] [] s23) hf (fun x27 hf => ?_))
                      exact am_wk hX [1, 2, 3, 4, 5, 6, 0, 7] (hJ164 s23 x27 hf)
                    · intro J161 hJ161 hf
                      refine am_jn hf (fun J160 => J160 = some (sE, rE) → X 160 [(0, .inr (.inr ((10, 0, 0), 215))), (1, .inl a1), (2, .inl a2), (3, .inl x6), (4, .inl x8), (5, .inl v10), (7, .inl x13)] [.inl x12] s23) ?_ ?_
                      · intro hf
                        refine am_blk hX 91 1 (?_)
                        show X 161 [(0, .inr (.inr ((10, 0, 0), 215))), (1, .inl a1), (2, .inl a2), (3, .inl x6), (4, .inl x8), (5, .inl v10), (7, .inl x13)] [.inl (0 : Int32), .inl x12] s23
                        exact am_wk hX [0, 1, 2, 3, 4, 5, 6] (hJ161 (0 : Int32) hf)
                      · intro J160 hJ160 hf
                        refine am_blk hX 66 15 (And.intro rfl (And.intro rfl (Exists.intro s23 (Exists.intro none (And.intro (tX9_runs l (d + 1) hcv22) (And.intro rfl (And.intro rfl (Exists.intro s23 (Exists.intro (some (.inl v24)) (And.intro (tX9_wantsOf l (d + 4) hcv24) (And.intro rfl (And.intro rfl (Exists.intro s23 (Exists.intro (some (.inl v25)) (And.intro (tX9_firstAt l (d + 4) hcv25) (And.intro (fun hb => ?_) (fun hb => ?_)))))))))))))))))
                        · have hf := am_it hf hb
                          show X 160 [(8, .inl v25), (0, .inr (.inr ((10, 0, 0), 215))), (1, .inl a1), (2, .inl a2), (3, .inl x6), (4, .inl x8), (5, .inl v10), (6, .inl x12), (7, .inl x13)] [.inl x12] s23
                          exact am_wk hX [1, 2, 3, 4, 5, 6, 8] (hJ160 hf)
                        · have hf := am_if hf hb
                          show X 140 [(8, .inl v25), (0, .inr (.inr ((10, 0, 0), 215))), (1, .inl a1), (2, .inl a2), (3, .inl x6), (4, .inl x8), (5, .inl v10), (6, .inl x12), (7, .inl x13)] [.inl x12] s23
                          refine am_jn hf (fun J153 => J153 = some (sE, rE) → X 153 [(0, .inr (.inr ((10, 0, 0), 215))), (1, .inl a1), (2, .inl a2), (3, .inl x6), (4, .inl x8), (5, .inl v10), (7, .inl x13)] [.inl x12] s23) ?_ ?_
                          · intro hf
                            refine am_blk hX 87 4 (?_)
                            show X 161 [(0, .inr (.inr ((10, 0, 0), 215))), (1, .inl a1), (2, .inl a2), (3, .inl x6), (4, .inl x8), (5, .inl v10), (7, .inl x13)] [.inl ((1 : Int32) <<< (x13 &&& 31)), .inl x12] s23
                            exact am_wk hX [0, 1, 2, 3, 4, 5, 6] (hJ161 ((1 : Int32) <<< (x13 &&& 31)) hf)
                          · intro J153 hJ153 hf
                            refine am_blk hX 81 3 (And.intro (fun hb => ?_) (fun hb => ?_))
                            · have hf := am_it hf hb
                              show X 153 [(8, .inl v25), (0, .inr (.inr ((10, 0, 0), 215))), (1, .inl a1), (2, .inl a2), (3, .inl x6), (4, .inl x8), (5, .inl v10), (6, .inl x12), (7, .inl x13)] [.inl x12] s23
                              exact am_wk hX [1, 2, 3, 4, 5, 6, 8] (hJ153 hf)
                            · have hf := am_if hf hb
                              show X 146 [(8, .inl v25), (0, .inr (.inr ((10, 0, 0), 215))), (1, .inl a1), (2, .inl a2), (3, .inl x6), (4, .inl x8), (5, .inl v10), (6, .inl x12), (7, .inl x13)] [.inl x12] s23
                              refine am_blk hX 84 3 (And.intro (fun hb => ?_) (fun hb => ?_))
                              · have hf := am_it hf hb
                                show X 160 [(8, .inl v25), (0, .inr (.inr ((10, 0, 0), 215))), (1, .inl a1), (2, .inl a2), (3, .inl x6), (4, .inl x8), (5, .inl v10), (6, .inl x12), (7, .inl x13)] [.inl x12] s23
                                exact am_wk hX [1, 2, 3, 4, 5, 6, 8] (hJ160 hf)
                              · have hf := am_if hf hb
                                show X 153 [(8, .inl v25), (0, .inr (.inr ((10, 0, 0), 215))), (1, .inl a1), (2, .inl a2), (3, .inl x6), (4, .inl x8), (5, .inl v10), (6, .inl x12), (7, .inl x13)] [.inl x12] s23
                                exact am_wk hX [1, 2, 3, 4, 5, 6, 8] (hJ153 hf)
                  · have hf := am_it hf hb
                    show X 95 [(0, .inr (.inr ((10, 0, 0), 215))), (1, .inl a1), (2, .inl a2), (3, .inl x6), (4, .inl x8), (5, .inl v10), (6, .inl x12), (7, .inl x13)] [] s11
                    refine am_blk hX 56 1 (?_)
                    show X 164 [(0, .inr (.inr ((10, 0, 0), 215))), (1, .inl a1), (2, .inl a2), (3, .inl x6), (4, .inl x8), (5, .inl v10), (6, .inl x12), (7, .inl x13)] [] s11
                    exact am_wk hX [0, 1, 2, 3, 4, 5, 6, 7] (hJ164 s11 x12 hf)
        refine am_blk hX 29 13 (And.intro rfl (And.intro rfl (Exists.intro s2 (Exists.intro (some (.inl v9)) (And.intro (tX9_wantsOf l (d + 4) hcv9) (And.intro rfl (And.intro rfl (Exists.intro s2 (Exists.intro (some (.inl v10)) (And.intro (tX9_firstAt l (d + 4) hcv10) (?_)))))))))))
        show X 67 [(7, .inl (0 : Int32)), (6, .inl (0 : Int32)), (5, .inl v10), (4, .inl x8), (3, .inl x6), (0, .inr (.inr ((10, 0, 0), 215))), (1, .inl a1), (2, .inl a2)] [] s2
        exact am_wk hX [5, 6, 7, 4, 3, 2, 1, 0] (hL67 am_fu s2 (0 : Int32) (0 : Int32) hf)
      · have hf := am_it hf hb
        show X 25 [(0, .inr (.inr ((10, 0, 0), 215))), (1, .inl a1), (2, .inl a2)] [] s2
        exact am_wk hX [] (hJ25 hf)
def fX9_shammers_L20 (a1 : Int32) : Nat → AS → Int32 → Int32 → Option (AS × Int32)
  | 0, _, _, _ => none
  | n20 + 1, s3, x4, x5 =>
    am_r (fX9_people s3) (fun (v6 : Int32) => if v6 ≤ x5 then (some (s3, x4)) else (am_c (fX9_shamsOf s3 x5 a1) (fun (s8 : AS) (v7 : Int32) => am_let (fun (x9 : Int32) => am_let (x4 ||| x9) (fun (x10 : Int32) => am_let (x5 + (1 : Int32)) (fun (x11 : Int32) => fX9_shammers_L20 a1 n20 s8 x10 x11))) (fun J45 => if v7 = 0 then (J45 (0 : Int32)) else (J45 ((1 : Int32) <<< (x5 &&& 31)))))))
def fX9_shammers (s0 : AS) (a1 : Int32) : Option (AS × Int32) :=
  am_let (am_si s0 215 0 (0 : Int32)) (fun (s1 : AS) => am_r (fX9_isStep s1 a1) (fun (v2 : Int32) => if v2 = 0 then (some (s1, (-2 : Int32))) else (fX9_shammers_L20 a1 am_fu s1 (0 : Int32) (0 : Int32))))
def kX9_shammers : List (Nat × Instr × Nat) := [(0, .aload_n 0, 1), (1, .iconst 0, 1), (2, .putfield 80, 3), (5, .aload_n 0, 1), (6, .iload_n 1, 1), (7, .invokevirtual 355, 3), (10, .ifCond .ne 6, 3), (13, .bipush (-2), 2), (15, .ireturn, 1), (16, .iconst 0, 1), (17, .istore_n 2, 1), (18, .iconst 0, 1), (19, .istore_n 3, 1), (20, .iload_n 3, 1), (21, .aload_n 0, 1), (22, .invokevirtual 248, 3), (25, .if_icmp .ge 28, 3), (28, .iload_n 2, 1), (29, .aload_n 0, 1), (30, .iload_n 3, 1), (31, .iload_n 1, 1), (32, .invokevirtual 401, 3), (35, .ifCond .eq 9, 3), (38, .iconst 1, 1), (39, .iload_n 3, 1), (40, .ishl, 1), (41, .goto 4, 3), (44, .iconst 0, 1), (45, .ior, 1), (46, .istore_n 2, 1), (47, .iinc 3 1, 3), (50, .goto (-30), 3), (53, .iload_n 2, 1), (54, .ireturn, 1)]
theorem qX9_shammers : ∀ q ∈ kX9_shammers, decode mX9_shammers.2.2.1 q.1 = .ok (q.2.1, q.2.2) ∧ am_iok mX9_shammers.2.2.2.1 q.1 q.2.1 q.2.2 = true := by decide +kernel
set_option maxRecDepth 100000 in
theorem wX9_shammers : Cond.code mX9_shammers.2.1 mX9_shammers.2.2.1 mX9_shammers.2.2.2.1 mX9_shammers.2.2.2.2.1 ∈ am_T := List.mem_filter.mpr ⟨List.mem_of_getElem? (i := 1916) rfl, rfl⟩
set_option maxHeartbeats 4000000 in
set_option maxRecDepth 100000 in
theorem tX9_shammers (l : Launch) (d : Nat) {s0 : AS} {a1 : Int32} {sE : AS} {rE : Int32} (hf : fX9_shammers s0 a1 = some (sE, rE)) : am_Ct l (d + 7) mX9_shammers [.inr (.inr ((10, 0, 0), 215)), .inl a1] s0 sE (some (.inl rE)) := by
  refine am_sim l (d + 6) (code := kX9_shammers) (by decide +kernel) wX9_shammers qX9_shammers (Nat.le_of_ble_eq_true rfl) ?_
  intro X hX
  show X 0 [(0, .inr (.inr ((10, 0, 0), 215))), (1, .inl a1)] [] s0
  unfold fX9_shammers at hf
  refine am_blk hX 0 3 (And.intro rfl (am_nl (Z := fun s1 => X 5 [(0, .inr (.inr ((10, 0, 0), 215))), (1, .inl a1)] [] s1) hf (fun s1 hf => ?_)))
  obtain ⟨v2, hcv2, hf⟩ := am_r_of hf
  refine am_blk hX 3 4 (And.intro rfl (And.intro rfl (Exists.intro s1 (Exists.intro (some (.inl v2)) (And.intro (tX9_isStep l (d + 4) hcv2) (And.intro (fun hb => ?_) (fun hb => ?_)))))))
  · have hf := am_if hf hb
    show X 16 [(0, .inr (.inr ((10, 0, 0), 215))), (1, .inl a1)] [] s1
    have hL20 : ∀ (n20 : Nat) (s3 : AS) (x4 : Int32) (x5 : Int32), fX9_shammers_L20 a1 n20 s3 x4 x5 = some (sE, rE) → X 20 [(0, .inr (.inr ((10, 0, 0), 215))), (1, .inl a1), (2, .inl x4), (3, .inl x5)] [] s3 := by
      intro n20
      induction n20 with
      | zero => intro s3 x4 x5 hf; exact am_no (show none = some _ from hf)
      | succ n20 ih20 =>
        intro s3 x4 x5 hf
        obtain ⟨v6, hcv6, hf⟩ := am_r_of hf
        refine am_blk hX 13 4 (And.intro rfl (And.intro rfl (Exists.intro s3 (Exists.intro (some (.inl v6)) (And.intro (tX9_people l (d + 5) hcv6) (And.intro (fun hb => ?_) (fun hb => ?_)))))))
        · have hf := am_it hf hb
          show X 53 [(0, .inr (.inr ((10, 0, 0), 215))), (1, .inl a1), (2, .inl x4), (3, .inl x5)] [] s3
          refine am_blk hX 32 2 (am_ri hf)
        · have hf := am_if hf hb
          show X 28 [(0, .inr (.inr ((10, 0, 0), 215))), (1, .inl a1), (2, .inl x4), (3, .inl x5)] [] s3
          obtain ⟨s8, v7, hcv7, hf⟩ := am_c_of hf
          refine am_jn hf (fun J45 => ∀ (x9 : Int32), J45 x9 = some (sE, rE) → X 45 [(0, .inr (.inr ((10, 0, 0), 215))), (1, .inl a1), (3, .inl x5)] [.inl x9, .inl x4] s8) ?_ ?_
          · intro x9 hf
            refine am_blk hX 28 2 (am_nl (Z := fun x10 => X 47 [(2, .inl x10), (0, .inr (.inr ((10, 0, 0), 215))), (1, .inl a1), (3, .inl x5)] [] s8) hf (fun x10 hf => ?_))
            refine am_blk hX 30 1 (am_nl (Z := fun x11 => X 50 [(3, .inl x11), (2, .inl x10), (0, .inr (.inr ((10, 0, 0), 215))), (1, .inl a1)] [] s8) hf (fun x11 hf => ?_))
            refine am_blk hX 31 1 (?_)
            show X 20 [(3, .inl x11), (2, .inl x10), (0, .inr (.inr ((10, 0, 0), 215))), (1, .inl a1)] [] s8
            exact am_wk hX [2, 3, 1, 0] (ih20 s8 x10 x11 hf)
          · intro J45 hJ45 hf
            refine am_blk hX 17 6 (And.intro rfl (And.intro rfl (Exists.intro s8 (Exists.intro (some (.inl v7)) (And.intro (tX9_shamsOf l (d + 0) hcv7) (And.intro (fun hb => ?_) (fun hb => ?_)))))))
            · have hf := am_it hf hb
              show X 44 [(0, .inr (.inr ((10, 0, 0), 215))), (1, .inl a1), (2, .inl x4), (3, .inl x5)] [.inl x4] s8
              refine am_blk hX 27 1 (?_)
              show X 45 [(0, .inr (.inr ((10, 0, 0), 215))), (1, .inl a1), (2, .inl x4), (3, .inl x5)] [.inl (0 : Int32), .inl x4] s8
              exact am_wk hX [0, 1, 3] (hJ45 (0 : Int32) hf)
            · have hf := am_if hf hb
              show X 38 [(0, .inr (.inr ((10, 0, 0), 215))), (1, .inl a1), (2, .inl x4), (3, .inl x5)] [.inl x4] s8
              refine am_blk hX 23 4 (?_)
              show X 45 [(0, .inr (.inr ((10, 0, 0), 215))), (1, .inl a1), (2, .inl x4), (3, .inl x5)] [.inl ((1 : Int32) <<< (x5 &&& 31)), .inl x4] s8
              exact am_wk hX [0, 1, 3] (hJ45 ((1 : Int32) <<< (x5 &&& 31)) hf)
    refine am_blk hX 9 4 (?_)
    show X 20 [(3, .inl (0 : Int32)), (2, .inl (0 : Int32)), (0, .inr (.inr ((10, 0, 0), 215))), (1, .inl a1)] [] s1
    exact am_wk hX [2, 3, 1, 0] (hL20 am_fu s1 (0 : Int32) (0 : Int32) hf)
  · have hf := am_it hf hb
    show X 13 [(0, .inr (.inr ((10, 0, 0), 215))), (1, .inl a1)] [] s1
    refine am_blk hX 7 2 (am_ri hf)
def fX9_shams (s0 : AS) (a1 : Int32) (a2 : Int32) : Option (AS × Int32) :=
  am_let (am_si s0 215 0 (0 : Int32)) (fun (s1 : AS) => am_r (fX9_isPerson s1 a1.toInt64) (fun (v2 : Int32) => am_let (fun (s3 : AS) (x4 : Int32) => some (s3, x4)) (fun J33 => am_let (J33 s1 (-2 : Int32)) (fun J31 => if v2 = 0 then (J31) else (am_r (fX9_isStep s1 a2) (fun (v5 : Int32) => if v5 = 0 then (J31) else (am_c (fX9_shamsOf s1 a1 a2) (fun (s7 : AS) (v6 : Int32) => J33 s7 v6))))))))
def kX9_shams : List (Nat × Instr × Nat) := [(0, .aload_n 0, 1), (1, .iconst 0, 1), (2, .putfield 80, 3), (5, .aload_n 0, 1), (6, .iload_n 1, 1), (7, .i2l, 1), (8, .invokevirtual 344, 3), (11, .ifCond .eq 20, 3), (14, .aload_n 0, 1), (15, .iload_n 2, 1), (16, .invokevirtual 355, 3), (19, .ifCond .eq 12, 3), (22, .aload_n 0, 1), (23, .iload_n 1, 1), (24, .iload_n 2, 1), (25, .invokevirtual 401, 3), (28, .goto 5, 3), (31, .bipush (-2), 2), (33, .ireturn, 1)]
theorem qX9_shams : ∀ q ∈ kX9_shams, decode mX9_shams.2.2.1 q.1 = .ok (q.2.1, q.2.2) ∧ am_iok mX9_shams.2.2.2.1 q.1 q.2.1 q.2.2 = true := by decide +kernel
set_option maxRecDepth 100000 in
theorem wX9_shams : Cond.code mX9_shams.2.1 mX9_shams.2.2.1 mX9_shams.2.2.2.1 mX9_shams.2.2.2.2.1 ∈ am_T := List.mem_filter.mpr ⟨List.mem_of_getElem? (i := 1904) rfl, rfl⟩
set_option maxHeartbeats 4000000 in
set_option maxRecDepth 100000 in
theorem tX9_shams (l : Launch) (d : Nat) {s0 : AS} {a1 : Int32} {a2 : Int32} {sE : AS} {rE : Int32} (hf : fX9_shams s0 a1 a2 = some (sE, rE)) : am_Ct l (d + 7) mX9_shams [.inr (.inr ((10, 0, 0), 215)), .inl a1, .inl a2] s0 sE (some (.inl rE)) := by
  refine am_sim l (d + 6) (code := kX9_shams) (by decide +kernel) wX9_shams qX9_shams (Nat.le_of_ble_eq_true rfl) ?_
  intro X hX
  show X 0 [(0, .inr (.inr ((10, 0, 0), 215))), (1, .inl a1), (2, .inl a2)] [] s0
  unfold fX9_shams at hf
  refine am_blk hX 0 3 (And.intro rfl (am_nl (Z := fun s1 => X 5 [(0, .inr (.inr ((10, 0, 0), 215))), (1, .inl a1), (2, .inl a2)] [] s1) hf (fun s1 hf => ?_)))
  obtain ⟨v2, hcv2, hf⟩ := am_r_of hf
  refine am_jn hf (fun J33 => ∀ (s3 : AS) (x4 : Int32), J33 s3 x4 = some (sE, rE) → X 33 [] [.inl x4] s3) ?_ ?_
  · intro s3 x4 hf
    refine am_blk hX 18 1 (am_ri hf)
  · intro J33 hJ33 hf
    refine am_jn hf (fun J31 => J31 = some (sE, rE) → X 31 [] [] s1) ?_ ?_
    · intro hf
      refine am_blk hX 17 1 (?_)
      show X 33 [] [.inl (-2 : Int32)] s1
      exact am_wk hX [] (hJ33 s1 (-2 : Int32) hf)
    · intro J31 hJ31 hf
      refine am_blk hX 3 5 (And.intro rfl (And.intro rfl (Exists.intro s1 (Exists.intro (some (.inl v2)) (And.intro (tX9_isPerson l (d + 4) hcv2) (And.intro (fun hb => ?_) (fun hb => ?_)))))))
      · have hf := am_it hf hb
        show X 31 [(0, .inr (.inr ((10, 0, 0), 215))), (1, .inl a1), (2, .inl a2)] [] s1
        exact am_wk hX [] (hJ31 hf)
      · have hf := am_if hf hb
        show X 14 [(0, .inr (.inr ((10, 0, 0), 215))), (1, .inl a1), (2, .inl a2)] [] s1
        obtain ⟨v5, hcv5, hf⟩ := am_r_of hf
        refine am_blk hX 8 4 (And.intro rfl (And.intro rfl (Exists.intro s1 (Exists.intro (some (.inl v5)) (And.intro (tX9_isStep l (d + 4) hcv5) (And.intro (fun hb => ?_) (fun hb => ?_)))))))
        · have hf := am_it hf hb
          show X 31 [(0, .inr (.inr ((10, 0, 0), 215))), (1, .inl a1), (2, .inl a2)] [] s1
          exact am_wk hX [] (hJ31 hf)
        · have hf := am_if hf hb
          show X 22 [(0, .inr (.inr ((10, 0, 0), 215))), (1, .inl a1), (2, .inl a2)] [] s1
          obtain ⟨s7, v6, hcv6, hf⟩ := am_c_of hf
          refine am_blk hX 12 5 (And.intro rfl (And.intro rfl (Exists.intro s7 (Exists.intro (some (.inl v6)) (And.intro (tX9_shamsOf l (d + 0) hcv6) (?_))))))
          show X 33 [(0, .inr (.inr ((10, 0, 0), 215))), (1, .inl a1), (2, .inl a2)] [.inl v6] s7
          exact am_wk hX [] (hJ33 s7 v6 hf)
def fX9_shutsOf_L8 (a1 : Int32) : Nat → AS → Int32 → Int32 → Option (AS × Int32)
  | 0, _, _, _ => none
  | n8 + 1, s3, x4, x5 =>
    am_g (¬ ((4 : Int32) < 0 ∨ 35 ≤ (4 : Int32).toNatClampNeg)) (if ((1 : Int32) <<< ((s3.1 222 ((4 : Int32).toNatClampNeg)) &&& 31)) ≤ x5 then (some (s3, x4)) else (am_let (fun (s7 : AS) (x8 : Int32) => am_let (x5 + (1 : Int32)) (fun (x9 : Int32) => fX9_shutsOf_L8 a1 n8 s7 x8 x9)) (fun J60 => am_let (am_let (am_si s3 215 24 x5) (fun (s10 : AS) => am_c (fX9_runs s10) (fun (s12 : AS) (v11 : Unit) => am_r (fX9_firstAt s12 a1 (0 : Int32)) (fun (v13 : Int32) => if v13 = (-1 : Int32) then (J60 s12 x5) else (J60 s12 x4))))) (fun J39 => if x4 = (-1 : Int32) then (J39) else (am_r (fX9_sizeOf x5) (fun (v14 : Int32) => am_r (fX9_sizeOf x4) (fun (v15 : Int32) => if v14 < v15 then (J39) else (J60 s3 x4))))))))
def fX9_shutsOf (s0 : AS) (a1 : Int32) : Option (AS × Int32) :=
  am_c (fX9_lays s0) (fun (s2 : AS) (v1 : Unit) => fX9_shutsOf_L8 a1 am_fu s2 (-1 : Int32) (0 : Int32))
def kX9_shutsOf : List (Nat × Instr × Nat) := [(0, .iconst (-1), 1), (1, .istore_n 2, 1), (2, .aload_n 0, 1), (3, .invokevirtual 336, 3), (6, .iconst 0, 1), (7, .istore_n 3, 1), (8, .iload_n 3, 1), (9, .iconst 1, 1), (10, .aload_n 0, 1), (11, .getfield 34, 3), (14, .iconst 4, 1), (15, .iaload, 1), (16, .ishl, 1), (17, .if_icmp .ge 49, 3), (20, .iload_n 2, 1), (21, .iconst (-1), 1), (22, .if_icmp .eq 17, 3), (25, .iload_n 3, 1), (26, .invokestatic 293, 3), (29, .iload_n 2, 1), (30, .invokestatic 293, 3), (33, .if_icmp .lt 6, 3), (36, .goto 24, 3), (39, .aload_n 0, 1), (40, .iload_n 3, 1), (41, .putfield 259, 3), (44, .aload_n 0, 1), (45, .invokevirtual 339, 3), (48, .aload_n 0, 1), (49, .iload_n 1, 1), (50, .iconst 0, 1), (51, .invokevirtual 361, 3), (54, .iconst (-1), 1), (55, .if_icmp .ne 5, 3), (58, .iload_n 3, 1), (59, .istore_n 2, 1), (60, .iinc 3 1, 3), (63, .goto (-55), 3), (66, .iload_n 2, 1), (67, .ireturn, 1)]
theorem qX9_shutsOf : ∀ q ∈ kX9_shutsOf, decode mX9_shutsOf.2.2.1 q.1 = .ok (q.2.1, q.2.2) ∧ am_iok mX9_shutsOf.2.2.2.1 q.1 q.2.1 q.2.2 = true := by decide +kernel
set_option maxRecDepth 100000 in
theorem wX9_shutsOf : Cond.code mX9_shutsOf.2.1 mX9_shutsOf.2.2.1 mX9_shutsOf.2.2.2.1 mX9_shutsOf.2.2.2.2.1 ∈ am_T := List.mem_filter.mpr ⟨List.mem_of_getElem? (i := 1872) rfl, rfl⟩
set_option maxHeartbeats 4000000 in
set_option maxRecDepth 100000 in
theorem tX9_shutsOf (l : Launch) (d : Nat) {s0 : AS} {a1 : Int32} {sE : AS} {rE : Int32} (hf : fX9_shutsOf s0 a1 = some (sE, rE)) : am_Ct l (d + 5) mX9_shutsOf [.inr (.inr ((10, 0, 0), 215)), .inl a1] s0 sE (some (.inl rE)) := by
  refine am_sim l (d + 4) (code := kX9_shutsOf) (by decide +kernel) wX9_shutsOf qX9_shutsOf (Nat.le_of_ble_eq_true rfl) ?_
  intro X hX
  show X 0 [(0, .inr (.inr ((10, 0, 0), 215))), (1, .inl a1)] [] s0
  unfold fX9_shutsOf at hf
  obtain ⟨s2, v1, hcv1, hf⟩ := am_c_of hf
  have hL8 : ∀ (n8 : Nat) (s3 : AS) (x4 : Int32) (x5 : Int32), fX9_shutsOf_L8 a1 n8 s3 x4 x5 = some (sE, rE) → X 8 [(0, .inr (.inr ((10, 0, 0), 215))), (1, .inl a1), (2, .inl x4), (3, .inl x5)] [] s3 := by
    intro n8
    induction n8 with
    | zero => intro s3 x4 x5 hf; exact am_no (show none = some _ from hf)
    | succ n8 ih8 =>
      intro s3 x4 x5 hf
      obtain ⟨g6, hf⟩ := am_g_of hf
      refine am_blk hX 6 8 (And.intro rfl (And.intro rfl (And.intro g6 (And.intro (fun hb => ?_) (fun hb => ?_)))))
      · have hf := am_it hf hb
        show X 66 [(0, .inr (.inr ((10, 0, 0), 215))), (1, .inl a1), (2, .inl x4), (3, .inl x5)] [] s3
        refine am_blk hX 38 2 (am_ri hf)
      · have hf := am_if hf hb
        show X 20 [(0, .inr (.inr ((10, 0, 0), 215))), (1, .inl a1), (2, .inl x4), (3, .inl x5)] [] s3
        refine am_jn hf (fun J60 => ∀ (s7 : AS) (x8 : Int32), J60 s7 x8 = some (sE, rE) → X 60 [(0, .inr (.inr ((10, 0, 0), 215))), (1, .inl a1), (2, .inl x8), (3, .inl x5)] [] s7) ?_ ?_
        · intro s7 x8 hf
          refine am_blk hX 36 1 (am_nl (Z := fun x9 => X 63 [(3, .inl x9), (0, .inr (.inr ((10, 0, 0), 215))), (1, .inl a1), (2, .inl x8)] [] s7) hf (fun x9 hf => ?_))
          refine am_blk hX 37 1 (?_)
          show X 8 [(3, .inl x9), (0, .inr (.inr ((10, 0, 0), 215))), (1, .inl a1), (2, .inl x8)] [] s7
          exact am_wk hX [1, 2, 3, 0] (ih8 s7 x8 x9 hf)
        · intro J60 hJ60 hf
          refine am_jn hf (fun J39 => J39 = some (sE, rE) → X 39 [(0, .inr (.inr ((10, 0, 0), 215))), (1, .inl a1), (2, .inl x4), (3, .inl x5)] [] s3) ?_ ?_
          · intro hf
            refine am_blk hX 23 3 (And.intro rfl (am_nl (Z := fun s10 => X 44 [(0, .inr (.inr ((10, 0, 0), 215))), (1, .inl a1), (2, .inl x4), (3, .inl x5)] [] s10) hf (fun s10 hf => ?_)))
            obtain ⟨s12, v11, hcv11, hf⟩ := am_c_of hf
            obtain ⟨v13, hcv13, hf⟩ := am_r_of hf
            refine am_blk hX 26 8 (And.intro rfl (And.intro rfl (Exists.intro s12 (Exists.intro none (And.intro (tX9_runs l (d + 0) hcv11) (And.intro rfl (And.intro rfl (Exists.intro s12 (Exists.intro (some (.inl v13)) (And.intro (tX9_firstAt l (d + 3) hcv13) (And.intro (fun hb => ?_) (fun hb => ?_))))))))))))
            · have hf := am_if hf hb
              show X 60 [(0, .inr (.inr ((10, 0, 0), 215))), (1, .inl a1), (2, .inl x4), (3, .inl x5)] [] s12
              exact am_wk hX [0, 1, 2, 3] (hJ60 s12 x4 hf)
            · have hf := am_it hf hb
              show X 58 [(0, .inr (.inr ((10, 0, 0), 215))), (1, .inl a1), (2, .inl x4), (3, .inl x5)] [] s12
              refine am_blk hX 34 2 (?_)
              show X 60 [(2, .inl x5), (0, .inr (.inr ((10, 0, 0), 215))), (1, .inl a1), (3, .inl x5)] [] s12
              exact am_wk hX [1, 2, 0, 3] (hJ60 s12 x5 hf)
          · intro J39 hJ39 hf
            refine am_blk hX 14 3 (And.intro (fun hb => ?_) (fun hb => ?_))
            · have hf := am_it hf hb
              show X 39 [(0, .inr (.inr ((10, 0, 0), 215))), (1, .inl a1), (2, .inl x4), (3, .inl x5)] [] s3
              exact am_wk hX [0, 1, 2, 3] (hJ39 hf)
            · have hf := am_if hf hb
              show X 25 [(0, .inr (.inr ((10, 0, 0), 215))), (1, .inl a1), (2, .inl x4), (3, .inl x5)] [] s3
              obtain ⟨v14, hcv14, hf⟩ := am_r_of hf
              obtain ⟨v15, hcv15, hf⟩ := am_r_of hf
              refine am_blk hX 17 5 (And.intro rfl (Exists.intro s3 (Exists.intro (some (.inl v14)) (And.intro (tX9_sizeOf l (d + 3) hcv14) (And.intro rfl (Exists.intro s3 (Exists.intro (some (.inl v15)) (And.intro (tX9_sizeOf l (d + 3) hcv15) (And.intro (fun hb => ?_) (fun hb => ?_))))))))))
              · have hf := am_it hf hb
                show X 39 [(0, .inr (.inr ((10, 0, 0), 215))), (1, .inl a1), (2, .inl x4), (3, .inl x5)] [] s3
                exact am_wk hX [0, 1, 2, 3] (hJ39 hf)
              · have hf := am_if hf hb
                show X 36 [(0, .inr (.inr ((10, 0, 0), 215))), (1, .inl a1), (2, .inl x4), (3, .inl x5)] [] s3
                refine am_blk hX 22 1 (?_)
                show X 60 [(0, .inr (.inr ((10, 0, 0), 215))), (1, .inl a1), (2, .inl x4), (3, .inl x5)] [] s3
                exact am_wk hX [0, 1, 2, 3] (hJ60 s3 x4 hf)
  refine am_blk hX 0 6 (And.intro rfl (And.intro rfl (Exists.intro s2 (Exists.intro none (And.intro (tX9_lays l (d + 3) hcv1) (?_))))))
  show X 8 [(3, .inl (0 : Int32)), (2, .inl (-1 : Int32)), (0, .inr (.inr ((10, 0, 0), 215))), (1, .inl a1)] [] s2
  exact am_wk hX [2, 3, 1, 0] (hL8 am_fu s2 (-1 : Int32) (0 : Int32) hf)
def fX9_shut (s0 : AS) (a1 : Int32) : Option (AS × Int32) :=
  am_let (am_si s0 215 0 (0 : Int32)) (fun (s1 : AS) => am_r (fX9_isPlace s1 a1.toInt64) (fun (v2 : Int32) => if v2 = 0 then (some (s1, (-2 : Int32))) else (am_c (fX9_shutsOf s1 a1) (fun (s4 : AS) (v3 : Int32) => am_let (fun (x5 : Int32) => some (s4, x5)) (fun J36 => if v3 = (-1 : Int32) then (J36 (-1 : Int32)) else (am_r (fX9_sizeOf v3) (fun (v6 : Int32) => J36 v6)))))))
def kX9_shut : List (Nat × Instr × Nat) := [(0, .aload_n 0, 1), (1, .iconst 0, 1), (2, .putfield 80, 3), (5, .aload_n 0, 1), (6, .iload_n 1, 1), (7, .i2l, 1), (8, .invokevirtual 349, 3), (11, .ifCond .ne 6, 3), (14, .bipush (-2), 2), (16, .ireturn, 1), (17, .aload_n 0, 1), (18, .iload_n 1, 1), (19, .invokevirtual 389, 3), (22, .istore_n 2, 1), (23, .iload_n 2, 1), (24, .iconst (-1), 1), (25, .if_icmp .ne 7, 3), (28, .iconst (-1), 1), (29, .goto 7, 3), (32, .iload_n 2, 1), (33, .invokestatic 293, 3), (36, .ireturn, 1)]
theorem qX9_shut : ∀ q ∈ kX9_shut, decode mX9_shut.2.2.1 q.1 = .ok (q.2.1, q.2.2) ∧ am_iok mX9_shut.2.2.2.1 q.1 q.2.1 q.2.2 = true := by decide +kernel
set_option maxRecDepth 100000 in
theorem wX9_shut : Cond.code mX9_shut.2.1 mX9_shut.2.2.1 mX9_shut.2.2.2.1 mX9_shut.2.2.2.2.1 ∈ am_T := List.mem_filter.mpr ⟨List.mem_of_getElem? (i := 1868) rfl, rfl⟩
set_option maxHeartbeats 4000000 in
set_option maxRecDepth 100000 in
theorem tX9_shut (l : Launch) (d : Nat) {s0 : AS} {a1 : Int32} {sE : AS} {rE : Int32} (hf : fX9_shut s0 a1 = some (sE, rE)) : am_Ct l (d + 6) mX9_shut [.inr (.inr ((10, 0, 0), 215)), .inl a1] s0 sE (some (.inl rE)) := by
  refine am_sim l (d + 5) (code := kX9_shut) (by decide +kernel) wX9_shut qX9_shut (Nat.le_of_ble_eq_true rfl) ?_
  intro X hX
  show X 0 [(0, .inr (.inr ((10, 0, 0), 215))), (1, .inl a1)] [] s0
  unfold fX9_shut at hf
  refine am_blk hX 0 3 (And.intro rfl (am_nl (Z := fun s1 => X 5 [(0, .inr (.inr ((10, 0, 0), 215))), (1, .inl a1)] [] s1) hf (fun s1 hf => ?_)))
  obtain ⟨v2, hcv2, hf⟩ := am_r_of hf
  refine am_blk hX 3 5 (And.intro rfl (And.intro rfl (Exists.intro s1 (Exists.intro (some (.inl v2)) (And.intro (tX9_isPlace l (d + 3) hcv2) (And.intro (fun hb => ?_) (fun hb => ?_)))))))
  · have hf := am_if hf hb
    show X 17 [(0, .inr (.inr ((10, 0, 0), 215))), (1, .inl a1)] [] s1
    obtain ⟨s4, v3, hcv3, hf⟩ := am_c_of hf
    refine am_jn hf (fun J36 => ∀ (x5 : Int32), J36 x5 = some (sE, rE) → X 36 [] [.inl x5] s4) ?_ ?_
    · intro x5 hf
      refine am_blk hX 21 1 (am_ri hf)
    · intro J36 hJ36 hf
      refine am_blk hX 10 7 (And.intro rfl (And.intro rfl (Exists.intro s4 (Exists.intro (some (.inl v3)) (And.intro (tX9_shutsOf l (d + 0) hcv3) (And.intro (fun hb => ?_) (fun hb => ?_)))))))
      · have hf := am_if hf hb
        show X 32 [(2, .inl v3), (0, .inr (.inr ((10, 0, 0), 215))), (1, .inl a1)] [] s4
        obtain ⟨v6, hcv6, hf⟩ := am_r_of hf
        refine am_blk hX 19 2 (And.intro rfl (Exists.intro s4 (Exists.intro (some (.inl v6)) (And.intro (tX9_sizeOf l (d + 4) hcv6) (?_)))))
        show X 36 [(2, .inl v3), (0, .inr (.inr ((10, 0, 0), 215))), (1, .inl a1)] [.inl v6] s4
        exact am_wk hX [] (hJ36 v6 hf)
      · have hf := am_it hf hb
        show X 28 [(2, .inl v3), (0, .inr (.inr ((10, 0, 0), 215))), (1, .inl a1)] [] s4
        refine am_blk hX 17 2 (?_)
        show X 36 [(2, .inl v3), (0, .inr (.inr ((10, 0, 0), 215))), (1, .inl a1)] [.inl (-1 : Int32)] s4
        exact am_wk hX [] (hJ36 (-1 : Int32) hf)
  · have hf := am_it hf hb
    show X 14 [(0, .inr (.inr ((10, 0, 0), 215))), (1, .inl a1)] [] s1
    refine am_blk hX 8 2 (am_ri hf)
def fX9_shuts (s0 : AS) (a1 : Int32) : Option (AS × Int32) :=
  am_let (am_si s0 215 0 (0 : Int32)) (fun (s1 : AS) => am_r (fX9_isPlace s1 a1.toInt64) (fun (v2 : Int32) => am_let (fun (s3 : AS) (x4 : Int32) => some (s3, x4)) (fun J24 => if v2 = 0 then (J24 s1 (-2 : Int32)) else (am_c (fX9_shutsOf s1 a1) (fun (s6 : AS) (v5 : Int32) => J24 s6 v5)))))
def kX9_shuts : List (Nat × Instr × Nat) := [(0, .aload_n 0, 1), (1, .iconst 0, 1), (2, .putfield 80, 3), (5, .aload_n 0, 1), (6, .iload_n 1, 1), (7, .i2l, 1), (8, .invokevirtual 349, 3), (11, .ifCond .eq 11, 3), (14, .aload_n 0, 1), (15, .iload_n 1, 1), (16, .invokevirtual 389, 3), (19, .goto 5, 3), (22, .bipush (-2), 2), (24, .ireturn, 1)]
theorem qX9_shuts : ∀ q ∈ kX9_shuts, decode mX9_shuts.2.2.1 q.1 = .ok (q.2.1, q.2.2) ∧ am_iok mX9_shuts.2.2.2.1 q.1 q.2.1 q.2.2 = true := by decide +kernel
set_option maxRecDepth 100000 in
theorem wX9_shuts : Cond.code mX9_shuts.2.1 mX9_shuts.2.2.1 mX9_shuts.2.2.2.1 mX9_shuts.2.2.2.2.1 ∈ am_T := List.mem_filter.mpr ⟨List.mem_of_getElem? (i := 1876) rfl, rfl⟩
set_option maxHeartbeats 4000000 in
set_option maxRecDepth 100000 in
theorem tX9_shuts (l : Launch) (d : Nat) {s0 : AS} {a1 : Int32} {sE : AS} {rE : Int32} (hf : fX9_shuts s0 a1 = some (sE, rE)) : am_Ct l (d + 6) mX9_shuts [.inr (.inr ((10, 0, 0), 215)), .inl a1] s0 sE (some (.inl rE)) := by
  refine am_sim l (d + 5) (code := kX9_shuts) (by decide +kernel) wX9_shuts qX9_shuts (Nat.le_of_ble_eq_true rfl) ?_
  intro X hX
  show X 0 [(0, .inr (.inr ((10, 0, 0), 215))), (1, .inl a1)] [] s0
  unfold fX9_shuts at hf
  refine am_blk hX 0 3 (And.intro rfl (am_nl (Z := fun s1 => X 5 [(0, .inr (.inr ((10, 0, 0), 215))), (1, .inl a1)] [] s1) hf (fun s1 hf => ?_)))
  obtain ⟨v2, hcv2, hf⟩ := am_r_of hf
  refine am_jn hf (fun J24 => ∀ (s3 : AS) (x4 : Int32), J24 s3 x4 = some (sE, rE) → X 24 [] [.inl x4] s3) ?_ ?_
  · intro s3 x4 hf
    refine am_blk hX 13 1 (am_ri hf)
  · intro J24 hJ24 hf
    refine am_blk hX 3 5 (And.intro rfl (And.intro rfl (Exists.intro s1 (Exists.intro (some (.inl v2)) (And.intro (tX9_isPlace l (d + 3) hcv2) (And.intro (fun hb => ?_) (fun hb => ?_)))))))
    · have hf := am_it hf hb
      show X 22 [(0, .inr (.inr ((10, 0, 0), 215))), (1, .inl a1)] [] s1
      refine am_blk hX 12 1 (?_)
      show X 24 [(0, .inr (.inr ((10, 0, 0), 215))), (1, .inl a1)] [.inl (-2 : Int32)] s1
      exact am_wk hX [] (hJ24 s1 (-2 : Int32) hf)
    · have hf := am_if hf hb
      show X 14 [(0, .inr (.inr ((10, 0, 0), 215))), (1, .inl a1)] [] s1
      obtain ⟨s6, v5, hcv5, hf⟩ := am_c_of hf
      refine am_blk hX 8 4 (And.intro rfl (And.intro rfl (Exists.intro s6 (Exists.intro (some (.inl v5)) (And.intro (tX9_shutsOf l (d + 0) hcv5) (?_))))))
      show X 24 [(0, .inr (.inr ((10, 0, 0), 215))), (1, .inl a1)] [.inl v5] s6
      exact am_wk hX [] (hJ24 s6 v5 hf)
def fX9_soonest (s0 : AS) : Option (AS × Int32) :=
  am_let (am_si s0 215 0 (0 : Int32)) (fun (s1 : AS) => am_r (fX9_isMarch s1) (fun (v2 : Int32) => if v2 = 0 then (some (s1, (-2 : Int32))) else (am_c (fX9_endsOf s1) (fun (s4 : AS) (v3 : Int32) => some (s4, s4.1 215 47)))))
def kX9_soonest : List (Nat × Instr × Nat) := [(0, .aload_n 0, 1), (1, .iconst 0, 1), (2, .putfield 80, 3), (5, .aload_n 0, 1), (6, .invokevirtual 251, 3), (9, .ifCond .ne 6, 3), (12, .bipush (-2), 2), (14, .ireturn, 1), (15, .aload_n 0, 1), (16, .invokevirtual 379, 3), (19, .pop, 1), (20, .aload_n 0, 1), (21, .getfield 376, 3), (24, .ireturn, 1)]
theorem qX9_soonest : ∀ q ∈ kX9_soonest, decode mX9_soonest.2.2.1 q.1 = .ok (q.2.1, q.2.2) ∧ am_iok mX9_soonest.2.2.2.1 q.1 q.2.1 q.2.2 = true := by decide +kernel
set_option maxRecDepth 100000 in
theorem wX9_soonest : Cond.code mX9_soonest.2.1 mX9_soonest.2.2.1 mX9_soonest.2.2.2.1 mX9_soonest.2.2.2.2.1 ∈ am_T := List.mem_filter.mpr ⟨List.mem_of_getElem? (i := 1842) rfl, rfl⟩
set_option maxHeartbeats 4000000 in
set_option maxRecDepth 100000 in
theorem tX9_soonest (l : Launch) (d : Nat) {s0 : AS} {sE : AS} {rE : Int32} (hf : fX9_soonest s0 = some (sE, rE)) : am_Ct l (d + 6) mX9_soonest [.inr (.inr ((10, 0, 0), 215))] s0 sE (some (.inl rE)) := by
  refine am_sim l (d + 5) (code := kX9_soonest) (by decide +kernel) wX9_soonest qX9_soonest (Nat.le_of_ble_eq_true rfl) ?_
  intro X hX
  show X 0 [(0, .inr (.inr ((10, 0, 0), 215)))] [] s0
  unfold fX9_soonest at hf
  refine am_blk hX 0 3 (And.intro rfl (am_nl (Z := fun s1 => X 5 [(0, .inr (.inr ((10, 0, 0), 215)))] [] s1) hf (fun s1 hf => ?_)))
  obtain ⟨v2, hcv2, hf⟩ := am_r_of hf
  refine am_blk hX 3 3 (And.intro rfl (And.intro rfl (Exists.intro s1 (Exists.intro (some (.inl v2)) (And.intro (tX9_isMarch l (d + 4) hcv2) (And.intro (fun hb => ?_) (fun hb => ?_)))))))
  · have hf := am_if hf hb
    show X 15 [(0, .inr (.inr ((10, 0, 0), 215)))] [] s1
    obtain ⟨s4, v3, hcv3, hf⟩ := am_c_of hf
    refine am_blk hX 8 6 (And.intro rfl (And.intro rfl (Exists.intro s4 (Exists.intro (some (.inl v3)) (And.intro (tX9_endsOf l (d + 0) hcv3) (And.intro rfl (am_ri hf)))))))
  · have hf := am_it hf hb
    show X 12 [(0, .inr (.inr ((10, 0, 0), 215)))] [] s1
    refine am_blk hX 6 2 (am_ri hf)
def fX9_splits_L37 (a1 : Int32) (s4 : AS) (x6 : Int32) (J117 : Int32 → Option (AS × Int32)) : Nat → Int32 → Int32 → Option (AS × Int32)
  | 0, _, _ => none
  | n37 + 1, x11, x12 =>
    am_r (fX9_people s4) (fun (v13 : Int32) => if v13 ≤ x12 then (J117 x11) else (am_g (¬ ((((8 : Int32) * a1) + x6) < 0 ∨ 488 ≤ (((8 : Int32) * a1) + x6).toNatClampNeg)) (am_let (fun (x15 : Int32) => am_let (x11 + x15) (fun (x16 : Int32) => am_let (x12 + (1 : Int32)) (fun (x17 : Int32) => fX9_splits_L37 a1 s4 x6 J117 n37 x16 x17))) (fun J109 => am_let (J109 (0 : Int32)) (fun J108 => if (s4.1 232 ((((8 : Int32) * a1) + x6).toNatClampNeg)) = (-1 : Int32) then (J108) else (am_g (¬ ((((8 : Int32) * a1) + x12) < 0 ∨ 488 ≤ (((8 : Int32) * a1) + x12).toNatClampNeg)) (if (s4.1 232 ((((8 : Int32) * a1) + x12).toNatClampNeg)) = (-1 : Int32) then (J108) else (am_g (¬ ((((8 : Int32) * a1) + x6) < 0 ∨ 488 ≤ (((8 : Int32) * a1) + x6).toNatClampNeg)) (am_g (¬ ((((8 : Int32) * a1) + x12) < 0 ∨ 488 ≤ (((8 : Int32) * a1) + x12).toNatClampNeg)) (if (s4.1 232 ((((8 : Int32) * a1) + x6).toNatClampNeg)) = (s4.1 232 ((((8 : Int32) * a1) + x12).toNatClampNeg)) then (J108) else (J109 (1 : Int32))))))))))))
def fX9_splits_L24 (a1 : Int32) (s4 : AS) : Nat → Int32 → Int32 → Option (AS × Int32)
  | 0, _, _ => none
  | n24 + 1, x5, x6 =>
    am_r (fX9_people s4) (fun (v7 : Int32) => if v7 ≤ x6 then (some (s4, x5)) else (am_let (x6 + (1 : Int32)) (fun (x8 : Int32) => am_let (fun (x9 : Int32) => am_let (x6 + (1 : Int32)) (fun (x10 : Int32) => fX9_splits_L24 a1 s4 n24 x9 x10)) (fun J117 => fX9_splits_L37 a1 s4 x6 J117 am_fu x5 x8))))
def fX9_splits (s0 : AS) (a1 : Int32) : Option (AS × Int32) :=
  am_let (am_si s0 215 0 (0 : Int32)) (fun (s1 : AS) => am_r (fX9_isStep s1 a1) (fun (v2 : Int32) => if v2 = 0 then (some (s1, (-2 : Int32))) else (am_c (fX9_laysNow s1) (fun (s4 : AS) (v3 : Unit) => fX9_splits_L24 a1 s4 am_fu (0 : Int32) (0 : Int32)))))
def kX9_splits : List (Nat × Instr × Nat) := [(0, .aload_n 0, 1), (1, .iconst 0, 1), (2, .putfield 80, 3), (5, .aload_n 0, 1), (6, .iload_n 1, 1), (7, .invokevirtual 355, 3), (10, .ifCond .ne 6, 3), (13, .bipush (-2), 2), (15, .ireturn, 1), (16, .aload_n 0, 1), (17, .invokevirtual 358, 3), (20, .iconst 0, 1), (21, .istore_n 2, 1), (22, .iconst 0, 1), (23, .istore_n 3, 1), (24, .iload_n 3, 1), (25, .aload_n 0, 1), (26, .invokevirtual 248, 3), (29, .if_icmp .ge 94, 3), (32, .iload_n 3, 1), (33, .iconst 1, 1), (34, .iadd, 1), (35, .istore 4, 2), (37, .iload 4, 2), (39, .aload_n 0, 1), (40, .invokevirtual 248, 3), (43, .if_icmp .ge 74, 3), (46, .iload_n 2, 1), (47, .aload_n 0, 1), (48, .getfield 65, 3), (51, .bipush 8, 2), (53, .iload_n 1, 1), (54, .imul, 1), (55, .iload_n 3, 1), (56, .iadd, 1), (57, .iaload, 1), (58, .iconst (-1), 1), (59, .if_icmp .eq 49, 3), (62, .aload_n 0, 1), (63, .getfield 65, 3), (66, .bipush 8, 2), (68, .iload_n 1, 1), (69, .imul, 1), (70, .iload 4, 2), (72, .iadd, 1), (73, .iaload, 1), (74, .iconst (-1), 1), (75, .if_icmp .eq 33, 3), (78, .aload_n 0, 1), (79, .getfield 65, 3), (82, .bipush 8, 2), (84, .iload_n 1, 1), (85, .imul, 1), (86, .iload_n 3, 1), (87, .iadd, 1), (88, .iaload, 1), (89, .aload_n 0, 1), (90, .getfield 65, 3), (93, .bipush 8, 2), (95, .iload_n 1, 1), (96, .imul, 1), (97, .iload 4, 2), (99, .iadd, 1), (100, .iaload, 1), (101, .if_icmp .eq 7, 3), (104, .iconst 1, 1), (105, .goto 4, 3), (108, .iconst 0, 1), (109, .iadd, 1), (110, .istore_n 2, 1), (111, .iinc 4 1, 3), (114, .goto (-77), 3), (117, .iinc 3 1, 3), (120, .goto (-96), 3), (123, .iload_n 2, 1), (124, .ireturn, 1)]
theorem qX9_splits : ∀ q ∈ kX9_splits, decode mX9_splits.2.2.1 q.1 = .ok (q.2.1, q.2.2) ∧ am_iok mX9_splits.2.2.2.1 q.1 q.2.1 q.2.2 = true := by decide +kernel
set_option maxRecDepth 100000 in
theorem wX9_splits : Cond.code mX9_splits.2.1 mX9_splits.2.2.1 mX9_splits.2.2.2.1 mX9_splits.2.2.2.2.1 ∈ am_T := List.mem_filter.mpr ⟨List.mem_of_getElem? (i := 1770) rfl, rfl⟩
set_option maxHeartbeats 4000000 in
set_option maxRecDepth 100000 in
theorem tX9_splits (l : Launch) (d : Nat) {s0 : AS} {a1 : Int32} {sE : AS} {rE : Int32} (hf : fX9_splits s0 a1 = some (sE, rE)) : am_Ct l (d + 6) mX9_splits [.inr (.inr ((10, 0, 0), 215)), .inl a1] s0 sE (some (.inl rE)) := by
  refine am_sim l (d + 5) (code := kX9_splits) (by decide +kernel) wX9_splits qX9_splits (Nat.le_of_ble_eq_true rfl) ?_
  intro X hX
  show X 0 [(0, .inr (.inr ((10, 0, 0), 215))), (1, .inl a1)] [] s0
  unfold fX9_splits at hf
  refine am_blk hX 0 3 (And.intro rfl (am_nl (Z := fun s1 => X 5 [(0, .inr (.inr ((10, 0, 0), 215))), (1, .inl a1)] [] s1) hf (fun s1 hf => ?_)))
  obtain ⟨v2, hcv2, hf⟩ := am_r_of hf
  refine am_blk hX 3 4 (And.intro rfl (And.intro rfl (Exists.intro s1 (Exists.intro (some (.inl v2)) (And.intro (tX9_isStep l (d + 3) hcv2) (And.intro (fun hb => ?_) (fun hb => ?_)))))))
  · have hf := am_if hf hb
    show X 16 [(0, .inr (.inr ((10, 0, 0), 215))), (1, .inl a1)] [] s1
    obtain ⟨s4, v3, hcv3, hf⟩ := am_c_of hf
    have hL24 : ∀ (n24 : Nat) (x5 : Int32) (x6 : Int32), fX9_splits_L24 a1 s4 n24 x5 x6 = some (sE, rE) → X 24 [(0, .inr (.inr ((10, 0, 0), 215))), (1, .inl a1), (2, .inl x5), (3, .inl x6)] [] s4 := by
      intro n24
      induction n24 with
      | zero => intro x5 x6 hf; exact am_no (show none = some _ from hf)
      | succ n24 ih24 =>
        intro x5 x6 hf
        obtain ⟨v7, hcv7, hf⟩ := am_r_of hf
        refine am_blk hX 15 4 (And.intro rfl (And.intro rfl (Exists.intro s4 (Exists.intro (some (.inl v7)) (And.intro (tX9_people l (d + 4) hcv7) (And.intro (fun hb => ?_) (fun hb => ?_)))))))
        · have hf := am_it hf hb
          show X 123 [(0, .inr (.inr ((10, 0, 0), 215))), (1, .inl a1), (2, .inl x5), (3, .inl x6)] [] s4
          refine am_blk hX 74 2 (am_ri hf)
        · have hf := am_if hf hb
          show X 32 [(0, .inr (.inr ((10, 0, 0), 215))), (1, .inl a1), (2, .inl x5), (3, .inl x6)] [] s4
          refine am_blk hX 19 4 (am_nl (Z := fun x8 => X 37 [(4, .inl x8), (0, .inr (.inr ((10, 0, 0), 215))), (1, .inl a1), (2, .inl x5), (3, .inl x6)] [] s4) hf (fun x8 hf => ?_))
          refine am_jn hf (fun J117 => ∀ (x9 : Int32), J117 x9 = some (sE, rE) → X 117 [(0, .inr (.inr ((10, 0, 0), 215))), (1, .inl a1), (2, .inl x9), (3, .inl x6)] [] s4) ?_ ?_
          · intro x9 hf
            refine am_blk hX 72 1 (am_nl (Z := fun x10 => X 120 [(3, .inl x10), (0, .inr (.inr ((10, 0, 0), 215))), (1, .inl a1), (2, .inl x9)] [] s4) hf (fun x10 hf => ?_))
            refine am_blk hX 73 1 (?_)
            show X 24 [(3, .inl x10), (0, .inr (.inr ((10, 0, 0), 215))), (1, .inl a1), (2, .inl x9)] [] s4
            exact am_wk hX [1, 2, 3, 0] (ih24 x9 x10 hf)
          · intro J117 hJ117 hf
            have hL37 : ∀ (n37 : Nat) (x11 : Int32) (x12 : Int32), fX9_splits_L37 a1 s4 x6 J117 n37 x11 x12 = some (sE, rE) → X 37 [(0, .inr (.inr ((10, 0, 0), 215))), (1, .inl a1), (2, .inl x11), (3, .inl x6), (4, .inl x12)] [] s4 := by
              intro n37
              induction n37 with
              | zero => intro x11 x12 hf; exact am_no (show none = some _ from hf)
              | succ n37 ih37 =>
                intro x11 x12 hf
                obtain ⟨v13, hcv13, hf⟩ := am_r_of hf
                refine am_blk hX 23 4 (And.intro rfl (And.intro rfl (Exists.intro s4 (Exists.intro (some (.inl v13)) (And.intro (tX9_people l (d + 4) hcv13) (And.intro (fun hb => ?_) (fun hb => ?_)))))))
                · have hf := am_it hf hb
                  show X 117 [(0, .inr (.inr ((10, 0, 0), 215))), (1, .inl a1), (2, .inl x11), (3, .inl x6), (4, .inl x12)] [] s4
                  exact am_wk hX [0, 1, 2, 3] (hJ117 x11 hf)
                · have hf := am_if hf hb
                  show X 46 [(0, .inr (.inr ((10, 0, 0), 215))), (1, .inl a1), (2, .inl x11), (3, .inl x6), (4, .inl x12)] [] s4
                  obtain ⟨g14, hf⟩ := am_g_of hf
                  refine am_jn hf (fun J109 => ∀ (x15 : Int32), J109 x15 = some (sE, rE) → X 109 [(0, .inr (.inr ((10, 0, 0), 215))), (1, .inl a1), (3, .inl x6), (4, .inl x12)] [.inl x15, .inl x11] s4) ?_ ?_
                  · intro x15 hf
                    refine am_blk hX 68 2 (am_nl (Z := fun x16 => X 111 [(2, .inl x16), (0, .inr (.inr ((10, 0, 0), 215))), (1, .inl a1), (3, .inl x6), (4, .inl x12)] [] s4) hf (fun x16 hf => ?_))
                    refine am_blk hX 70 1 (am_nl (Z := fun x17 => X 114 [(4, .inl x17), (2, .inl x16), (0, .inr (.inr ((10, 0, 0), 215))), (1, .inl a1), (3, .inl x6)] [] s4) hf (fun x17 hf => ?_))
                    refine am_blk hX 71 1 (?_)
                    show X 37 [(4, .inl x17), (2, .inl x16), (0, .inr (.inr ((10, 0, 0), 215))), (1, .inl a1), (3, .inl x6)] [] s4
                    exact am_wk hX [2, 3, 1, 4, 0] (ih37 x16 x17 hf)
                  · intro J109 hJ109 hf
                    refine am_jn hf (fun J108 => J108 = some (sE, rE) → X 108 [(0, .inr (.inr ((10, 0, 0), 215))), (1, .inl a1), (3, .inl x6), (4, .inl x12)] [.inl x11] s4) ?_ ?_
                    · intro hf
                      refine am_blk hX 67 1 (?_)
                      show X 109 [(0, .inr (.inr ((10, 0, 0), 215))), (1, .inl a1), (3, .inl x6), (4, .inl x12)] [.inl (0 : Int32), .inl x11] s4
                      exact am_wk hX [0, 1, 2, 3] (hJ109 (0 : Int32) hf)
                    · intro J108 hJ108 hf
                      refine am_blk hX 27 11 (And.intro rfl (And.intro rfl (And.intro g14 (And.intro (fun hb => ?_) (fun hb => ?_)))))
                      · have hf := am_it hf hb
                        show X 108 [(0, .inr (.inr ((10, 0, 0), 215))), (1, .inl a1), (2, .inl x11), (3, .inl x6), (4, .inl x12)] [.inl x11] s4
                        exact am_wk hX [0, 1, 3, 4] (hJ108 hf)
                      · have hf := am_if hf hb
                        show X 62 [(0, .inr (.inr ((10, 0, 0), 215))), (1, .inl a1), (2, .inl x11), (3, .inl x6), (4, .inl x12)] [.inl x11] s4
                        obtain ⟨g18, hf⟩ := am_g_of hf
                        refine am_blk hX 38 10 (And.intro rfl (And.intro rfl (And.intro g18 (And.intro (fun hb => ?_) (fun hb => ?_)))))
                        · have hf := am_it hf hb
                          show X 108 [(0, .inr (.inr ((10, 0, 0), 215))), (1, .inl a1), (2, .inl x11), (3, .inl x6), (4, .inl x12)] [.inl x11] s4
                          exact am_wk hX [0, 1, 3, 4] (hJ108 hf)
                        · have hf := am_if hf hb
                          show X 78 [(0, .inr (.inr ((10, 0, 0), 215))), (1, .inl a1), (2, .inl x11), (3, .inl x6), (4, .inl x12)] [.inl x11] s4
                          obtain ⟨g19, hf⟩ := am_g_of hf
                          obtain ⟨g20, hf⟩ := am_g_of hf
                          refine am_blk hX 48 17 (And.intro rfl (And.intro rfl (And.intro g19 (And.intro rfl (And.intro rfl (And.intro g20 (And.intro (fun hb => ?_) (fun hb => ?_))))))))
                          · have hf := am_it hf hb
                            show X 108 [(0, .inr (.inr ((10, 0, 0), 215))), (1, .inl a1), (2, .inl x11), (3, .inl x6), (4, .inl x12)] [.inl x11] s4
                            exact am_wk hX [0, 1, 3, 4] (hJ108 hf)
                          · have hf := am_if hf hb
                            show X 104 [(0, .inr (.inr ((10, 0, 0), 215))), (1, .inl a1), (2, .inl x11), (3, .inl x6), (4, .inl x12)] [.inl x11] s4
                            refine am_blk hX 65 2 (?_)
                            show X 109 [(0, .inr (.inr ((10, 0, 0), 215))), (1, .inl a1), (2, .inl x11), (3, .inl x6), (4, .inl x12)] [.inl (1 : Int32), .inl x11] s4
                            exact am_wk hX [0, 1, 3, 4] (hJ109 (1 : Int32) hf)
            exact am_wk hX [1, 2, 3, 4, 0] (hL37 am_fu x5 x8 hf)
    refine am_blk hX 9 6 (And.intro rfl (And.intro rfl (Exists.intro s4 (Exists.intro none (And.intro (tX9_laysNow l (d + 0) hcv3) (?_))))))
    show X 24 [(3, .inl (0 : Int32)), (2, .inl (0 : Int32)), (0, .inr (.inr ((10, 0, 0), 215))), (1, .inl a1)] [] s4
    exact am_wk hX [2, 3, 1, 0] (hL24 am_fu (0 : Int32) (0 : Int32) hf)
  · have hf := am_it hf hb
    show X 13 [(0, .inr (.inr ((10, 0, 0), 215))), (1, .inl a1)] [] s1
    refine am_blk hX 7 2 (am_ri hf)
def fX9_starts (s0 : AS) (a1 : Int32) : Option (AS × Int32) :=
  am_let (am_si s0 215 0 (0 : Int32)) (fun (s1 : AS) => am_r (fX9_whyNotStarts s1 a1) (fun (v2 : Int32) => am_let (fun (s3 : AS) (x4 : Int32) => some (s3, x4)) (fun J24 => if v2 = 0 then (am_c (fX9_startsOf s1 a1) (fun (s6 : AS) (v5 : Int32) => J24 s6 v5)) else (J24 s1 v2))))
def kX9_starts : List (Nat × Instr × Nat) := [(0, .aload_n 0, 1), (1, .iconst 0, 1), (2, .putfield 80, 3), (5, .aload_n 0, 1), (6, .iload_n 1, 1), (7, .invokevirtual 392, 3), (10, .istore_n 2, 1), (11, .iload_n 2, 1), (12, .ifCond .eq 7, 3), (15, .iload_n 2, 1), (16, .goto 8, 3), (19, .aload_n 0, 1), (20, .iload_n 1, 1), (21, .invokevirtual 395, 3), (24, .ireturn, 1)]
theorem qX9_starts : ∀ q ∈ kX9_starts, decode mX9_starts.2.2.1 q.1 = .ok (q.2.1, q.2.2) ∧ am_iok mX9_starts.2.2.2.1 q.1 q.2.1 q.2.2 = true := by decide +kernel
set_option maxRecDepth 100000 in
theorem wX9_starts : Cond.code mX9_starts.2.1 mX9_starts.2.2.1 mX9_starts.2.2.2.1 mX9_starts.2.2.2.2.1 ∈ am_T := List.mem_filter.mpr ⟨List.mem_of_getElem? (i := 1884) rfl, rfl⟩
set_option maxHeartbeats 4000000 in
set_option maxRecDepth 100000 in
theorem tX9_starts (l : Launch) (d : Nat) {s0 : AS} {a1 : Int32} {sE : AS} {rE : Int32} (hf : fX9_starts s0 a1 = some (sE, rE)) : am_Ct l (d + 6) mX9_starts [.inr (.inr ((10, 0, 0), 215)), .inl a1] s0 sE (some (.inl rE)) := by
  refine am_sim l (d + 5) (code := kX9_starts) (by decide +kernel) wX9_starts qX9_starts (Nat.le_of_ble_eq_true rfl) ?_
  intro X hX
  show X 0 [(0, .inr (.inr ((10, 0, 0), 215))), (1, .inl a1)] [] s0
  unfold fX9_starts at hf
  refine am_blk hX 0 3 (And.intro rfl (am_nl (Z := fun s1 => X 5 [(0, .inr (.inr ((10, 0, 0), 215))), (1, .inl a1)] [] s1) hf (fun s1 hf => ?_)))
  obtain ⟨v2, hcv2, hf⟩ := am_r_of hf
  refine am_jn hf (fun J24 => ∀ (s3 : AS) (x4 : Int32), J24 s3 x4 = some (sE, rE) → X 24 [] [.inl x4] s3) ?_ ?_
  · intro s3 x4 hf
    refine am_blk hX 14 1 (am_ri hf)
  · intro J24 hJ24 hf
    refine am_blk hX 3 6 (And.intro rfl (And.intro rfl (Exists.intro s1 (Exists.intro (some (.inl v2)) (And.intro (tX9_whyNotStarts l (d + 2) hcv2) (And.intro (fun hb => ?_) (fun hb => ?_)))))))
    · have hf := am_it hf hb
      show X 19 [(2, .inl v2), (0, .inr (.inr ((10, 0, 0), 215))), (1, .inl a1)] [] s1
      obtain ⟨s6, v5, hcv5, hf⟩ := am_c_of hf
      refine am_blk hX 11 3 (And.intro rfl (And.intro rfl (Exists.intro s6 (Exists.intro (some (.inl v5)) (And.intro (tX9_startsOf l (d + 0) hcv5) (?_))))))
      show X 24 [(2, .inl v2), (0, .inr (.inr ((10, 0, 0), 215))), (1, .inl a1)] [.inl v5] s6
      exact am_wk hX [] (hJ24 s6 v5 hf)
    · have hf := am_if hf hb
      show X 15 [(2, .inl v2), (0, .inr (.inr ((10, 0, 0), 215))), (1, .inl a1)] [] s1
      refine am_blk hX 9 2 (?_)
      show X 24 [(2, .inl v2), (0, .inr (.inr ((10, 0, 0), 215))), (1, .inl a1)] [.inl v2] s1
      exact am_wk hX [] (hJ24 s1 v2 hf)
