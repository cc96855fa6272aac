/-! METHODS, printed by gen.py. -/
def fX9_runs_L204 (x11 : Int32) (x12 : Int32) (J277 : AS → Option (AS × Unit)) : Nat → AS → Int32 → Option (AS × Unit)
  | 0, _, _ => none
  | n204 + 1, s41, x42 =>
    am_r (fX9_people s41) (fun (v43 : Int32) => if v43 ≤ x42 then (J277 s41) else (am_r (fX9_isBit (s41.1 215 42) x42) (fun (v44 : Int32) => am_let (fun (x45 : Int32) => am_g (¬ ((((8 : Int32) * x12) + x42) < 0 ∨ 488 ≤ (((8 : Int32) * x12) + x42).toNatClampNeg)) (am_let (am_si s41 232 ((((8 : Int32) * x12) + x42).toNatClampNeg) x45) (fun (s47 : AS) => am_let (x42 + (1 : Int32)) (fun (x48 : Int32) => fX9_runs_L204 x11 x12 J277 n204 s47 x48)))) (fun J270 => if v44 = 0 then (J270 (-1 : Int32)) else (am_let (am_r (fX9_wantsOf s41 x42) (fun (v49 : Int32) => am_r (fX9_nextOf s41 x11 v49) (fun (v50 : Int32) => J270 v50))) (fun J260 => if x12 = (s41.1 215 27) then (if x42 = (s41.1 215 28) then (J270 (s41.1 215 29)) else (J260)) else (J260)))))))
def fX9_runs_L105 (x12 : Int32) (J129 : AS → Option (AS × Unit)) : Nat → AS → Int32 → Option (AS × Unit)
  | 0, _, _ => none
  | n105 + 1, s56, x57 =>
    if (8 : Int32) ≤ x57 then (J129 s56) else (am_g (¬ ((((8 : Int32) * x12) + x57) < 0 ∨ 488 ≤ (((8 : Int32) * x12) + x57).toNatClampNeg)) (am_let (am_si s56 232 ((((8 : Int32) * x12) + x57).toNatClampNeg) (-1 : Int32)) (fun (s59 : AS) => am_let (x57 + (1 : Int32)) (fun (x60 : Int32) => fX9_runs_L105 x12 J129 n105 s59 x60))))
def fX9_runs_L64 : Nat → AS → Int32 → Int32 → Option (AS × Unit)
  | 0, _, _, _ => none
  | n64 + 1, s10, x11, x12 =>
    if (60 : Int32) < x12 then (some (s10, ())) else (am_let (fun (x13 : Int32) => am_g (¬ (x12 < 0 ∨ 61 ≤ x12.toNatClampNeg)) (am_let (am_si s10 229 (x12.toNatClampNeg) x13) (fun (s15 : AS) => am_g (¬ (x12 < 0 ∨ 61 ≤ x12.toNatClampNeg)) (am_let (am_si s15 230 (x12.toNatClampNeg) (0 : Int32)) (fun (s17 : AS) => am_g (¬ (x12 < 0 ∨ 61 ≤ x12.toNatClampNeg)) (am_let (am_si s17 231 (x12.toNatClampNeg) (-1 : Int32)) (fun (s19 : AS) => am_let (fun (s20 : AS) => am_let (fun (s21 : AS) (x22 : Int32) => am_let (x12 + (1 : Int32)) (fun (x23 : Int32) => fX9_runs_L64 n64 s21 x22 x23)) (fun J326 => if (s20.1 215 45) = (-1 : Int32) then (am_let (fun (s24 : AS) => am_c (fX9_leave s24 x12 x11) (fun (s26 : AS) (v25 : Unit) => am_g (¬ (x12 < 0 ∨ 61 ≤ x12.toNatClampNeg)) (am_let (am_si s26 230 (x12.toNatClampNeg) (s26.1 215 42)) (fun (s28 : AS) => am_let (fun (s29 : AS) => am_let (fun (s30 : AS) => am_r (fX9_turns s30 x12) (fun (v31 : Int32) => am_g (¬ (x12 < 0 ∨ 61 ≤ x12.toNatClampNeg)) (am_let (am_si s30 231 (x12.toNatClampNeg) v31) (fun (s33 : AS) => am_g (¬ (x12 < 0 ∨ 61 ≤ x12.toNatClampNeg)) (am_let (fun (s35 : AS) => am_g (¬ (x12 < 0 ∨ 61 ≤ x12.toNatClampNeg)) (am_let (s35.1 231 x12.toNatClampNeg) (fun (x37 : Int32) => J326 s35 x37))) (fun J319 => if (s33.1 231 x12.toNatClampNeg) = (-1 : Int32) then (am_let (am_si s33 215 45 x12) (fun (s38 : AS) => am_let (fun (x39 : Int32) => am_let (am_si s38 215 46 x39) (fun (s40 : AS) => J319 s40)) (fun J316 => if (s38.1 215 42) = 0 then (J316 (0 : Int32)) else (J316 (1 : Int32))))) else (J319 s33))))))) (fun J277 => fX9_runs_L204 x11 x12 J277 am_fu s29 (0 : Int32))) (fun J202 => if x12 = (s28.1 215 31) then (am_let (am_si s28 215 24 ((s28.1 215 24) ||| ((1 : Int32) <<< ((s28.1 215 32) &&& 31)))) (fun (s51 : AS) => am_c (fX9_laysWays s51) (fun (s53 : AS) (v52 : Unit) => J202 s53))) else (J202 s28)))))) (fun J159 => if (lg_cmp (((s20.2 215 33) >>> (x12.toInt64 &&& 63)) &&& (1 : Int64)) (0 : Int64)) = 0 then (am_c (fX9_falls s20 x12 x11) (fun (s55 : AS) (v54 : Unit) => J159 s55)) else (J159 s20))) else (J326 s20 x11))) (fun J129 => fX9_runs_L105 x12 J129 am_fu s19 (0 : Int32))))))))) (fun J88 => if (s10.1 215 45) = (-1 : Int32) then (J88 x11) else (J88 (-1 : Int32))))
def fX9_runs_L31 (J57 : AS → Option (AS × Unit)) : Nat → AS → Int32 → Option (AS × Unit)
  | 0, _, _ => none
  | n31 + 1, s61, x62 =>
    if (8 : Int32) ≤ x62 then (J57 s61) else (am_g (¬ (x62 < 0 ∨ 8 ≤ x62.toNatClampNeg)) (am_let (am_si s61 233 (x62.toNatClampNeg) (-1 : Int32)) (fun (s64 : AS) => am_g (¬ (x62 < 0 ∨ 8 ≤ x62.toNatClampNeg)) (am_let (am_si s64 234 (x62.toNatClampNeg) (-1 : Int32)) (fun (s66 : AS) => am_let (x62 + (1 : Int32)) (fun (x67 : Int32) => fX9_runs_L31 J57 n31 s66 x67))))))
def fX9_runs (s0 : AS) : Option (AS × Unit) :=
  am_c (fX9_laysWays s0) (fun (s2 : AS) (v1 : Unit) => am_let (am_si s2 215 42 (0 : Int32)) (fun (s3 : AS) => am_let (am_si s3 215 43 (0 : Int32)) (fun (s4 : AS) => am_let (am_si s4 215 44 (0 : Int32)) (fun (s5 : AS) => am_let (am_si s5 215 45 (-1 : Int32)) (fun (s6 : AS) => am_let (am_si s6 215 46 (-1 : Int32)) (fun (s7 : AS) => am_let (fun (s8 : AS) => am_let (s8.1 215 25) (fun (x9 : Int32) => fX9_runs_L64 am_fu s8 x9 (0 : Int32))) (fun J57 => fX9_runs_L31 J57 am_fu s7 (0 : Int32))))))))
def kX9_runs : List (Nat × Instr × Nat) := [(0, .aload_n 0, 1), (1, .invokevirtual 306, 3), (4, .aload_n 0, 1), (5, .iconst 0, 1), (6, .putfield 290, 3), (9, .aload_n 0, 1), (10, .iconst 0, 1), (11, .putfield 284, 3), (14, .aload_n 0, 1), (15, .iconst 0, 1), (16, .putfield 296, 3), (19, .aload_n 0, 1), (20, .iconst (-1), 1), (21, .putfield 309, 3), (24, .aload_n 0, 1), (25, .iconst (-1), 1), (26, .putfield 312, 3), (29, .iconst 0, 1), (30, .istore_n 1, 1), (31, .iload_n 1, 1), (32, .bipush 8, 2), (34, .if_icmp .ge 23, 3), (37, .aload_n 0, 1), (38, .getfield 68, 3), (41, .iload_n 1, 1), (42, .iconst (-1), 1), (43, .iastore, 1), (44, .aload_n 0, 1), (45, .getfield 71, 3), (48, .iload_n 1, 1), (49, .iconst (-1), 1), (50, .iastore, 1), (51, .iinc 1 1, 3), (54, .goto (-23), 3), (57, .aload_n 0, 1), (58, .getfield 262, 3), (61, .istore_n 1, 1), (62, .iconst 0, 1), (63, .istore_n 2, 1), (64, .iload_n 2, 1), (65, .bipush 60, 2), (67, .if_icmp .gt 265, 3), (70, .aload_n 0, 1), (71, .getfield 56, 3), (74, .iload_n 2, 1), (75, .aload_n 0, 1), (76, .getfield 309, 3), (79, .iconst (-1), 1), (80, .if_icmp .ne 7, 3), (83, .iload_n 1, 1), (84, .goto 4, 3), (87, .iconst (-1), 1), (88, .iastore, 1), (89, .aload_n 0, 1), (90, .getfield 59, 3), (93, .iload_n 2, 1), (94, .iconst 0, 1), (95, .iastore, 1), (96, .aload_n 0, 1), (97, .getfield 62, 3), (100, .iload_n 2, 1), (101, .iconst (-1), 1), (102, .iastore, 1), (103, .iconst 0, 1), (104, .istore_n 3, 1), (105, .iload_n 3, 1), (106, .bipush 8, 2), (108, .if_icmp .ge 21, 3), (111, .aload_n 0, 1), (112, .getfield 65, 3), (115, .bipush 8, 2), (117, .iload_n 2, 1), (118, .imul, 1), (119, .iload_n 3, 1), (120, .iadd, 1), (121, .iconst (-1), 1), (122, .iastore, 1), (123, .iinc 3 1, 3), (126, .goto (-21), 3), (129, .aload_n 0, 1), (130, .getfield 309, 3), (133, .iconst (-1), 1), (134, .if_icmp .eq 6, 3), (137, .goto 189, 3), (140, .aload_n 0, 1), (141, .getfield 277, 3), (144, .iload_n 2, 1), (145, .lshr, 1), (146, .lconst 1, 1), (147, .land, 1), (148, .lconst 0, 1), (149, .lcmp, 1), (150, .ifCond .ne 9, 3), (153, .aload_n 0, 1), (154, .iload_n 2, 1), (155, .iload_n 1, 1), (156, .invokevirtual 315, 3), (159, .aload_n 0, 1), (160, .iload_n 2, 1), (161, .iload_n 1, 1), (162, .invokevirtual 318, 3), (165, .aload_n 0, 1), (166, .getfield 59, 3), (169, .iload_n 2, 1), (170, .aload_n 0, 1), (171, .getfield 290, 3), (174, .iastore, 1), (175, .iload_n 2, 1), (176, .aload_n 0, 1), (177, .getfield 274, 3), (180, .if_icmp .ne 22, 3), (183, .aload_n 0, 1), (184, .dup, 1), (185, .getfield 259, 3), (188, .iconst 1, 1), (189, .aload_n 0, 1), (190, .getfield 321, 3), (193, .ishl, 1), (194, .ior, 1), (195, .putfield 259, 3), (198, .aload_n 0, 1), (199, .invokevirtual 306, 3), (202, .iconst 0, 1), (203, .istore_n 3, 1), (204, .iload_n 3, 1), (205, .aload_n 0, 1), (206, .invokevirtual 248, 3), (209, .if_icmp .ge 68, 3), (212, .aload_n 0, 1), (213, .getfield 65, 3), (216, .bipush 8, 2), (218, .iload_n 2, 1), (219, .imul, 1), (220, .iload_n 3, 1), (221, .iadd, 1), (222, .aload_n 0, 1), (223, .getfield 290, 3), (226, .iload_n 3, 1), (227, .invokestatic 280, 3), (230, .ifCond .ne 7, 3), (233, .iconst (-1), 1), (234, .goto 36, 3), (237, .iload_n 2, 1), (238, .aload_n 0, 1), (239, .getfield 268, 3), (242, .if_icmp .ne 18, 3), (245, .iload_n 3, 1), (246, .aload_n 0, 1), (247, .getfield 324, 3), (250, .if_icmp .ne 10, 3), (253, .aload_n 0, 1), (254, .getfield 327, 3), (257, .goto 13, 3), (260, .aload_n 0, 1), (261, .iload_n 1, 1), (262, .aload_n 0, 1), (263, .iload_n 3, 1), (264, .invokevirtual 299, 3), (267, .invokevirtual 330, 3), (270, .iastore, 1), (271, .iinc 3 1, 3), (274, .goto (-70), 3), (277, .aload_n 0, 1), (278, .getfield 62, 3), (281, .iload_n 2, 1), (282, .aload_n 0, 1), (283, .iload_n 2, 1), (284, .invokevirtual 333, 3), (287, .iastore, 1), (288, .aload_n 0, 1), (289, .getfield 62, 3), (292, .iload_n 2, 1), (293, .iaload, 1), (294, .iconst (-1), 1), (295, .if_icmp .ne 24, 3), (298, .aload_n 0, 1), (299, .iload_n 2, 1), (300, .putfield 309, 3), (303, .aload_n 0, 1), (304, .aload_n 0, 1), (305, .getfield 290, 3), (308, .ifCond .ne 7, 3), (311, .iconst 0, 1), (312, .goto 4, 3), (315, .iconst 1, 1), (316, .putfield 312, 3), (319, .aload_n 0, 1), (320, .getfield 62, 3), (323, .iload_n 2, 1), (324, .iaload, 1), (325, .istore_n 1, 1), (326, .iinc 2 1, 3), (329, .goto (-265), 3), (332, .return_, 1)]
theorem qX9_runs : ∀ q ∈ kX9_runs, decode mX9_runs.2.2.1 q.1 = .ok (q.2.1, q.2.2) ∧ am_iok mX9_runs.2.2.2.1 q.1 q.2.1 q.2.2 = true := by decide +kernel
set_option maxRecDepth 100000 in
theorem wX9_runs : Cond.code mX9_runs.2.1 mX9_runs.2.2.1 mX9_runs.2.2.2.1 mX9_runs.2.2.2.2.1 ∈ am_T := List.mem_filter.mpr ⟨List.mem_of_getElem? (i := 1671) rfl, rfl⟩
set_option maxHeartbeats 4000000 in
set_option maxRecDepth 100000 in
theorem tX9_runs (l : Launch) (d : Nat) {s0 : AS} {sE : AS} {rE : Unit} (hf : fX9_runs s0 = some (sE, rE)) : am_Ct l (d + 4) mX9_runs [.inr (.inr ((10, 0, 0), 215))] s0 sE none := by
  refine am_sim l (d + 3) (code := kX9_runs) (by decide +kernel) wX9_runs qX9_runs (Nat.le_of_ble_eq_true rfl) ?_
  intro X hX
  show X 0 [(0, .inr (.inr ((10, 0, 0), 215)))] [] s0
  unfold fX9_runs at hf
  obtain ⟨s2, v1, hcv1, hf⟩ := am_c_of hf
  refine am_blk hX 0 5 (And.intro rfl (And.intro rfl (Exists.intro s2 (Exists.intro none (And.intro (tX9_laysWays l (d + 1) hcv1) (And.intro rfl (am_nl (Z := fun s3 => X 9 [(0, .inr (.inr ((10, 0, 0), 215)))] [] s3) hf (fun s3 hf => ?_))))))))
  refine am_blk hX 5 3 (And.intro rfl (am_nl (Z := fun s4 => X 14 [(0, .inr (.inr ((10, 0, 0), 215)))] [] s4) hf (fun s4 hf => ?_)))
  refine am_blk hX 8 3 (And.intro rfl (am_nl (Z := fun s5 => X 19 [(0, .inr (.inr ((10, 0, 0), 215)))] [] s5) hf (fun s5 hf => ?_)))
  refine am_blk hX 11 3 (And.intro rfl (am_nl (Z := fun s6 => X 24 [(0, .inr (.inr ((10, 0, 0), 215)))] [] s6) hf (fun s6 hf => ?_)))
  refine am_blk hX 14 3 (And.intro rfl (am_nl (Z := fun s7 => X 29 [(0, .inr (.inr ((10, 0, 0), 215)))] [] s7) hf (fun s7 hf => ?_)))
  refine am_jn hf (fun J57 => ∀ (s8 : AS), J57 s8 = some (sE, rE) → X 57 [(0, .inr (.inr ((10, 0, 0), 215)))] [] s8) ?_ ?_
  · intro s8 hf
    refine am_blk hX 34 3 (And.intro rfl (am_nl (Z := fun x9 => X 62 [(1, .inl x9), (0, .inr (.inr ((10, 0, 0), 215)))] [] s8) hf (fun x9 hf => ?_)))
    have hL64 : ∀ (n64 : Nat) (s10 : AS) (x11 : Int32) (x12 : Int32), fX9_runs_L64 n64 s10 x11 x12 = some (sE, rE) → X 64 [(0, .inr (.inr ((10, 0, 0), 215))), (1, .inl x11), (2, .inl x12)] [] s10 := by
      intro n64
      induction n64 with
      | zero => intro s10 x11 x12 hf; exact am_no (show none = some _ from hf)
      | succ n64 ih64 =>
        intro s10 x11 x12 hf
        refine am_blk hX 39 3 (And.intro (fun hb => ?_) (fun hb => ?_))
        · have hf := am_it hf hb
          show X 332 [(0, .inr (.inr ((10, 0, 0), 215))), (1, .inl x11), (2, .inl x12)] [] s10
          refine am_blk hX 193 1 (And.intro rfl (am_rv hf))
        · have hf := am_if hf hb
          show X 70 [(0, .inr (.inr ((10, 0, 0), 215))), (1, .inl x11), (2, .inl x12)] [] s10
          refine am_jn hf (fun J88 => ∀ (x13 : Int32), J88 x13 = some (sE, rE) → X 88 [(0, .inr (.inr ((10, 0, 0), 215))), (1, .inl x11), (2, .inl x12)] [.inl x13, .inl x12, .inr (.inr ((21, 61, 0), 229))] s10) ?_ ?_
          · intro x13 hf
            obtain ⟨g14, hf⟩ := am_g_of hf
            refine am_blk hX 52 1 (And.intro rfl (And.intro g14 (am_nl (Z := fun s15 => X 89 [(0, .inr (.inr ((10, 0, 0), 215))), (1, .inl x11), (2, .inl x12)] [] s15) hf (fun s15 hf => ?_))))
            obtain ⟨g16, hf⟩ := am_g_of hf
            refine am_blk hX 53 5 (And.intro rfl (And.intro rfl (And.intro g16 (am_nl (Z := fun s17 => X 96 [(0, .inr (.inr ((10, 0, 0), 215))), (1, .inl x11), (2, .inl x12)] [] s17) hf (fun s17 hf => ?_)))))
            obtain ⟨g18, hf⟩ := am_g_of hf
            refine am_blk hX 58 5 (And.intro rfl (And.intro rfl (And.intro g18 (am_nl (Z := fun s19 => X 103 [(0, .inr (.inr ((10, 0, 0), 215))), (1, .inl x11), (2, .inl x12)] [] s19) hf (fun s19 hf => ?_)))))
            refine am_jn hf (fun J129 => ∀ (s20 : AS), J129 s20 = some (sE, rE) → X 129 [(0, .inr (.inr ((10, 0, 0), 215))), (1, .inl x11), (2, .inl x12)] [] s20) ?_ ?_
            · intro s20 hf
              refine am_jn hf (fun J326 => ∀ (s21 : AS) (x22 : Int32), J326 s21 x22 = some (sE, rE) → X 326 [(0, .inr (.inr ((10, 0, 0), 215))), (1, .inl x22), (2, .inl x12)] [] s21) ?_ ?_
              · intro s21 x22 hf
                refine am_blk hX 191 1 (am_nl (Z := fun x23 => X 329 [(2, .inl x23), (0, .inr (.inr ((10, 0, 0), 215))), (1, .inl x22)] [] s21) hf (fun x23 hf => ?_))
                refine am_blk hX 192 1 (?_)
                show X 64 [(2, .inl x23), (0, .inr (.inr ((10, 0, 0), 215))), (1, .inl x22)] [] s21
                exact am_wk hX [1, 2, 0] (ih64 s21 x22 x23 hf)
              · intro J326 hJ326 hf
                refine am_blk hX 79 4 (And.intro rfl (And.intro (fun hb => ?_) (fun hb => ?_)))
                · have hf := am_it hf hb
                  show X 140 [(0, .inr (.inr ((10, 0, 0), 215))), (1, .inl x11), (2, .inl x12)] [] s20
                  refine am_jn hf (fun J159 => ∀ (s24 : AS), J159 s24 = some (sE, rE) → X 159 [(0, .inr (.inr ((10, 0, 0), 215))), (1, .inl x11), (2, .inl x12)] [] s24) ?_ ?_
                  · intro s24 hf
                    obtain ⟨s26, v25, hcv25, hf⟩ := am_c_of hf
                    obtain ⟨g27, hf⟩ := am_g_of hf
                    refine am_blk hX 97 10 (And.intro rfl (And.intro rfl (Exists.intro s26 (Exists.intro none (And.intro (tX9_leave l (d + 1) hcv25) (And.intro rfl (And.intro rfl (And.intro rfl (And.intro g27 (am_nl (Z := fun s28 => X 175 [(0, .inr (.inr ((10, 0, 0), 215))), (1, .inl x11), (2, .inl x12)] [] s28) hf (fun s28 hf => ?_)))))))))))
                    refine am_jn hf (fun J202 => ∀ (s29 : AS), J202 s29 = some (sE, rE) → X 202 [(0, .inr (.inr ((10, 0, 0), 215))), (1, .inl x11), (2, .inl x12)] [] s29) ?_ ?_
                    · intro s29 hf
                      refine am_jn hf (fun J277 => ∀ (s30 : AS), J277 s30 = some (sE, rE) → X 277 [(0, .inr (.inr ((10, 0, 0), 215))), (2, .inl x12)] [] s30) ?_ ?_
                      · intro s30 hf
                        obtain ⟨v31, hcv31, hf⟩ := am_r_of hf
                        obtain ⟨g32, hf⟩ := am_g_of hf
                        refine am_blk hX 162 7 (And.intro rfl (And.intro rfl (And.intro rfl (Exists.intro s30 (Exists.intro (some (.inl v31)) (And.intro (tX9_turns l (d + 0) hcv31) (And.intro rfl (And.intro g32 (am_nl (Z := fun s33 => X 288 [(0, .inr (.inr ((10, 0, 0), 215))), (2, .inl x12)] [] s33) hf (fun s33 hf => ?_))))))))))
                        obtain ⟨g34, hf⟩ := am_g_of hf
                        refine am_jn hf (fun J319 => ∀ (s35 : AS), J319 s35 = some (sE, rE) → X 319 [(0, .inr (.inr ((10, 0, 0), 215))), (2, .inl x12)] [] s35) ?_ ?_
                        · intro s35 hf
                          obtain ⟨g36, hf⟩ := am_g_of hf
                          refine am_blk hX 186 5 (And.intro rfl (And.intro rfl (And.intro g36 (am_nl (Z := fun x37 => X 326 [(1, .inl x37), (0, .inr (.inr ((10, 0, 0), 215))), (2, .inl x12)] [] s35) hf (fun x37 hf => ?_)))))
                          exact am_wk hX [1, 0, 2] (hJ326 s35 x37 hf)
                        · intro J319 hJ319 hf
                          refine am_blk hX 169 6 (And.intro rfl (And.intro rfl (And.intro g34 (And.intro (fun hb => ?_) (fun hb => ?_)))))
                          · have hf := am_if hf hb
                            show X 319 [(0, .inr (.inr ((10, 0, 0), 215))), (2, .inl x12)] [] s33
                            exact am_wk hX [0, 1] (hJ319 s33 hf)
                          · have hf := am_it hf hb
                            show X 298 [(0, .inr (.inr ((10, 0, 0), 215))), (2, .inl x12)] [] s33
                            refine am_blk hX 175 3 (And.intro rfl (am_nl (Z := fun s38 => X 303 [(0, .inr (.inr ((10, 0, 0), 215))), (2, .inl x12)] [] s38) hf (fun s38 hf => ?_)))
                            refine am_jn hf (fun J316 => ∀ (x39 : Int32), J316 x39 = some (sE, rE) → X 316 [(0, .inr (.inr ((10, 0, 0), 215))), (2, .inl x12)] [.inl x39, .inr (.inr ((10, 0, 0), 215))] s38) ?_ ?_
                            · intro x39 hf
                              refine am_blk hX 185 1 (And.intro rfl (am_nl (Z := fun s40 => X 319 [(0, .inr (.inr ((10, 0, 0), 215))), (2, .inl x12)] [] s40) hf (fun s40 hf => ?_)))
                              exact am_wk hX [0, 1] (hJ319 s40 hf)
                            · intro J316 hJ316 hf
                              refine am_blk hX 178 4 (And.intro rfl (And.intro (fun hb => ?_) (fun hb => ?_)))
                              · have hf := am_if hf hb
                                show X 315 [(0, .inr (.inr ((10, 0, 0), 215))), (2, .inl x12)] [.inr (.inr ((10, 0, 0), 215))] s38
                                refine am_blk hX 184 1 (?_)
                                show X 316 [(0, .inr (.inr ((10, 0, 0), 215))), (2, .inl x12)] [.inl (1 : Int32), .inr (.inr ((10, 0, 0), 215))] s38
                                exact am_wk hX [0, 1] (hJ316 (1 : Int32) hf)
                              · have hf := am_it hf hb
                                show X 311 [(0, .inr (.inr ((10, 0, 0), 215))), (2, .inl x12)] [.inr (.inr ((10, 0, 0), 215))] s38
                                refine am_blk hX 182 2 (?_)
                                show X 316 [(0, .inr (.inr ((10, 0, 0), 215))), (2, .inl x12)] [.inl (0 : Int32), .inr (.inr ((10, 0, 0), 215))] s38
                                exact am_wk hX [0, 1] (hJ316 (0 : Int32) hf)
                      · intro J277 hJ277 hf
                        have hL204 : ∀ (n204 : Nat) (s41 : AS) (x42 : Int32), fX9_runs_L204 x11 x12 J277 n204 s41 x42 = some (sE, rE) → X 204 [(0, .inr (.inr ((10, 0, 0), 215))), (1, .inl x11), (2, .inl x12), (3, .inl x42)] [] s41 := by
                          intro n204
                          induction n204 with
                          | zero => intro s41 x42 hf; exact am_no (show none = some _ from hf)
                          | succ n204 ih204 =>
                            intro s41 x42 hf
                            obtain ⟨v43, hcv43, hf⟩ := am_r_of hf
                            refine am_blk hX 124 4 (And.intro rfl (And.intro rfl (Exists.intro s41 (Exists.intro (some (.inl v43)) (And.intro (tX9_people l (d + 2) hcv43) (And.intro (fun hb => ?_) (fun hb => ?_)))))))
                            · have hf := am_it hf hb
                              show X 277 [(0, .inr (.inr ((10, 0, 0), 215))), (1, .inl x11), (2, .inl x12), (3, .inl x42)] [] s41
                              exact am_wk hX [0, 2] (hJ277 s41 hf)
                            · have hf := am_if hf hb
                              show X 212 [(0, .inr (.inr ((10, 0, 0), 215))), (1, .inl x11), (2, .inl x12), (3, .inl x42)] [] s41
                              obtain ⟨v44, hcv44, hf⟩ := am_r_of hf
                              refine am_jn hf (fun J270 => ∀ (x45 : Int32), J270 x45 = some (sE, rE) → X 270 [(0, .inr (.inr ((10, 0, 0), 215))), (1, .inl x11), (2, .inl x12), (3, .inl x42)] [.inl x45, .inl (((8 : Int32) * x12) + x42), .inr (.inr ((21, 488, 0), 232))] s41) ?_ ?_
                              · intro x45 hf
                                obtain ⟨g46, hf⟩ := am_g_of hf
                                refine am_blk hX 159 1 (And.intro rfl (And.intro g46 (am_nl (Z := fun s47 => X 271 [(0, .inr (.inr ((10, 0, 0), 215))), (1, .inl x11), (2, .inl x12), (3, .inl x42)] [] s47) hf (fun s47 hf => ?_))))
                                refine am_blk hX 160 1 (am_nl (Z := fun x48 => X 274 [(3, .inl x48), (0, .inr (.inr ((10, 0, 0), 215))), (1, .inl x11), (2, .inl x12)] [] s47) hf (fun x48 hf => ?_))
                                refine am_blk hX 161 1 (?_)
                                show X 204 [(3, .inl x48), (0, .inr (.inr ((10, 0, 0), 215))), (1, .inl x11), (2, .inl x12)] [] s47
                                exact am_wk hX [1, 2, 3, 0] (ih204 s47 x48 hf)
                              · intro J270 hJ270 hf
                                refine am_blk hX 128 12 (And.intro rfl (And.intro rfl (And.intro rfl (Exists.intro s41 (Exists.intro (some (.inl v44)) (And.intro (tX9_isBit l (d + 2) hcv44) (And.intro (fun hb => ?_) (fun hb => ?_))))))))
                                · have hf := am_if hf hb
                                  show X 237 [(0, .inr (.inr ((10, 0, 0), 215))), (1, .inl x11), (2, .inl x12), (3, .inl x42)] [.inl (((8 : Int32) * x12) + x42), .inr (.inr ((21, 488, 0), 232))] s41
                                  refine am_jn hf (fun J260 => J260 = some (sE, rE) → X 260 [(0, .inr (.inr ((10, 0, 0), 215))), (1, .inl x11), (2, .inl x12), (3, .inl x42)] [.inl (((8 : Int32) * x12) + x42), .inr (.inr ((21, 488, 0), 232))] s41) ?_ ?_
                                  · intro hf
                                    obtain ⟨v49, hcv49, hf⟩ := am_r_of hf
                                    obtain ⟨v50, hcv50, hf⟩ := am_r_of hf
                                    refine am_blk hX 153 6 (And.intro rfl (And.intro rfl (Exists.intro s41 (Exists.intro (some (.inl v49)) (And.intro (tX9_wantsOf l (d + 2) hcv49) (And.intro rfl (And.intro rfl (Exists.intro s41 (Exists.intro (some (.inl v50)) (And.intro (tX9_nextOf l (d + 1) hcv50) (?_)))))))))))
                                    show X 270 [(0, .inr (.inr ((10, 0, 0), 215))), (1, .inl x11), (2, .inl x12), (3, .inl x42)] [.inl v50, .inl (((8 : Int32) * x12) + x42), .inr (.inr ((21, 488, 0), 232))] s41
                                    exact am_wk hX [0, 1, 2, 3] (hJ270 v50 hf)
                                  · intro J260 hJ260 hf
                                    refine am_blk hX 142 4 (And.intro rfl (And.intro (fun hb => ?_) (fun hb => ?_)))
                                    · have hf := am_if hf hb
                                      show X 260 [(0, .inr (.inr ((10, 0, 0), 215))), (1, .inl x11), (2, .inl x12), (3, .inl x42)] [.inl (((8 : Int32) * x12) + x42), .inr (.inr ((21, 488, 0), 232))] s41
                                      exact am_wk hX [0, 1, 2, 3] (hJ260 hf)
                                    · have hf := am_it hf hb
                                      show X 245 [(0, .inr (.inr ((10, 0, 0), 215))), (1, .inl x11), (2, .inl x12), (3, .inl x42)] [.inl (((8 : Int32) * x12) + x42), .inr (.inr ((21, 488, 0), 232))] s41
                                      refine am_blk hX 146 4 (And.intro rfl (And.intro (fun hb => ?_) (fun hb => ?_)))
                                      · have hf := am_if hf hb
                                        show X 260 [(0, .inr (.inr ((10, 0, 0), 215))), (1, .inl x11), (2, .inl x12), (3, .inl x42)] [.inl (((8 : Int32) * x12) + x42), .inr (.inr ((21, 488, 0), 232))] s41
                                        exact am_wk hX [0, 1, 2, 3] (hJ260 hf)
                                      · have hf := am_it hf hb
                                        show X 253 [(0, .inr (.inr ((10, 0, 0), 215))), (1, .inl x11), (2, .inl x12), (3, .inl x42)] [.inl (((8 : Int32) * x12) + x42), .inr (.inr ((21, 488, 0), 232))] s41
                                        refine am_blk hX 150 3 (And.intro rfl (?_))
                                        show X 270 [(0, .inr (.inr ((10, 0, 0), 215))), (1, .inl x11), (2, .inl x12), (3, .inl x42)] [.inl (s41.1 215 29), .inl (((8 : Int32) * x12) + x42), .inr (.inr ((21, 488, 0), 232))] s41
                                        exact am_wk hX [0, 1, 2, 3] (hJ270 (s41.1 215 29) hf)
                                · have hf := am_it hf hb
                                  show X 233 [(0, .inr (.inr ((10, 0, 0), 215))), (1, .inl x11), (2, .inl x12), (3, .inl x42)] [.inl (((8 : Int32) * x12) + x42), .inr (.inr ((21, 488, 0), 232))] s41
                                  refine am_blk hX 140 2 (?_)
                                  show X 270 [(0, .inr (.inr ((10, 0, 0), 215))), (1, .inl x11), (2, .inl x12), (3, .inl x42)] [.inl (-1 : Int32), .inl (((8 : Int32) * x12) + x42), .inr (.inr ((21, 488, 0), 232))] s41
                                  exact am_wk hX [0, 1, 2, 3] (hJ270 (-1 : Int32) hf)
                        refine am_blk hX 122 2 (?_)
                        show X 204 [(3, .inl (0 : Int32)), (0, .inr (.inr ((10, 0, 0), 215))), (1, .inl x11), (2, .inl x12)] [] s29
                        exact am_wk hX [1, 2, 3, 0] (hL204 am_fu s29 (0 : Int32) hf)
                    · intro J202 hJ202 hf
                      refine am_blk hX 107 4 (And.intro rfl (And.intro (fun hb => ?_) (fun hb => ?_)))
                      · have hf := am_if hf hb
                        show X 202 [(0, .inr (.inr ((10, 0, 0), 215))), (1, .inl x11), (2, .inl x12)] [] s28
                        exact am_wk hX [0, 1, 2] (hJ202 s28 hf)
                      · have hf := am_it hf hb
                        show X 183 [(0, .inr (.inr ((10, 0, 0), 215))), (1, .inl x11), (2, .inl x12)] [] s28
                        refine am_blk hX 111 9 (And.intro rfl (And.intro rfl (And.intro rfl (am_nl (Z := fun s51 => X 198 [(0, .inr (.inr ((10, 0, 0), 215))), (1, .inl x11), (2, .inl x12)] [] s51) hf (fun s51 hf => ?_)))))
                        obtain ⟨s53, v52, hcv52, hf⟩ := am_c_of hf
                        refine am_blk hX 120 2 (And.intro rfl (And.intro rfl (Exists.intro s53 (Exists.intro none (And.intro (tX9_laysWays l (d + 1) hcv52) (?_))))))
                        show X 202 [(0, .inr (.inr ((10, 0, 0), 215))), (1, .inl x11), (2, .inl x12)] [] s53
                        exact am_wk hX [0, 1, 2] (hJ202 s53 hf)
                  · intro J159 hJ159 hf
                    refine am_blk hX 84 9 (And.intro rfl (And.intro (fun hb => ?_) (fun hb => ?_)))
                    · have hf := am_if hf hb
                      show X 159 [(0, .inr (.inr ((10, 0, 0), 215))), (1, .inl x11), (2, .inl x12)] [] s20
                      exact am_wk hX [0, 1, 2] (hJ159 s20 hf)
                    · have hf := am_it hf hb
                      show X 153 [(0, .inr (.inr ((10, 0, 0), 215))), (1, .inl x11), (2, .inl x12)] [] s20
                      obtain ⟨s55, v54, hcv54, hf⟩ := am_c_of hf
                      refine am_blk hX 93 4 (And.intro rfl (And.intro rfl (Exists.intro s55 (Exists.intro none (And.intro (tX9_falls l (d + 1) hcv54) (?_))))))
                      show X 159 [(0, .inr (.inr ((10, 0, 0), 215))), (1, .inl x11), (2, .inl x12)] [] s55
                      exact am_wk hX [0, 1, 2] (hJ159 s55 hf)
                · have hf := am_if hf hb
                  show X 137 [(0, .inr (.inr ((10, 0, 0), 215))), (1, .inl x11), (2, .inl x12)] [] s20
                  refine am_blk hX 83 1 (?_)
                  show X 326 [(0, .inr (.inr ((10, 0, 0), 215))), (1, .inl x11), (2, .inl x12)] [] s20
                  exact am_wk hX [0, 1, 2] (hJ326 s20 x11 hf)
            · intro J129 hJ129 hf
              have hL105 : ∀ (n105 : Nat) (s56 : AS) (x57 : Int32), fX9_runs_L105 x12 J129 n105 s56 x57 = some (sE, rE) → X 105 [(0, .inr (.inr ((10, 0, 0), 215))), (1, .inl x11), (2, .inl x12), (3, .inl x57)] [] s56 := by
                intro n105
                induction n105 with
                | zero => intro s56 x57 hf; exact am_no (show none = some _ from hf)
                | succ n105 ih105 =>
                  intro s56 x57 hf
                  refine am_blk hX 65 3 (And.intro (fun hb => ?_) (fun hb => ?_))
                  · have hf := am_it hf hb
                    show X 129 [(0, .inr (.inr ((10, 0, 0), 215))), (1, .inl x11), (2, .inl x12), (3, .inl x57)] [] s56
                    exact am_wk hX [0, 1, 2] (hJ129 s56 hf)
                  · have hf := am_if hf hb
                    show X 111 [(0, .inr (.inr ((10, 0, 0), 215))), (1, .inl x11), (2, .inl x12), (3, .inl x57)] [] s56
                    obtain ⟨g58, hf⟩ := am_g_of hf
                    refine am_blk hX 68 9 (And.intro rfl (And.intro rfl (And.intro g58 (am_nl (Z := fun s59 => X 123 [(0, .inr (.inr ((10, 0, 0), 215))), (1, .inl x11), (2, .inl x12), (3, .inl x57)] [] s59) hf (fun s59 hf => ?_)))))
                    refine am_blk hX 77 1 (am_nl (Z := fun x60 => X 126 [(3, .inl x60), (0, .inr (.inr ((10, 0, 0), 215))), (1, .inl x11), (2, .inl x12)] [] s59) hf (fun x60 hf => ?_))
                    refine am_blk hX 78 1 (?_)
                    show X 105 [(3, .inl x60), (0, .inr (.inr ((10, 0, 0), 215))), (1, .inl x11), (2, .inl x12)] [] s59
                    exact am_wk hX [1, 2, 3, 0] (ih105 s59 x60 hf)
              refine am_blk hX 63 2 (?_)
              show X 105 [(3, .inl (0 : Int32)), (0, .inr (.inr ((10, 0, 0), 215))), (1, .inl x11), (2, .inl x12)] [] s19
              exact am_wk hX [1, 2, 3, 0] (hL105 am_fu s19 (0 : Int32) hf)
          · intro J88 hJ88 hf
            refine am_blk hX 42 7 (And.intro rfl (And.intro rfl (And.intro (fun hb => ?_) (fun hb => ?_))))
            · have hf := am_if hf hb
              show X 87 [(0, .inr (.inr ((10, 0, 0), 215))), (1, .inl x11), (2, .inl x12)] [.inl x12, .inr (.inr ((21, 61, 0), 229))] s10
              refine am_blk hX 51 1 (?_)
              show X 88 [(0, .inr (.inr ((10, 0, 0), 215))), (1, .inl x11), (2, .inl x12)] [.inl (-1 : Int32), .inl x12, .inr (.inr ((21, 61, 0), 229))] s10
              exact am_wk hX [0, 1, 2] (hJ88 (-1 : Int32) hf)
            · have hf := am_it hf hb
              show X 83 [(0, .inr (.inr ((10, 0, 0), 215))), (1, .inl x11), (2, .inl x12)] [.inl x12, .inr (.inr ((21, 61, 0), 229))] s10
              refine am_blk hX 49 2 (?_)
              show X 88 [(0, .inr (.inr ((10, 0, 0), 215))), (1, .inl x11), (2, .inl x12)] [.inl x11, .inl x12, .inr (.inr ((21, 61, 0), 229))] s10
              exact am_wk hX [0, 1, 2] (hJ88 x11 hf)
    refine am_blk hX 37 2 (?_)
    show X 64 [(2, .inl (0 : Int32)), (1, .inl x9), (0, .inr (.inr ((10, 0, 0), 215)))] [] s8
    exact am_wk hX [2, 1, 0] (hL64 am_fu s8 x9 (0 : Int32) hf)
  · intro J57 hJ57 hf
    have hL31 : ∀ (n31 : Nat) (s61 : AS) (x62 : Int32), fX9_runs_L31 J57 n31 s61 x62 = some (sE, rE) → X 31 [(0, .inr (.inr ((10, 0, 0), 215))), (1, .inl x62)] [] s61 := by
      intro n31
      induction n31 with
      | zero => intro s61 x62 hf; exact am_no (show none = some _ from hf)
      | succ n31 ih31 =>
        intro s61 x62 hf
        refine am_blk hX 19 3 (And.intro (fun hb => ?_) (fun hb => ?_))
        · have hf := am_it hf hb
          show X 57 [(0, .inr (.inr ((10, 0, 0), 215))), (1, .inl x62)] [] s61
          exact am_wk hX [0] (hJ57 s61 hf)
        · have hf := am_if hf hb
          show X 37 [(0, .inr (.inr ((10, 0, 0), 215))), (1, .inl x62)] [] s61
          obtain ⟨g63, hf⟩ := am_g_of hf
          refine am_blk hX 22 5 (And.intro rfl (And.intro rfl (And.intro g63 (am_nl (Z := fun s64 => X 44 [(0, .inr (.inr ((10, 0, 0), 215))), (1, .inl x62)] [] s64) hf (fun s64 hf => ?_)))))
          obtain ⟨g65, hf⟩ := am_g_of hf
          refine am_blk hX 27 5 (And.intro rfl (And.intro rfl (And.intro g65 (am_nl (Z := fun s66 => X 51 [(0, .inr (.inr ((10, 0, 0), 215))), (1, .inl x62)] [] s66) hf (fun s66 hf => ?_)))))
          refine am_blk hX 32 1 (am_nl (Z := fun x67 => X 54 [(1, .inl x67), (0, .inr (.inr ((10, 0, 0), 215)))] [] s66) hf (fun x67 hf => ?_))
          refine am_blk hX 33 1 (?_)
          show X 31 [(1, .inl x67), (0, .inr (.inr ((10, 0, 0), 215)))] [] s66
          exact am_wk hX [1, 0] (ih31 s66 x67 hf)
    refine am_blk hX 17 2 (?_)
    show X 31 [(1, .inl (0 : Int32)), (0, .inr (.inr ((10, 0, 0), 215)))] [] s7
    exact am_wk hX [1, 0] (hL31 am_fu s7 (0 : Int32) hf)
def fX9_startsOf_L33 (a1 : Int32) (s9 : AS) (J97 : Int32 → Option (AS × Int32)) : Nat → Int32 → Int32 → Option (AS × Int32)
  | 0, _, _ => none
  | n33 + 1, x14, x15 =>
    am_g (¬ (a1 < 0 ∨ 4 ≤ a1.toNatClampNeg)) (if (s9.1 217 a1.toNatClampNeg) ≤ x15 then (J97 x14) else (am_g (¬ ((((60 : Int32) * a1) + x15) < 0 ∨ 240 ≤ (((60 : Int32) * a1) + x15).toNatClampNeg)) (am_g (¬ (((s9.2 218 ((((60 : Int32) * a1) + x15).toNatClampNeg)).toInt32) < 0 ∨ 8 ≤ ((s9.2 218 ((((60 : Int32) * a1) + x15).toNatClampNeg)).toInt32).toNatClampNeg)) (am_g (¬ (((((60 : Int32) * a1) + x15) + (1 : Int32)) < 0 ∨ 240 ≤ ((((60 : Int32) * a1) + x15) + (1 : Int32)).toNatClampNeg)) (am_let (fun (x20 : Int32) => am_let (x14 &&& x20) (fun (x21 : Int32) => am_let (x15 + (2 : Int32)) (fun (x22 : Int32) => fX9_startsOf_L33 a1 s9 J97 n33 x21 x22))) (fun J88 => if (lg_cmp ((s9.1 233 (((s9.2 218 ((((60 : Int32) * a1) + x15).toNatClampNeg)).toInt32).toNatClampNeg)).toInt64) (s9.2 218 (((((60 : Int32) * a1) + x15) + (1 : Int32)).toNatClampNeg))) = 0 then (J88 (1 : Int32)) else (J88 (0 : Int32))))))))
def fX9_startsOf_L8 (a1 : Int32) : Nat → AS → Int32 → Int32 → Option (AS × Int32)
  | 0, _, _, _ => none
  | n8 + 1, s3, x4, x5 =>
    am_g (¬ ((0 : Int32) < 0 ∨ 35 ≤ (0 : Int32).toNatClampNeg)) (if (s3.1 222 ((0 : Int32).toNatClampNeg)) ≤ x5 then (some (s3, x4)) else (am_let (am_si s3 215 25 x5) (fun (s7 : AS) => am_c (fX9_runs s7) (fun (s9 : AS) (v8 : Unit) => am_let (fun (x10 : Int32) => am_let (fun (x11 : Int32) => am_let (x4 ||| x11) (fun (x12 : Int32) => am_let (x5 + (1 : Int32)) (fun (x13 : Int32) => fX9_startsOf_L8 a1 n8 s9 x12 x13))) (fun J110 => if x10 = 0 then (J110 (0 : Int32)) else (J110 ((1 : Int32) <<< (x5 &&& 31))))) (fun J97 => fX9_startsOf_L33 a1 s9 J97 am_fu (1 : Int32) (0 : Int32))))))
def fX9_startsOf (s0 : AS) (a1 : Int32) : Option (AS × Int32) :=
  am_c (fX9_lays s0) (fun (s2 : AS) (v1 : Unit) => fX9_startsOf_L8 a1 am_fu s2 (0 : Int32) (0 : Int32))
def kX9_startsOf : List (Nat × Instr × Nat) := [(0, .aload_n 0, 1), (1, .invokevirtual 336, 3), (4, .iconst 0, 1), (5, .istore_n 2, 1), (6, .iconst 0, 1), (7, .istore_n 3, 1), (8, .iload_n 3, 1), (9, .aload_n 0, 1), (10, .getfield 34, 3), (13, .iconst 0, 1), (14, .iaload, 1), (15, .if_icmp .ge 103, 3), (18, .aload_n 0, 1), (19, .iload_n 3, 1), (20, .putfield 262, 3), (23, .aload_n 0, 1), (24, .invokevirtual 339, 3), (27, .iconst 1, 1), (28, .istore 4, 2), (30, .iconst 0, 1), (31, .istore 5, 2), (33, .iload 5, 2), (35, .aload_n 0, 1), (36, .getfield 13, 3), (39, .iload_n 1, 1), (40, .iaload, 1), (41, .if_icmp .ge 56, 3), (44, .iload 4, 2), (46, .aload_n 0, 1), (47, .getfield 68, 3), (50, .aload_n 0, 1), (51, .getfield 16, 3), (54, .bipush 60, 2), (56, .iload_n 1, 1), (57, .imul, 1), (58, .iload 5, 2), (60, .iadd, 1), (61, .laload, 1), (62, .l2i, 1), (63, .iaload, 1), (64, .i2l, 1), (65, .aload_n 0, 1), (66, .getfield 16, 3), (69, .bipush 60, 2), (71, .iload_n 1, 1), (72, .imul, 1), (73, .iload 5, 2), (75, .iadd, 1), (76, .iconst 1, 1), (77, .iadd, 1), (78, .laload, 1), (79, .lcmp, 1), (80, .ifCond .ne 7, 3), (83, .iconst 1, 1), (84, .goto 4, 3), (87, .iconst 0, 1), (88, .iand, 1), (89, .istore 4, 2), (91, .iinc 5 2, 3), (94, .goto (-61), 3), (97, .iload_n 2, 1), (98, .iload 4, 2), (100, .ifCond .eq 9, 3), (103, .iconst 1, 1), (104, .iload_n 3, 1), (105, .ishl, 1), (106, .goto 4, 3), (109, .iconst 0, 1), (110, .ior, 1), (111, .istore_n 2, 1), (112, .iinc 3 1, 3), (115, .goto (-107), 3), (118, .iload_n 2, 1), (119, .ireturn, 1)]
theorem qX9_startsOf : ∀ q ∈ kX9_startsOf, decode mX9_startsOf.2.2.1 q.1 = .ok (q.2.1, q.2.2) ∧ am_iok mX9_startsOf.2.2.2.1 q.1 q.2.1 q.2.2 = true := by decide +kernel
set_option maxRecDepth 100000 in
theorem wX9_startsOf : Cond.code mX9_startsOf.2.1 mX9_startsOf.2.2.1 mX9_startsOf.2.2.2.1 mX9_startsOf.2.2.2.2.1 ∈ am_T := List.mem_filter.mpr ⟨List.mem_of_getElem? (i := 1892) rfl, rfl⟩
set_option maxHeartbeats 4000000 in
set_option maxRecDepth 100000 in
theorem tX9_startsOf (l : Launch) (d : Nat) {s0 : AS} {a1 : Int32} {sE : AS} {rE : Int32} (hf : fX9_startsOf s0 a1 = some (sE, rE)) : am_Ct l (d + 5) mX9_startsOf [.inr (.inr ((10, 0, 0), 215)), .inl a1] s0 sE (some (.inl rE)) := by
  refine am_sim l (d + 4) (code := kX9_startsOf) (by decide +kernel) wX9_startsOf qX9_startsOf (Nat.le_of_ble_eq_true rfl) ?_
  intro X hX
  show X 0 [(0, .inr (.inr ((10, 0, 0), 215))), (1, .inl a1)] [] s0
  unfold fX9_startsOf at hf
  obtain ⟨s2, v1, hcv1, hf⟩ := am_c_of hf
  have hL8 : ∀ (n8 : Nat) (s3 : AS) (x4 : Int32) (x5 : Int32), fX9_startsOf_L8 a1 n8 s3 x4 x5 = some (sE, rE) → X 8 [(0, .inr (.inr ((10, 0, 0), 215))), (1, .inl a1), (2, .inl x4), (3, .inl x5)] [] s3 := by
    intro n8
    induction n8 with
    | zero => intro s3 x4 x5 hf; exact am_no (show none = some _ from hf)
    | succ n8 ih8 =>
      intro s3 x4 x5 hf
      obtain ⟨g6, hf⟩ := am_g_of hf
      refine am_blk hX 6 6 (And.intro rfl (And.intro rfl (And.intro g6 (And.intro (fun hb => ?_) (fun hb => ?_)))))
      · have hf := am_it hf hb
        show X 118 [(0, .inr (.inr ((10, 0, 0), 215))), (1, .inl a1), (2, .inl x4), (3, .inl x5)] [] s3
        refine am_blk hX 72 2 (am_ri hf)
      · have hf := am_if hf hb
        show X 18 [(0, .inr (.inr ((10, 0, 0), 215))), (1, .inl a1), (2, .inl x4), (3, .inl x5)] [] s3
        refine am_blk hX 12 3 (And.intro rfl (am_nl (Z := fun s7 => X 23 [(0, .inr (.inr ((10, 0, 0), 215))), (1, .inl a1), (2, .inl x4), (3, .inl x5)] [] s7) hf (fun s7 hf => ?_)))
        obtain ⟨s9, v8, hcv8, hf⟩ := am_c_of hf
        refine am_jn hf (fun J97 => ∀ (x10 : Int32), J97 x10 = some (sE, rE) → X 97 [(0, .inr (.inr ((10, 0, 0), 215))), (1, .inl a1), (2, .inl x4), (3, .inl x5), (4, .inl x10)] [] s9) ?_ ?_
        · intro x10 hf
          refine am_jn hf (fun J110 => ∀ (x11 : Int32), J110 x11 = some (sE, rE) → X 110 [(0, .inr (.inr ((10, 0, 0), 215))), (1, .inl a1), (3, .inl x5)] [.inl x11, .inl x4] s9) ?_ ?_
          · intro x11 hf
            refine am_blk hX 68 2 (am_nl (Z := fun x12 => X 112 [(2, .inl x12), (0, .inr (.inr ((10, 0, 0), 215))), (1, .inl a1), (3, .inl x5)] [] s9) hf (fun x12 hf => ?_))
            refine am_blk hX 70 1 (am_nl (Z := fun x13 => X 115 [(3, .inl x13), (2, .inl x12), (0, .inr (.inr ((10, 0, 0), 215))), (1, .inl a1)] [] s9) hf (fun x13 hf => ?_))
            refine am_blk hX 71 1 (?_)
            show X 8 [(3, .inl x13), (2, .inl x12), (0, .inr (.inr ((10, 0, 0), 215))), (1, .inl a1)] [] s9
            exact am_wk hX [2, 3, 1, 0] (ih8 s9 x12 x13 hf)
          · intro J110 hJ110 hf
            refine am_blk hX 60 3 (And.intro (fun hb => ?_) (fun hb => ?_))
            · have hf := am_it hf hb
              show X 109 [(0, .inr (.inr ((10, 0, 0), 215))), (1, .inl a1), (2, .inl x4), (3, .inl x5), (4, .inl x10)] [.inl x4] s9
              refine am_blk hX 67 1 (?_)
              show X 110 [(0, .inr (.inr ((10, 0, 0), 215))), (1, .inl a1), (2, .inl x4), (3, .inl x5), (4, .inl x10)] [.inl (0 : Int32), .inl x4] s9
              exact am_wk hX [0, 1, 3] (hJ110 (0 : Int32) hf)
            · have hf := am_if hf hb
              show X 103 [(0, .inr (.inr ((10, 0, 0), 215))), (1, .inl a1), (2, .inl x4), (3, .inl x5), (4, .inl x10)] [.inl x4] s9
              refine am_blk hX 63 4 (?_)
              show X 110 [(0, .inr (.inr ((10, 0, 0), 215))), (1, .inl a1), (2, .inl x4), (3, .inl x5), (4, .inl x10)] [.inl ((1 : Int32) <<< (x5 &&& 31)), .inl x4] s9
              exact am_wk hX [0, 1, 3] (hJ110 ((1 : Int32) <<< (x5 &&& 31)) hf)
        · intro J97 hJ97 hf
          have hL33 : ∀ (n33 : Nat) (x14 : Int32) (x15 : Int32), fX9_startsOf_L33 a1 s9 J97 n33 x14 x15 = some (sE, rE) → X 33 [(0, .inr (.inr ((10, 0, 0), 215))), (1, .inl a1), (2, .inl x4), (3, .inl x5), (4, .inl x14), (5, .inl x15)] [] s9 := by
            intro n33
            induction n33 with
            | zero => intro x14 x15 hf; exact am_no (show none = some _ from hf)
            | succ n33 ih33 =>
              intro x14 x15 hf
              obtain ⟨g16, hf⟩ := am_g_of hf
              refine am_blk hX 21 6 (And.intro rfl (And.intro rfl (And.intro g16 (And.intro (fun hb => ?_) (fun hb => ?_)))))
              · have hf := am_it hf hb
                show X 97 [(0, .inr (.inr ((10, 0, 0), 215))), (1, .inl a1), (2, .inl x4), (3, .inl x5), (4, .inl x14), (5, .inl x15)] [] s9
                exact am_wk hX [0, 1, 2, 3, 4] (hJ97 x14 hf)
              · have hf := am_if hf hb
                show X 44 [(0, .inr (.inr ((10, 0, 0), 215))), (1, .inl a1), (2, .inl x4), (3, .inl x5), (4, .inl x14), (5, .inl x15)] [] s9
                obtain ⟨g17, hf⟩ := am_g_of hf
                obtain ⟨g18, hf⟩ := am_g_of hf
                obtain ⟨g19, hf⟩ := am_g_of hf
                refine am_jn hf (fun J88 => ∀ (x20 : Int32), J88 x20 = some (sE, rE) → X 88 [(0, .inr (.inr ((10, 0, 0), 215))), (1, .inl a1), (2, .inl x4), (3, .inl x5), (5, .inl x15)] [.inl x20, .inl x14] s9) ?_ ?_
                · intro x20 hf
                  refine am_blk hX 56 2 (am_nl (Z := fun x21 => X 91 [(4, .inl x21), (0, .inr (.inr ((10, 0, 0), 215))), (1, .inl a1), (2, .inl x4), (3, .inl x5), (5, .inl x15)] [] s9) hf (fun x21 hf => ?_))
                  refine am_blk hX 58 1 (am_nl (Z := fun x22 => X 94 [(5, .inl x22), (4, .inl x21), (0, .inr (.inr ((10, 0, 0), 215))), (1, .inl a1), (2, .inl x4), (3, .inl x5)] [] s9) hf (fun x22 hf => ?_))
                  refine am_blk hX 59 1 (?_)
                  show X 33 [(5, .inl x22), (4, .inl x21), (0, .inr (.inr ((10, 0, 0), 215))), (1, .inl a1), (2, .inl x4), (3, .inl x5)] [] s9
                  exact am_wk hX [2, 3, 4, 5, 1, 0] (ih33 x21 x22 hf)
                · intro J88 hJ88 hf
                  refine am_blk hX 27 26 (And.intro rfl (And.intro rfl (And.intro rfl (And.intro g17 (And.intro rfl (And.intro g18 (And.intro rfl (And.intro rfl (And.intro g19 (And.intro (fun hb => ?_) (fun hb => ?_)))))))))))
                  · have hf := am_if hf hb
                    show X 87 [(0, .inr (.inr ((10, 0, 0), 215))), (1, .inl a1), (2, .inl x4), (3, .inl x5), (4, .inl x14), (5, .inl x15)] [.inl x14] s9
                    refine am_blk hX 55 1 (?_)
                    show X 88 [(0, .inr (.inr ((10, 0, 0), 215))), (1, .inl a1), (2, .inl x4), (3, .inl x5), (4, .inl x14), (5, .inl x15)] [.inl (0 : Int32), .inl x14] s9
                    exact am_wk hX [0, 1, 2, 3, 5] (hJ88 (0 : Int32) hf)
                  · have hf := am_it hf hb
                    show X 83 [(0, .inr (.inr ((10, 0, 0), 215))), (1, .inl a1), (2, .inl x4), (3, .inl x5), (4, .inl x14), (5, .inl x15)] [.inl x14] s9
                    refine am_blk hX 53 2 (?_)
                    show X 88 [(0, .inr (.inr ((10, 0, 0), 215))), (1, .inl a1), (2, .inl x4), (3, .inl x5), (4, .inl x14), (5, .inl x15)] [.inl (1 : Int32), .inl x14] s9
                    exact am_wk hX [0, 1, 2, 3, 5] (hJ88 (1 : Int32) hf)
          refine am_blk hX 15 6 (And.intro rfl (And.intro rfl (Exists.intro s9 (Exists.intro none (And.intro (tX9_runs l (d + 0) hcv8) (?_))))))
          show X 33 [(5, .inl (0 : Int32)), (4, .inl (1 : Int32)), (0, .inr (.inr ((10, 0, 0), 215))), (1, .inl a1), (2, .inl x4), (3, .inl x5)] [] s9
          exact am_wk hX [2, 3, 4, 5, 1, 0] (hL33 am_fu (1 : Int32) (0 : Int32) hf)
  refine am_blk hX 0 6 (And.intro rfl (And.intro rfl (Exists.intro s2 (Exists.intro none (And.intro (tX9_lays l (d + 3) hcv1) (?_))))))
  show X 8 [(3, .inl (0 : Int32)), (2, .inl (0 : Int32)), (0, .inr (.inr ((10, 0, 0), 215))), (1, .inl a1)] [] s2
  exact am_wk hX [2, 3, 1, 0] (hL8 am_fu s2 (0 : Int32) (0 : Int32) hf)
def fX9_ask_L74 (v3 : Int32) (x9 : Int32) (J171 : AS → Int32 → Option (AS × Int32)) : Nat → AS → Int32 → Int32 → Option (AS × Int32)
  | 0, _, _, _ => none
  | n74 + 1, s17, x18, x19 =>
    am_g (¬ ((0 : Int32) < 0 ∨ 35 ≤ (0 : Int32).toNatClampNeg)) (if (s17.1 222 ((0 : Int32).toNatClampNeg)) ≤ x19 then (J171 s17 x18) else (am_r (fX9_isBit v3 x19) (fun (v21 : Int32) => am_let (fun (s22 : AS) (x23 : Int32) => am_let (x19 + (1 : Int32)) (fun (x24 : Int32) => fX9_ask_L74 v3 x9 J171 n74 s22 x23 x24)) (fun J165 => if v21 = 0 then (J165 s17 x18) else (am_let (am_si s17 215 25 x19) (fun (s25 : AS) => am_c (fX9_runs s25) (fun (s27 : AS) (v26 : Unit) => am_g (¬ (x9 < 0 ∨ 8 ≤ x9.toNatClampNeg)) (am_g (¬ (((1 : Int32) + (s27.1 233 x9.toNatClampNeg)) < 0 ∨ 62 ≤ ((1 : Int32) + (s27.1 233 x9.toNatClampNeg)).toNatClampNeg)) (am_g (¬ (((1 : Int32) + (s27.1 233 x9.toNatClampNeg)) < 0 ∨ 62 ≤ ((1 : Int32) + (s27.1 233 x9.toNatClampNeg)).toNatClampNeg)) (am_let (am_si s27 236 (((1 : Int32) + (s27.1 233 x9.toNatClampNeg)).toNatClampNeg) ((s27.1 236 (((1 : Int32) + (s27.1 233 x9.toNatClampNeg)).toNatClampNeg)) + (1 : Int32))) (fun (s31 : AS) => am_g (¬ (x9 < 0 ∨ 8 ≤ x9.toNatClampNeg)) (am_g (¬ (((1 : Int32) + (s31.1 233 x9.toNatClampNeg)) < 0 ∨ 62 ≤ ((1 : Int32) + (s31.1 233 x9.toNatClampNeg)).toNatClampNeg)) (am_let (fun (x34 : Int32) => J165 s31 x34) (fun J163 => if (s31.1 236 (((1 : Int32) + (s31.1 233 x9.toNatClampNeg)).toNatClampNeg)) ≤ x18 then (J163 x18) else (am_g (¬ (x9 < 0 ∨ 8 ≤ x9.toNatClampNeg)) (am_g (¬ (((1 : Int32) + (s31.1 233 x9.toNatClampNeg)) < 0 ∨ 62 ≤ ((1 : Int32) + (s31.1 233 x9.toNatClampNeg)).toNatClampNeg)) (J163 (s31.1 236 (((1 : Int32) + (s31.1 233 x9.toNatClampNeg)).toNatClampNeg)))))))))))))))))))
def fX9_ask_L47 (J68 : AS → Option (AS × Int32)) : Nat → AS → Int32 → Option (AS × Int32)
  | 0, _, _ => none
  | n47 + 1, s37, x38 =>
    if (62 : Int32) ≤ x38 then (J68 s37) else (am_g (¬ (x38 < 0 ∨ 62 ≤ x38.toNatClampNeg)) (am_let (am_si s37 236 (x38.toNatClampNeg) (0 : Int32)) (fun (s40 : AS) => am_let (x38 + (1 : Int32)) (fun (x41 : Int32) => fX9_ask_L47 J68 n47 s40 x41))))
def fX9_ask_L35 (v3 : Int32) : Nat → AS → Int32 → Int32 → Int32 → Option (AS × Int32)
  | 0, _, _, _, _ => none
  | n35 + 1, s6, x7, x8, x9 =>
    am_r (fX9_people s6) (fun (v10 : Int32) => if v10 ≤ x9 then (some (s6, x7)) else (am_let (fun (s11 : AS) => am_let (fun (s12 : AS) (x13 : Int32) => am_let (fun (x14 : Int32) (x15 : Int32) => am_let (x9 + (1 : Int32)) (fun (x16 : Int32) => fX9_ask_L35 v3 n35 s12 x14 x15 x16)) (fun J189 => if x13 < x8 then (J189 x9 x13) else (J189 x7 x8))) (fun J171 => fX9_ask_L74 v3 x9 J171 am_fu s11 (0 : Int32) (0 : Int32))) (fun J68 => fX9_ask_L47 J68 am_fu s6 (0 : Int32))))
def fX9_ask (s0 : AS) (a1 : Int32) : Option (AS × Int32) :=
  am_let (am_si s0 215 0 (0 : Int32)) (fun (s1 : AS) => am_r (fX9_whyNotStarts s1 a1) (fun (v2 : Int32) => if v2 = 0 then (am_c (fX9_startsOf s1 a1) (fun (s4 : AS) (v3 : Int32) => am_r (fX9_sizeOf v3) (fun (v5 : Int32) => fX9_ask_L35 v3 am_fu s4 (-1 : Int32) v5 (0 : Int32)))) else (some (s1, v2))))
def kX9_ask : List (Nat × Instr × Nat) := [(0, .aload_n 0, 1), (1, .iconst 0, 1), (2, .putfield 80, 3), (5, .aload_n 0, 1), (6, .iload_n 1, 1), (7, .invokevirtual 392, 3), (10, .istore_n 2, 1), (11, .iload_n 2, 1), (12, .ifCond .eq 5, 3), (15, .iload_n 2, 1), (16, .ireturn, 1), (17, .aload_n 0, 1), (18, .iload_n 1, 1), (19, .invokevirtual 395, 3), (22, .istore_n 3, 1), (23, .iconst (-1), 1), (24, .istore 4, 2), (26, .iload_n 3, 1), (27, .invokestatic 293, 3), (30, .istore 5, 2), (32, .iconst 0, 1), (33, .istore 6, 2), (35, .iload 6, 2), (37, .aload_n 0, 1), (38, .invokevirtual 248, 3), (41, .if_icmp .ge 154, 3), (44, .iconst 0, 1), (45, .istore 7, 2), (47, .iload 7, 2), (49, .bipush 62, 2), (51, .if_icmp .ge 17, 3), (54, .aload_n 0, 1), (55, .getfield 77, 3), (58, .iload 7, 2), (60, .iconst 0, 1), (61, .iastore, 1), (62, .iinc 7 1, 3), (65, .goto (-18), 3), (68, .iconst 0, 1), (69, .istore 7, 2), (71, .iconst 0, 1), (72, .istore 8, 2), (74, .iload 8, 2), (76, .aload_n 0, 1), (77, .getfield 34, 3), (80, .iconst 0, 1), (81, .iaload, 1), (82, .if_icmp .ge 89, 3), (85, .iload_n 3, 1), (86, .iload 8, 2), (88, .invokestatic 280, 3), (91, .ifCond .ne 6, 3), (94, .goto 71, 3), (97, .aload_n 0, 1), (98, .iload 8, 2), (100, .putfield 262, 3), (103, .aload_n 0, 1), (104, .invokevirtual 339, 3), (107, .aload_n 0, 1), (108, .getfield 77, 3), (111, .iconst 1, 1), (112, .aload_n 0, 1), (113, .getfield 68, 3), (116, .iload 6, 2), (118, .iaload, 1), (119, .iadd, 1), (120, .dup2, 1), (121, .iaload, 1), (122, .iconst 1, 1), (123, .iadd, 1), (124, .iastore, 1), (125, .aload_n 0, 1), (126, .getfield 77, 3), (129, .iconst 1, 1), (130, .aload_n 0, 1), (131, .getfield 68, 3), (134, .iload 6, 2), (136, .iaload, 1), (137, .iadd, 1), (138, .iaload, 1), (139, .iload 7, 2), (141, .if_icmp .le 20, 3), (144, .aload_n 0, 1), (145, .getfield 77, 3), (148, .iconst 1, 1), (149, .aload_n 0, 1), (150, .getfield 68, 3), (153, .iload 6, 2), (155, .iaload, 1), (156, .iadd, 1), (157, .iaload, 1), (158, .goto 5, 3), (161, .iload 7, 2), (163, .istore 7, 2), (165, .iinc 8 1, 3), (168, .goto (-94), 3), (171, .iload 7, 2), (173, .iload 5, 2), (175, .if_icmp .lt 6, 3), (178, .goto 11, 3), (181, .iload 6, 2), (183, .istore 4, 2), (185, .iload 7, 2), (187, .istore 5, 2), (189, .iinc 6 1, 3), (192, .goto (-157), 3), (195, .iload 4, 2), (197, .ireturn, 1)]
theorem qX9_ask : ∀ q ∈ kX9_ask, decode mX9_ask.2.2.1 q.1 = .ok (q.2.1, q.2.2) ∧ am_iok mX9_ask.2.2.2.1 q.1 q.2.1 q.2.2 = true := by decide +kernel
set_option maxRecDepth 100000 in
theorem wX9_ask : Cond.code mX9_ask.2.1 mX9_ask.2.2.1 mX9_ask.2.2.2.1 mX9_ask.2.2.2.2.1 ∈ am_T := List.mem_filter.mpr ⟨List.mem_of_getElem? (i := 1896) rfl, rfl⟩
set_option maxHeartbeats 4000000 in
set_option maxRecDepth 100000 in
theorem tX9_ask (l : Launch) (d : Nat) {s0 : AS} {a1 : Int32} {sE : AS} {rE : Int32} (hf : fX9_ask s0 a1 = some (sE, rE)) : am_Ct l (d + 6) mX9_ask [.inr (.inr ((10, 0, 0), 215)), .inl a1] s0 sE (some (.inl rE)) := by
  refine am_sim l (d + 5) (code := kX9_ask) (by decide +kernel) wX9_ask qX9_ask (Nat.le_of_ble_eq_true rfl) ?_
  intro X hX
  show X 0 [(0, .inr (.inr ((10, 0, 0), 215))), (1, .inl a1)] [] s0
  unfold fX9_ask at hf
  refine am_blk hX 0 3 (And.intro rfl (am_nl (Z := fun s1 => X 5 [(0, .inr (.inr ((10, 0, 0), 215))), (1, .inl a1)] [] s1) hf (fun s1 hf => ?_)))
  obtain ⟨v2, hcv2, hf⟩ := am_r_of hf
  refine am_blk hX 3 6 (And.intro rfl (And.intro rfl (Exists.intro s1 (Exists.intro (some (.inl v2)) (And.intro (tX9_whyNotStarts l (d + 2) hcv2) (And.intro (fun hb => ?_) (fun hb => ?_)))))))
  · have hf := am_it hf hb
    show X 17 [(2, .inl v2), (0, .inr (.inr ((10, 0, 0), 215))), (1, .inl a1)] [] s1
    obtain ⟨s4, v3, hcv3, hf⟩ := am_c_of hf
    obtain ⟨v5, hcv5, hf⟩ := am_r_of hf
    have hL35 : ∀ (n35 : Nat) (s6 : AS) (x7 : Int32) (x8 : Int32) (x9 : Int32), fX9_ask_L35 v3 n35 s6 x7 x8 x9 = some (sE, rE) → X 35 [(0, .inr (.inr ((10, 0, 0), 215))), (3, .inl v3), (4, .inl x7), (5, .inl x8), (6, .inl x9)] [] s6 := by
      intro n35
      induction n35 with
      | zero => intro s6 x7 x8 x9 hf; exact am_no (show none = some _ from hf)
      | succ n35 ih35 =>
        intro s6 x7 x8 x9 hf
        obtain ⟨v10, hcv10, hf⟩ := am_r_of hf
        refine am_blk hX 22 4 (And.intro rfl (And.intro rfl (Exists.intro s6 (Exists.intro (some (.inl v10)) (And.intro (tX9_people l (d + 4) hcv10) (And.intro (fun hb => ?_) (fun hb => ?_)))))))
        · have hf := am_it hf hb
          show X 195 [(0, .inr (.inr ((10, 0, 0), 215))), (3, .inl v3), (4, .inl x7), (5, .inl x8), (6, .inl x9)] [] s6
          refine am_blk hX 106 2 (am_ri hf)
        · have hf := am_if hf hb
          show X 44 [(0, .inr (.inr ((10, 0, 0), 215))), (3, .inl v3), (4, .inl x7), (5, .inl x8), (6, .inl x9)] [] s6
          refine am_jn hf (fun J68 => ∀ (s11 : AS), J68 s11 = some (sE, rE) → X 68 [(0, .inr (.inr ((10, 0, 0), 215))), (3, .inl v3), (4, .inl x7), (5, .inl x8), (6, .inl x9)] [] s11) ?_ ?_
          · intro s11 hf
            refine am_jn hf (fun J171 => ∀ (s12 : AS) (x13 : Int32), J171 s12 x13 = some (sE, rE) → X 171 [(0, .inr (.inr ((10, 0, 0), 215))), (3, .inl v3), (4, .inl x7), (5, .inl x8), (6, .inl x9), (7, .inl x13)] [] s12) ?_ ?_
            · intro s12 x13 hf
              refine am_jn hf (fun J189 => ∀ (x14 : Int32) (x15 : Int32), J189 x14 x15 = some (sE, rE) → X 189 [(0, .inr (.inr ((10, 0, 0), 215))), (3, .inl v3), (4, .inl x14), (5, .inl x15), (6, .inl x9)] [] s12) ?_ ?_
              · intro x14 x15 hf
                refine am_blk hX 104 1 (am_nl (Z := fun x16 => X 192 [(6, .inl x16), (0, .inr (.inr ((10, 0, 0), 215))), (3, .inl v3), (4, .inl x14), (5, .inl x15)] [] s12) hf (fun x16 hf => ?_))
                refine am_blk hX 105 1 (?_)
                show X 35 [(6, .inl x16), (0, .inr (.inr ((10, 0, 0), 215))), (3, .inl v3), (4, .inl x14), (5, .inl x15)] [] s12
                exact am_wk hX [1, 2, 3, 4, 0] (ih35 s12 x14 x15 x16 hf)
              · intro J189 hJ189 hf
                refine am_blk hX 96 3 (And.intro (fun hb => ?_) (fun hb => ?_))
                · have hf := am_it hf hb
                  show X 181 [(0, .inr (.inr ((10, 0, 0), 215))), (3, .inl v3), (4, .inl x7), (5, .inl x8), (6, .inl x9), (7, .inl x13)] [] s12
                  refine am_blk hX 100 4 (?_)
                  show X 189 [(5, .inl x13), (4, .inl x9), (0, .inr (.inr ((10, 0, 0), 215))), (3, .inl v3), (6, .inl x9), (7, .inl x13)] [] s12
                  exact am_wk hX [2, 3, 1, 0, 4] (hJ189 x9 x13 hf)
                · have hf := am_if hf hb
                  show X 178 [(0, .inr (.inr ((10, 0, 0), 215))), (3, .inl v3), (4, .inl x7), (5, .inl x8), (6, .inl x9), (7, .inl x13)] [] s12
                  refine am_blk hX 99 1 (?_)
                  show X 189 [(0, .inr (.inr ((10, 0, 0), 215))), (3, .inl v3), (4, .inl x7), (5, .inl x8), (6, .inl x9), (7, .inl x13)] [] s12
                  exact am_wk hX [0, 1, 2, 3, 4] (hJ189 x7 x8 hf)
            · intro J171 hJ171 hf
              have hL74 : ∀ (n74 : Nat) (s17 : AS) (x18 : Int32) (x19 : Int32), fX9_ask_L74 v3 x9 J171 n74 s17 x18 x19 = some (sE, rE) → X 74 [(0, .inr (.inr ((10, 0, 0), 215))), (3, .inl v3), (4, .inl x7), (5, .inl x8), (6, .inl x9), (7, .inl x18), (8, .inl x19)] [] s17 := by
                intro n74
                induction n74 with
                | zero => intro s17 x18 x19 hf; exact am_no (show none = some _ from hf)
                | succ n74 ih74 =>
                  intro s17 x18 x19 hf
                  obtain ⟨g20, hf⟩ := am_g_of hf
                  refine am_blk hX 42 6 (And.intro rfl (And.intro rfl (And.intro g20 (And.intro (fun hb => ?_) (fun hb => ?_)))))
                  · have hf := am_it hf hb
                    show X 171 [(0, .inr (.inr ((10, 0, 0), 215))), (3, .inl v3), (4, .inl x7), (5, .inl x8), (6, .inl x9), (7, .inl x18), (8, .inl x19)] [] s17
                    exact am_wk hX [0, 1, 2, 3, 4, 5] (hJ171 s17 x18 hf)
                  · have hf := am_if hf hb
                    show X 85 [(0, .inr (.inr ((10, 0, 0), 215))), (3, .inl v3), (4, .inl x7), (5, .inl x8), (6, .inl x9), (7, .inl x18), (8, .inl x19)] [] s17
                    obtain ⟨v21, hcv21, hf⟩ := am_r_of hf
                    refine am_jn hf (fun J165 => ∀ (s22 : AS) (x23 : Int32), J165 s22 x23 = some (sE, rE) → X 165 [(0, .inr (.inr ((10, 0, 0), 215))), (3, .inl v3), (4, .inl x7), (5, .inl x8), (6, .inl x9), (7, .inl x23), (8, .inl x19)] [] s22) ?_ ?_
                    · intro s22 x23 hf
                      refine am_blk hX 94 1 (am_nl (Z := fun x24 => X 168 [(8, .inl x24), (0, .inr (.inr ((10, 0, 0), 215))), (3, .inl v3), (4, .inl x7), (5, .inl x8), (6, .inl x9), (7, .inl x23)] [] s22) hf (fun x24 hf => ?_))
                      refine am_blk hX 95 1 (?_)
                      show X 74 [(8, .inl x24), (0, .inr (.inr ((10, 0, 0), 215))), (3, .inl v3), (4, .inl x7), (5, .inl x8), (6, .inl x9), (7, .inl x23)] [] s22
                      exact am_wk hX [1, 2, 3, 4, 5, 6, 0] (ih74 s22 x23 x24 hf)
                    · intro J165 hJ165 hf
                      refine am_blk hX 48 4 (And.intro rfl (Exists.intro s17 (Exists.intro (some (.inl v21)) (And.intro (tX9_isBit l (d + 4) hcv21) (And.intro (fun hb => ?_) (fun hb => ?_))))))
                      · have hf := am_if hf hb
                        show X 97 [(0, .inr (.inr ((10, 0, 0), 215))), (3, .inl v3), (4, .inl x7), (5, .inl x8), (6, .inl x9), (7, .inl x18), (8, .inl x19)] [] s17
                        refine am_blk hX 53 3 (And.intro rfl (am_nl (Z := fun s25 => X 103 [(0, .inr (.inr ((10, 0, 0), 215))), (3, .inl v3), (4, .inl x7), (5, .inl x8), (6, .inl x9), (7, .inl x18), (8, .inl x19)] [] s25) hf (fun s25 hf => ?_)))
                        obtain ⟨s27, v26, hcv26, hf⟩ := am_c_of hf
                        obtain ⟨g28, hf⟩ := am_g_of hf
                        obtain ⟨g29, hf⟩ := am_g_of hf
                        obtain ⟨g30, hf⟩ := am_g_of hf
                        refine am_blk hX 56 15 (And.intro rfl (And.intro rfl (Exists.intro s27 (Exists.intro none (And.intro (tX9_runs l (d + 1) hcv26) (And.intro rfl (And.intro rfl (And.intro rfl (And.intro g28 (And.intro rfl (And.intro g29 (And.intro rfl (And.intro g30 (am_nl (Z := fun s31 => X 125 [(0, .inr (.inr ((10, 0, 0), 215))), (3, .inl v3), (4, .inl x7), (5, .inl x8), (6, .inl x9), (7, .inl x18), (8, .inl x19)] [] s31) hf (fun s31 hf => ?_)))))))))))))))
                        obtain ⟨g32, hf⟩ := am_g_of hf
                        obtain ⟨g33, hf⟩ := am_g_of hf
                        refine am_jn hf (fun J163 => ∀ (x34 : Int32), J163 x34 = some (sE, rE) → X 163 [(0, .inr (.inr ((10, 0, 0), 215))), (3, .inl v3), (4, .inl x7), (5, .inl x8), (6, .inl x9), (8, .inl x19)] [.inl x34] s31) ?_ ?_
                        · intro x34 hf
                          refine am_blk hX 93 1 (?_)
                          show X 165 [(7, .inl x34), (0, .inr (.inr ((10, 0, 0), 215))), (3, .inl v3), (4, .inl x7), (5, .inl x8), (6, .inl x9), (8, .inl x19)] [] s31
                          exact am_wk hX [1, 2, 3, 4, 5, 0, 6] (hJ165 s31 x34 hf)
                        · intro J163 hJ163 hf
                          refine am_blk hX 71 11 (And.intro rfl (And.intro rfl (And.intro rfl (And.intro g32 (And.intro rfl (And.intro g33 (And.intro (fun hb => ?_) (fun hb => ?_))))))))
                          · have hf := am_it hf hb
                            show X 161 [(0, .inr (.inr ((10, 0, 0), 215))), (3, .inl v3), (4, .inl x7), (5, .inl x8), (6, .inl x9), (7, .inl x18), (8, .inl x19)] [] s31
                            refine am_blk hX 92 1 (?_)
                            show X 163 [(0, .inr (.inr ((10, 0, 0), 215))), (3, .inl v3), (4, .inl x7), (5, .inl x8), (6, .inl x9), (7, .inl x18), (8, .inl x19)] [.inl x18] s31
                            exact am_wk hX [0, 1, 2, 3, 4, 6] (hJ163 x18 hf)
                          · have hf := am_if hf hb
                            show X 144 [(0, .inr (.inr ((10, 0, 0), 215))), (3, .inl v3), (4, .inl x7), (5, .inl x8), (6, .inl x9), (7, .inl x18), (8, .inl x19)] [] s31
                            obtain ⟨g35, hf⟩ := am_g_of hf
                            obtain ⟨g36, hf⟩ := am_g_of hf
                            refine am_blk hX 82 10 (And.intro rfl (And.intro rfl (And.intro rfl (And.intro g35 (And.intro rfl (And.intro g36 (?_)))))))
                            show X 163 [(0, .inr (.inr ((10, 0, 0), 215))), (3, .inl v3), (4, .inl x7), (5, .inl x8), (6, .inl x9), (7, .inl x18), (8, .inl x19)] [.inl (s31.1 236 (((1 : Int32) + (s31.1 233 x9.toNatClampNeg)).toNatClampNeg))] s31
                            exact am_wk hX [0, 1, 2, 3, 4, 6] (hJ163 (s31.1 236 (((1 : Int32) + (s31.1 233 x9.toNatClampNeg)).toNatClampNeg)) hf)
                      · have hf := am_it hf hb
                        show X 94 [(0, .inr (.inr ((10, 0, 0), 215))), (3, .inl v3), (4, .inl x7), (5, .inl x8), (6, .inl x9), (7, .inl x18), (8, .inl x19)] [] s17
                        refine am_blk hX 52 1 (?_)
                        show X 165 [(0, .inr (.inr ((10, 0, 0), 215))), (3, .inl v3), (4, .inl x7), (5, .inl x8), (6, .inl x9), (7, .inl x18), (8, .inl x19)] [] s17
                        exact am_wk hX [0, 1, 2, 3, 4, 5, 6] (hJ165 s17 x18 hf)
              refine am_blk hX 38 4 (?_)
              show X 74 [(8, .inl (0 : Int32)), (7, .inl (0 : Int32)), (0, .inr (.inr ((10, 0, 0), 215))), (3, .inl v3), (4, .inl x7), (5, .inl x8), (6, .inl x9)] [] s11
              exact am_wk hX [2, 3, 4, 5, 6, 1, 0] (hL74 am_fu s11 (0 : Int32) (0 : Int32) hf)
          · intro J68 hJ68 hf
            have hL47 : ∀ (n47 : Nat) (s37 : AS) (x38 : Int32), fX9_ask_L47 J68 n47 s37 x38 = some (sE, rE) → X 47 [(0, .inr (.inr ((10, 0, 0), 215))), (3, .inl v3), (4, .inl x7), (5, .inl x8), (6, .inl x9), (7, .inl x38)] [] s37 := by
              intro n47
              induction n47 with
              | zero => intro s37 x38 hf; exact am_no (show none = some _ from hf)
              | succ n47 ih47 =>
                intro s37 x38 hf
                refine am_blk hX 28 3 (And.intro (fun hb => ?_) (fun hb => ?_))
                · have hf := am_it hf hb
                  show X 68 [(0, .inr (.inr ((10, 0, 0), 215))), (3, .inl v3), (4, .inl x7), (5, .inl x8), (6, .inl x9), (7, .inl x38)] [] s37
                  exact am_wk hX [0, 1, 2, 3, 4] (hJ68 s37 hf)
                · have hf := am_if hf hb
                  show X 54 [(0, .inr (.inr ((10, 0, 0), 215))), (3, .inl v3), (4, .inl x7), (5, .inl x8), (6, .inl x9), (7, .inl x38)] [] s37
                  obtain ⟨g39, hf⟩ := am_g_of hf
                  refine am_blk hX 31 5 (And.intro rfl (And.intro rfl (And.intro g39 (am_nl (Z := fun s40 => X 62 [(0, .inr (.inr ((10, 0, 0), 215))), (3, .inl v3), (4, .inl x7), (5, .inl x8), (6, .inl x9), (7, .inl x38)] [] s40) hf (fun s40 hf => ?_)))))
                  refine am_blk hX 36 1 (am_nl (Z := fun x41 => X 65 [(7, .inl x41), (0, .inr (.inr ((10, 0, 0), 215))), (3, .inl v3), (4, .inl x7), (5, .inl x8), (6, .inl x9)] [] s40) hf (fun x41 hf => ?_))
                  refine am_blk hX 37 1 (?_)
                  show X 47 [(7, .inl x41), (0, .inr (.inr ((10, 0, 0), 215))), (3, .inl v3), (4, .inl x7), (5, .inl x8), (6, .inl x9)] [] s40
                  exact am_wk hX [1, 2, 3, 4, 5, 0] (ih47 s40 x41 hf)
            refine am_blk hX 26 2 (?_)
            show X 47 [(7, .inl (0 : Int32)), (0, .inr (.inr ((10, 0, 0), 215))), (3, .inl v3), (4, .inl x7), (5, .inl x8), (6, .inl x9)] [] s6
            exact am_wk hX [1, 2, 3, 4, 5, 0] (hL47 am_fu s6 (0 : Int32) hf)
    refine am_blk hX 11 11 (And.intro rfl (And.intro rfl (Exists.intro s4 (Exists.intro (some (.inl v3)) (And.intro (tX9_startsOf l (d + 0) hcv3) (And.intro rfl (Exists.intro s4 (Exists.intro (some (.inl v5)) (And.intro (tX9_sizeOf l (d + 4) hcv5) (?_))))))))))
    show X 35 [(6, .inl (0 : Int32)), (5, .inl v5), (4, .inl (-1 : Int32)), (3, .inl v3), (2, .inl v2), (0, .inr (.inr ((10, 0, 0), 215))), (1, .inl a1)] [] s4
    exact am_wk hX [5, 3, 2, 1, 0] (hL35 am_fu s4 (-1 : Int32) v5 (0 : Int32) hf)
  · have hf := am_if hf hb
    show X 15 [(2, .inl v2), (0, .inr (.inr ((10, 0, 0), 215))), (1, .inl a1)] [] s1
    refine am_blk hX 9 2 (am_ri hf)
def fX9_is (s0 : AS) (a1 : Int64) : Option Int32 :=
  am_let (fun (x1 : Int32) => am_g (x1 = 0 ∨ x1 = 1) (some x1)) (fun J29 => am_let (J29 (0 : Int32)) (fun J28 => if (s0.1 215 12) = 0 then (if (s0.1 215 8) = (1 : Int32) then (if (lg_cmp (s0.2 215 11) a1) = 0 then (J29 (1 : Int32)) else (J28)) else (J28)) else (J28)))
def kX9_is : List (Nat × Instr × Nat) := [(0, .aload_n 0, 1), (1, .getfield 132, 3), (4, .ifCond .ne 24, 3), (7, .aload_n 0, 1), (8, .getfield 121, 3), (11, .iconst 1, 1), (12, .if_icmp .ne 16, 3), (15, .aload_n 0, 1), (16, .getfield 117, 3), (19, .lload_n 1, 1), (20, .lcmp, 1), (21, .ifCond .ne 7, 3), (24, .iconst 1, 1), (25, .goto 4, 3), (28, .iconst 0, 1), (29, .ireturn, 1)]
theorem qX9_is : ∀ q ∈ kX9_is, decode mX9_is.2.2.1 q.1 = .ok (q.2.1, q.2.2) ∧ am_iok mX9_is.2.2.2.1 q.1 q.2.1 q.2.2 = true := by decide +kernel
set_option maxRecDepth 100000 in
theorem wX9_is : Cond.code mX9_is.2.1 mX9_is.2.2.1 mX9_is.2.2.2.1 mX9_is.2.2.2.2.1 ∈ am_T := List.mem_filter.mpr ⟨List.mem_of_getElem? (i := 1531) rfl, rfl⟩
set_option maxHeartbeats 4000000 in
set_option maxRecDepth 100000 in
theorem tX9_is (l : Launch) (d : Nat) {s0 : AS} {a1 : Int64} {rE : Int32} (hf : fX9_is s0 a1 = some rE) : am_Ct l (d + 1) mX9_is [.inr (.inr ((10, 0, 0), 215)), .inr (.inl a1)] s0 s0 (some (.inl rE)) := by
  refine am_sim l (d + 0) (code := kX9_is) (by decide +kernel) wX9_is qX9_is (Nat.le_of_ble_eq_true rfl) ?_
  intro X hX
  show X 0 [(0, .inr (.inr ((10, 0, 0), 215))), (1, .inr (.inl a1))] [] s0
  unfold fX9_is at hf
  refine am_jn hf (fun J29 => ∀ (x1 : Int32), J29 x1 = some rE → X 29 [] [.inl x1] s0) ?_ ?_
  · intro x1 hf
    obtain ⟨g2, hf⟩ := am_g_of hf
    refine am_blk hX 15 1 (And.intro g2 (am_rpi hf))
  · intro J29 hJ29 hf
    refine am_jn hf (fun J28 => J28 = some rE → X 28 [] [] s0) ?_ ?_
    · intro hf
      refine am_blk hX 14 1 (?_)
      show X 29 [] [.inl (0 : Int32)] s0
      exact am_wk hX [] (hJ29 (0 : Int32) hf)
    · intro J28 hJ28 hf
      refine am_blk hX 0 3 (And.intro rfl (And.intro (fun hb => ?_) (fun hb => ?_)))
      · have hf := am_if hf hb
        show X 28 [(0, .inr (.inr ((10, 0, 0), 215))), (1, .inr (.inl a1))] [] s0
        exact am_wk hX [] (hJ28 hf)
      · have hf := am_it hf hb
        show X 7 [(0, .inr (.inr ((10, 0, 0), 215))), (1, .inr (.inl a1))] [] s0
        refine am_blk hX 3 4 (And.intro rfl (And.intro (fun hb => ?_) (fun hb => ?_)))
        · have hf := am_if hf hb
          show X 28 [(0, .inr (.inr ((10, 0, 0), 215))), (1, .inr (.inl a1))] [] s0
          exact am_wk hX [] (hJ28 hf)
        · have hf := am_it hf hb
          show X 15 [(0, .inr (.inr ((10, 0, 0), 215))), (1, .inr (.inl a1))] [] s0
          refine am_blk hX 7 5 (And.intro rfl (And.intro (fun hb => ?_) (fun hb => ?_)))
          · have hf := am_if hf hb
            show X 28 [(0, .inr (.inr ((10, 0, 0), 215))), (1, .inr (.inl a1))] [] s0
            exact am_wk hX [] (hJ28 hf)
          · have hf := am_it hf hb
            show X 24 [(0, .inr (.inr ((10, 0, 0), 215))), (1, .inr (.inl a1))] [] s0
            refine am_blk hX 12 2 (?_)
            show X 29 [(0, .inr (.inr ((10, 0, 0), 215))), (1, .inr (.inl a1))] [.inl (1 : Int32)] s0
            exact am_wk hX [] (hJ29 (1 : Int32) hf)
def fX9_isByte (s0 : AS) (a1 : Int32) (a2 : Int32) (a3 : Int32) : Option Int32 :=
  am_let (fun (x1 : Int32) => am_g (x1 = 0 ∨ x1 = 1) (some x1)) (fun J33 => am_let (J33 (0 : Int32)) (fun J32 => if (s0.1 215 6) ≤ a1 then (J32) else (am_g (¬ (a1 < 0 ∨ 800 ≤ a1.toNatClampNeg)) (if (s0.1 220 a1.toNatClampNeg) < a2 then (J32) else (am_g (¬ (a1 < 0 ∨ 800 ≤ a1.toNatClampNeg)) (if a3 < (s0.1 220 a1.toNatClampNeg) then (J32) else (J33 (1 : Int32))))))))
def kX9_isByte : List (Nat × Instr × Nat) := [(0, .iload_n 1, 1), (1, .aload_n 0, 1), (2, .getfield 97, 3), (5, .if_icmp .ge 27, 3), (8, .aload_n 0, 1), (9, .getfield 23, 3), (12, .iload_n 1, 1), (13, .baload, 1), (14, .iload_n 2, 1), (15, .if_icmp .lt 17, 3), (18, .aload_n 0, 1), (19, .getfield 23, 3), (22, .iload_n 1, 1), (23, .baload, 1), (24, .iload_n 3, 1), (25, .if_icmp .gt 7, 3), (28, .iconst 1, 1), (29, .goto 4, 3), (32, .iconst 0, 1), (33, .ireturn, 1)]
theorem qX9_isByte : ∀ q ∈ kX9_isByte, decode mX9_isByte.2.2.1 q.1 = .ok (q.2.1, q.2.2) ∧ am_iok mX9_isByte.2.2.2.1 q.1 q.2.1 q.2.2 = true := by decide +kernel
set_option maxRecDepth 100000 in
theorem wX9_isByte : Cond.code mX9_isByte.2.1 mX9_isByte.2.2.1 mX9_isByte.2.2.2.1 mX9_isByte.2.2.2.2.1 ∈ am_T := List.mem_filter.mpr ⟨List.mem_of_getElem? (i := 1505) rfl, rfl⟩
set_option maxHeartbeats 4000000 in
set_option maxRecDepth 100000 in
theorem tX9_isByte (l : Launch) (d : Nat) {s0 : AS} {a1 : Int32} {a2 : Int32} {a3 : Int32} {rE : Int32} (hf : fX9_isByte s0 a1 a2 a3 = some rE) : am_Ct l (d + 1) mX9_isByte [.inr (.inr ((10, 0, 0), 215)), .inl a1, .inl a2, .inl a3] s0 s0 (some (.inl rE)) := by
  refine am_sim l (d + 0) (code := kX9_isByte) (by decide +kernel) wX9_isByte qX9_isByte (Nat.le_of_ble_eq_true rfl) ?_
  intro X hX
  show X 0 [(0, .inr (.inr ((10, 0, 0), 215))), (1, .inl a1), (2, .inl a2), (3, .inl a3)] [] s0
  unfold fX9_isByte at hf
  refine am_jn hf (fun J33 => ∀ (x1 : Int32), J33 x1 = some rE → X 33 [] [.inl x1] s0) ?_ ?_
  · intro x1 hf
    obtain ⟨g2, hf⟩ := am_g_of hf
    refine am_blk hX 19 1 (And.intro g2 (am_rpi hf))
  · intro J33 hJ33 hf
    refine am_jn hf (fun J32 => J32 = some rE → X 32 [] [] s0) ?_ ?_
    · intro hf
      refine am_blk hX 18 1 (?_)
      show X 33 [] [.inl (0 : Int32)] s0
      exact am_wk hX [] (hJ33 (0 : Int32) hf)
    · intro J32 hJ32 hf
      refine am_blk hX 0 4 (And.intro rfl (And.intro (fun hb => ?_) (fun hb => ?_)))
      · have hf := am_it hf hb
        show X 32 [(0, .inr (.inr ((10, 0, 0), 215))), (1, .inl a1), (2, .inl a2), (3, .inl a3)] [] s0
        exact am_wk hX [] (hJ32 hf)
      · have hf := am_if hf hb
        show X 8 [(0, .inr (.inr ((10, 0, 0), 215))), (1, .inl a1), (2, .inl a2), (3, .inl a3)] [] s0
        obtain ⟨g3, hf⟩ := am_g_of hf
        refine am_blk hX 4 6 (And.intro rfl (And.intro (Or.inl rfl) (And.intro g3 (And.intro (fun hb => ?_) (fun hb => ?_)))))
        · have hf := am_it hf hb
          show X 32 [(0, .inr (.inr ((10, 0, 0), 215))), (1, .inl a1), (2, .inl a2), (3, .inl a3)] [] s0
          exact am_wk hX [] (hJ32 hf)
        · have hf := am_if hf hb
          show X 18 [(0, .inr (.inr ((10, 0, 0), 215))), (1, .inl a1), (2, .inl a2), (3, .inl a3)] [] s0
          obtain ⟨g4, hf⟩ := am_g_of hf
          refine am_blk hX 10 6 (And.intro rfl (And.intro (Or.inl rfl) (And.intro g4 (And.intro (fun hb => ?_) (fun hb => ?_)))))
          · have hf := am_it hf hb
            show X 32 [(0, .inr (.inr ((10, 0, 0), 215))), (1, .inl a1), (2, .inl a2), (3, .inl a3)] [] s0
            exact am_wk hX [] (hJ32 hf)
          · have hf := am_if hf hb
            show X 28 [(0, .inr (.inr ((10, 0, 0), 215))), (1, .inl a1), (2, .inl a2), (3, .inl a3)] [] s0
            refine am_blk hX 16 2 (?_)
            show X 33 [(0, .inr (.inr ((10, 0, 0), 215))), (1, .inl a1), (2, .inl a2), (3, .inl a3)] [.inl (1 : Int32)] s0
            exact am_wk hX [] (hJ33 (1 : Int32) hf)
