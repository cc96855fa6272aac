/-! METHODS, printed by gen.py. -/
def fX9_goesOn_L208 (J307 : AS → Option (AS × Unit)) : Nat → AS → Option (AS × Unit)
  | 0, _ => none
  | n208 + 1, s13 =>
    am_r (fX9_isByte s13 (s13.1 215 7) (48 : Int32) (57 : Int32)) (fun (v14 : Int32) => if v14 = 0 then (J307 s13) else (am_let (fun (x15 : Int32) => am_let (am_si s13 215 10 x15) (fun (s16 : AS) => am_let (am_si s16 215 7 ((s16.1 215 7) + (1 : Int32))) (fun (s17 : AS) => fX9_goesOn_L208 J307 n208 s17))) (fun J258 => if (s13.1 215 10) ≤ (100000 : Int32) then (am_g (¬ ((s13.1 215 7) < 0 ∨ 800 ≤ (s13.1 215 7).toNatClampNeg)) (J258 ((((10 : Int32) * (s13.1 215 10)) + (s13.1 220 ((s13.1 215 7).toNatClampNeg))) - (48 : Int32)))) else (J258 (1000000 : Int32)))))
def fX9_goesOn_L102 (J185 : AS → Option (AS × Unit)) : Nat → AS → Int32 → Option (AS × Unit)
  | 0, _, _ => none
  | n102 + 1, s21, x22 =>
    am_r (fX9_isByte s21 (s21.1 215 7) (97 : Int32) (122 : Int32)) (fun (v23 : Int32) => if v23 = 0 then (J185 s21) else (am_let (fun (x24 : Int64) => am_let (am_sj s21 215 11 x24) (fun (s25 : AS) => am_let (fun (s26 : AS) => am_let (am_si s26 215 7 ((s26.1 215 7) + (1 : Int32))) (fun (s27 : AS) => am_let (x22 + (1 : Int32)) (fun (x28 : Int32) => fX9_goesOn_L102 J185 n102 s27 x28))) (fun J169 => if x22 ≤ (11 : Int32) then (J169 s25) else (am_let (am_sj s25 215 11 (-1 : Int64)) (fun (s29 : AS) => J169 s29))))) (fun J153 => if x22 ≤ (11 : Int32) then (am_g (¬ ((s21.1 215 7) < 0 ∨ 800 ≤ (s21.1 215 7).toNatClampNeg)) (J153 ((((27 : Int64) * (s21.2 215 11)) + ((s21.1 220 ((s21.1 215 7).toNatClampNeg)).toInt64)) - (96 : Int64)))) else (J153 (-1 : Int64)))))
def fX9_goesOn_L0 (J43 : AS → Option (AS × Unit)) : Nat → AS → Option (AS × Unit)
  | 0, _ => none
  | n0 + 1, s32 =>
    am_r (fX9_isByte s32 (s32.1 215 7) (32 : Int32) (32 : Int32)) (fun (v33 : Int32) => am_let (am_let (am_si s32 215 7 ((s32.1 215 7) + (1 : Int32))) (fun (s34 : AS) => fX9_goesOn_L0 J43 n0 s34)) (fun J30 => if v33 = 0 then (am_r (fX9_isByte s32 (s32.1 215 7) (10 : Int32) (10 : Int32)) (fun (v35 : Int32) => if v35 = 0 then (J43 s32) else (J30))) else (J30)))
def fX9_goesOn (s0 : AS) : Option (AS × Unit) :=
  am_let (fun (s1 : AS) => am_let (am_si s1 215 9 (s1.1 215 7)) (fun (s2 : AS) => am_let (am_si s2 215 10 (0 : Int32)) (fun (s3 : AS) => am_let (am_sj s3 215 11 (0 : Int64)) (fun (s4 : AS) => am_let (fun (s5 : AS) => some (s5, ())) (fun J307 => if (s4.1 215 7) = (s4.1 215 6) then (am_let (am_si s4 215 8 (0 : Int32)) (fun (s31 : AS) => J307 s31)) else (am_r (fX9_isByte s4 (s4.1 215 7) (97 : Int32) (122 : Int32)) (fun (v6 : Int32) => if v6 = 0 then (am_r (fX9_isByte s4 (s4.1 215 7) (48 : Int32) (57 : Int32)) (fun (v7 : Int32) => if v7 = 0 then (am_g (¬ ((s4.1 215 7) < 0 ∨ 800 ≤ (s4.1 215 7).toNatClampNeg)) (am_let (fun (x9 : Int32) => am_let (am_si s4 215 8 x9) (fun (s10 : AS) => am_let (am_si s10 215 7 ((s10.1 215 7) + (1 : Int32))) (fun (s11 : AS) => J307 s11))) (fun J294 => if (s4.1 220 ((s4.1 215 7).toNatClampNeg)) = (59 : Int32) then (J294 (3 : Int32)) else (J294 (4 : Int32))))) else (am_let (am_si s4 215 8 (2 : Int32)) (fun (s12 : AS) => fX9_goesOn_L208 J307 am_fu s12)))) else (am_let (am_si s4 215 8 (1 : Int32)) (fun (s19 : AS) => am_let (fun (s20 : AS) => J307 s20) (fun J185 => fX9_goesOn_L102 J185 am_fu s19 (0 : Int32))))))))))) (fun J43 => fX9_goesOn_L0 J43 am_fu s0)
def kX9_goesOn : List (Nat × Instr × Nat) := [(0, .aload_n 0, 1), (1, .aload_n 0, 1), (2, .getfield 104, 3), (5, .bipush 32, 2), (7, .bipush 32, 2), (9, .invokevirtual 107, 3), (12, .ifCond .ne 18, 3), (15, .aload_n 0, 1), (16, .aload_n 0, 1), (17, .getfield 104, 3), (20, .bipush 10, 2), (22, .bipush 10, 2), (24, .invokevirtual 107, 3), (27, .ifCond .eq 16, 3), (30, .aload_n 0, 1), (31, .dup, 1), (32, .getfield 104, 3), (35, .iconst 1, 1), (36, .iadd, 1), (37, .putfield 104, 3), (40, .goto (-40), 3), (43, .aload_n 0, 1), (44, .aload_n 0, 1), (45, .getfield 104, 3), (48, .putfield 111, 3), (51, .aload_n 0, 1), (52, .iconst 0, 1), (53, .putfield 114, 3), (56, .aload_n 0, 1), (57, .lconst 0, 1), (58, .putfield 117, 3), (61, .aload_n 0, 1), (62, .getfield 104, 3), (65, .aload_n 0, 1), (66, .getfield 97, 3), (69, .if_icmp .ne 11, 3), (72, .aload_n 0, 1), (73, .iconst 0, 1), (74, .putfield 121, 3), (77, .goto 230, 3), (80, .aload_n 0, 1), (81, .aload_n 0, 1), (82, .getfield 104, 3), (85, .bipush 97, 2), (87, .bipush 122, 2), (89, .invokevirtual 107, 3), (92, .ifCond .eq 96, 3), (95, .aload_n 0, 1), (96, .iconst 1, 1), (97, .putfield 121, 3), (100, .iconst 0, 1), (101, .istore_n 1, 1), (102, .aload_n 0, 1), (103, .aload_n 0, 1), (104, .getfield 104, 3), (107, .bipush 97, 2), (109, .bipush 122, 2), (111, .invokevirtual 107, 3), (114, .ifCond .eq 71, 3), (117, .aload_n 0, 1), (118, .iload_n 1, 1), (119, .bipush 11, 2), (121, .if_icmp .le 9, 3), (124, .ldc2_w 124, 3), (127, .goto 26, 3), (130, .ldc2_w 126, 3), (133, .aload_n 0, 1), (134, .getfield 117, 3), (137, .lmul, 1), (138, .aload_n 0, 1), (139, .getfield 23, 3), (142, .aload_n 0, 1), (143, .getfield 104, 3), (146, .baload, 1), (147, .i2l, 1), (148, .ladd, 1), (149, .ldc2_w 128, 3), (152, .lsub, 1), (153, .putfield 117, 3), (156, .iload_n 1, 1), (157, .bipush 11, 2), (159, .if_icmp .le 10, 3), (162, .aload_n 0, 1), (163, .ldc2_w 124, 3), (166, .putfield 117, 3), (169, .aload_n 0, 1), (170, .dup, 1), (171, .getfield 104, 3), (174, .iconst 1, 1), (175, .iadd, 1), (176, .putfield 104, 3), (179, .iinc 1 1, 3), (182, .goto (-80), 3), (185, .goto 122, 3), (188, .aload_n 0, 1), (189, .aload_n 0, 1), (190, .getfield 104, 3), (193, .bipush 48, 2), (195, .bipush 57, 2), (197, .invokevirtual 107, 3), (200, .ifCond .eq 74, 3), (203, .aload_n 0, 1), (204, .iconst 2, 1), (205, .putfield 121, 3), (208, .aload_n 0, 1), (209, .aload_n 0, 1), (210, .getfield 104, 3), (213, .bipush 48, 2), (215, .bipush 57, 2), (217, .invokevirtual 107, 3), (220, .ifCond .eq 87, 3), (223, .aload_n 0, 1), (224, .aload_n 0, 1), (225, .getfield 114, 3), (228, .ldc 130, 2), (230, .if_icmp .le 8, 3), (233, .ldc 131, 2), (235, .goto 23, 3), (238, .bipush 10, 2), (240, .aload_n 0, 1), (241, .getfield 114, 3), (244, .imul, 1), (245, .aload_n 0, 1), (246, .getfield 23, 3), (249, .aload_n 0, 1), (250, .getfield 104, 3), (253, .baload, 1), (254, .iadd, 1), (255, .bipush 48, 2), (257, .isub, 1), (258, .putfield 114, 3), (261, .aload_n 0, 1), (262, .dup, 1), (263, .getfield 104, 3), (266, .iconst 1, 1), (267, .iadd, 1), (268, .putfield 104, 3), (271, .goto (-63), 3), (274, .aload_n 0, 1), (275, .aload_n 0, 1), (276, .getfield 23, 3), (279, .aload_n 0, 1), (280, .getfield 104, 3), (283, .baload, 1), (284, .bipush 59, 2), (286, .if_icmp .ne 7, 3), (289, .iconst 3, 1), (290, .goto 4, 3), (293, .iconst 4, 1), (294, .putfield 121, 3), (297, .aload_n 0, 1), (298, .dup, 1), (299, .getfield 104, 3), (302, .iconst 1, 1), (303, .iadd, 1), (304, .putfield 104, 3), (307, .return_, 1)]
theorem qX9_goesOn : ∀ q ∈ kX9_goesOn, decode mX9_goesOn.2.2.1 q.1 = .ok (q.2.1, q.2.2) ∧ am_iok mX9_goesOn.2.2.2.1 q.1 q.2.1 q.2.2 = true := by decide +kernel
set_option maxRecDepth 100000 in
theorem wX9_goesOn : Cond.code mX9_goesOn.2.1 mX9_goesOn.2.2.1 mX9_goesOn.2.2.2.1 mX9_goesOn.2.2.2.2.1 ∈ am_T := List.mem_filter.mpr ⟨List.mem_of_getElem? (i := 1501) rfl, rfl⟩
set_option maxHeartbeats 4000000 in
set_option maxRecDepth 100000 in
theorem tX9_goesOn (l : Launch) (d : Nat) {s0 : AS} {sE : AS} {rE : Unit} (hf : fX9_goesOn s0 = some (sE, rE)) : am_Ct l (d + 2) mX9_goesOn [.inr (.inr ((10, 0, 0), 215))] s0 sE none := by
  refine am_sim l (d + 1) (code := kX9_goesOn) (by decide +kernel) wX9_goesOn qX9_goesOn (Nat.le_of_ble_eq_true rfl) ?_
  intro X hX
  show X 0 [(0, .inr (.inr ((10, 0, 0), 215)))] [] s0
  unfold fX9_goesOn at hf
  refine am_jn hf (fun J43 => ∀ (s1 : AS), J43 s1 = some (sE, rE) → X 43 [(0, .inr (.inr ((10, 0, 0), 215)))] [] s1) ?_ ?_
  · intro s1 hf
    refine am_blk hX 21 4 (And.intro rfl (And.intro rfl (am_nl (Z := fun s2 => X 51 [(0, .inr (.inr ((10, 0, 0), 215)))] [] s2) hf (fun s2 hf => ?_))))
    refine am_blk hX 25 3 (And.intro rfl (am_nl (Z := fun s3 => X 56 [(0, .inr (.inr ((10, 0, 0), 215)))] [] s3) hf (fun s3 hf => ?_)))
    refine am_blk hX 28 3 (And.intro rfl (am_nl (Z := fun s4 => X 61 [(0, .inr (.inr ((10, 0, 0), 215)))] [] s4) hf (fun s4 hf => ?_)))
    refine am_jn hf (fun J307 => ∀ (s5 : AS), J307 s5 = some (sE, rE) → X 307 [] [] s5) ?_ ?_
    · intro s5 hf
      refine am_blk hX 156 1 (And.intro rfl (am_rv hf))
    · intro J307 hJ307 hf
      refine am_blk hX 31 5 (And.intro rfl (And.intro rfl (And.intro (fun hb => ?_) (fun hb => ?_))))
      · have hf := am_if hf hb
        show X 80 [(0, .inr (.inr ((10, 0, 0), 215)))] [] s4
        obtain ⟨v6, hcv6, hf⟩ := am_r_of hf
        refine am_blk hX 40 7 (And.intro rfl (And.intro rfl (And.intro rfl (Exists.intro s4 (Exists.intro (some (.inl v6)) (And.intro (tX9_isByte l (d + 0) hcv6) (And.intro (fun hb => ?_) (fun hb => ?_))))))))
        · have hf := am_it hf hb
          show X 188 [(0, .inr (.inr ((10, 0, 0), 215)))] [] s4
          obtain ⟨v7, hcv7, hf⟩ := am_r_of hf
          refine am_blk hX 94 7 (And.intro rfl (And.intro rfl (And.intro rfl (Exists.intro s4 (Exists.intro (some (.inl v7)) (And.intro (tX9_isByte l (d + 0) hcv7) (And.intro (fun hb => ?_) (fun hb => ?_))))))))
          · have hf := am_it hf hb
            show X 274 [(0, .inr (.inr ((10, 0, 0), 215)))] [] s4
            obtain ⟨g8, hf⟩ := am_g_of hf
            refine am_jn hf (fun J294 => ∀ (x9 : Int32), J294 x9 = some (sE, rE) → X 294 [(0, .inr (.inr ((10, 0, 0), 215)))] [.inl x9, .inr (.inr ((10, 0, 0), 215))] s4) ?_ ?_
            · intro x9 hf
              refine am_blk hX 149 1 (And.intro rfl (am_nl (Z := fun s10 => X 297 [(0, .inr (.inr ((10, 0, 0), 215)))] [] s10) hf (fun s10 hf => ?_)))
              refine am_blk hX 150 6 (And.intro rfl (And.intro rfl (am_nl (Z := fun s11 => X 307 [(0, .inr (.inr ((10, 0, 0), 215)))] [] s11) hf (fun s11 hf => ?_))))
              exact am_wk hX [] (hJ307 s11 hf)
            · intro J294 hJ294 hf
              refine am_blk hX 138 8 (And.intro rfl (And.intro rfl (And.intro (Or.inl rfl) (And.intro g8 (And.intro (fun hb => ?_) (fun hb => ?_))))))
              · have hf := am_if hf hb
                show X 293 [(0, .inr (.inr ((10, 0, 0), 215)))] [.inr (.inr ((10, 0, 0), 215))] s4
                refine am_blk hX 148 1 (?_)
                show X 294 [(0, .inr (.inr ((10, 0, 0), 215)))] [.inl (4 : Int32), .inr (.inr ((10, 0, 0), 215))] s4
                exact am_wk hX [0] (hJ294 (4 : Int32) hf)
              · have hf := am_it hf hb
                show X 289 [(0, .inr (.inr ((10, 0, 0), 215)))] [.inr (.inr ((10, 0, 0), 215))] s4
                refine am_blk hX 146 2 (?_)
                show X 294 [(0, .inr (.inr ((10, 0, 0), 215)))] [.inl (3 : Int32), .inr (.inr ((10, 0, 0), 215))] s4
                exact am_wk hX [0] (hJ294 (3 : Int32) hf)
          · have hf := am_if hf hb
            show X 203 [(0, .inr (.inr ((10, 0, 0), 215)))] [] s4
            refine am_blk hX 101 3 (And.intro rfl (am_nl (Z := fun s12 => X 208 [(0, .inr (.inr ((10, 0, 0), 215)))] [] s12) hf (fun s12 hf => ?_)))
            have hL208 : ∀ (n208 : Nat) (s13 : AS), fX9_goesOn_L208 J307 n208 s13 = some (sE, rE) → X 208 [(0, .inr (.inr ((10, 0, 0), 215)))] [] s13 := by
              intro n208
              induction n208 with
              | zero => intro s13 hf; exact am_no (show none = some _ from hf)
              | succ n208 ih208 =>
                intro s13 hf
                obtain ⟨v14, hcv14, hf⟩ := am_r_of hf
                refine am_blk hX 104 7 (And.intro rfl (And.intro rfl (And.intro rfl (Exists.intro s13 (Exists.intro (some (.inl v14)) (And.intro (tX9_isByte l (d + 0) hcv14) (And.intro (fun hb => ?_) (fun hb => ?_))))))))
                · have hf := am_it hf hb
                  show X 307 [(0, .inr (.inr ((10, 0, 0), 215)))] [] s13
                  exact am_wk hX [] (hJ307 s13 hf)
                · have hf := am_if hf hb
                  show X 223 [(0, .inr (.inr ((10, 0, 0), 215)))] [] s13
                  refine am_jn hf (fun J258 => ∀ (x15 : Int32), J258 x15 = some (sE, rE) → X 258 [(0, .inr (.inr ((10, 0, 0), 215)))] [.inl x15, .inr (.inr ((10, 0, 0), 215))] s13) ?_ ?_
                  · intro x15 hf
                    refine am_blk hX 130 1 (And.intro rfl (am_nl (Z := fun s16 => X 261 [(0, .inr (.inr ((10, 0, 0), 215)))] [] s16) hf (fun s16 hf => ?_)))
                    refine am_blk hX 131 6 (And.intro rfl (And.intro rfl (am_nl (Z := fun s17 => X 271 [(0, .inr (.inr ((10, 0, 0), 215)))] [] s17) hf (fun s17 hf => ?_))))
                    refine am_blk hX 137 1 (?_)
                    show X 208 [(0, .inr (.inr ((10, 0, 0), 215)))] [] s17
                    exact am_wk hX [0] (ih208 s17 hf)
                  · intro J258 hJ258 hf
                    refine am_blk hX 111 5 (And.intro rfl (And.intro (fun hb => ?_) (fun hb => ?_)))
                    · have hf := am_it hf hb
                      show X 238 [(0, .inr (.inr ((10, 0, 0), 215)))] [.inr (.inr ((10, 0, 0), 215))] s13
                      obtain ⟨g18, hf⟩ := am_g_of hf
                      refine am_blk hX 118 12 (And.intro rfl (And.intro rfl (And.intro rfl (And.intro (Or.inl rfl) (And.intro g18 (?_))))))
                      show X 258 [(0, .inr (.inr ((10, 0, 0), 215)))] [.inl ((((10 : Int32) * (s13.1 215 10)) + (s13.1 220 ((s13.1 215 7).toNatClampNeg))) - (48 : Int32)), .inr (.inr ((10, 0, 0), 215))] s13
                      exact am_wk hX [0] (hJ258 ((((10 : Int32) * (s13.1 215 10)) + (s13.1 220 ((s13.1 215 7).toNatClampNeg))) - (48 : Int32)) hf)
                    · have hf := am_if hf hb
                      show X 233 [(0, .inr (.inr ((10, 0, 0), 215)))] [.inr (.inr ((10, 0, 0), 215))] s13
                      refine am_blk hX 116 2 (?_)
                      show X 258 [(0, .inr (.inr ((10, 0, 0), 215)))] [.inl (1000000 : Int32), .inr (.inr ((10, 0, 0), 215))] s13
                      exact am_wk hX [0] (hJ258 (1000000 : Int32) hf)
            exact am_wk hX [0] (hL208 am_fu s12 hf)
        · have hf := am_if hf hb
          show X 95 [(0, .inr (.inr ((10, 0, 0), 215)))] [] s4
          refine am_blk hX 47 3 (And.intro rfl (am_nl (Z := fun s19 => X 100 [(0, .inr (.inr ((10, 0, 0), 215)))] [] s19) hf (fun s19 hf => ?_)))
          refine am_jn hf (fun J185 => ∀ (s20 : AS), J185 s20 = some (sE, rE) → X 185 [] [] s20) ?_ ?_
          · intro s20 hf
            refine am_blk hX 93 1 (?_)
            show X 307 [] [] s20
            exact am_wk hX [] (hJ307 s20 hf)
          · intro J185 hJ185 hf
            have hL102 : ∀ (n102 : Nat) (s21 : AS) (x22 : Int32), fX9_goesOn_L102 J185 n102 s21 x22 = some (sE, rE) → X 102 [(0, .inr (.inr ((10, 0, 0), 215))), (1, .inl x22)] [] s21 := by
              intro n102
              induction n102 with
              | zero => intro s21 x22 hf; exact am_no (show none = some _ from hf)
              | succ n102 ih102 =>
                intro s21 x22 hf
                obtain ⟨v23, hcv23, hf⟩ := am_r_of hf
                refine am_blk hX 52 7 (And.intro rfl (And.intro rfl (And.intro rfl (Exists.intro s21 (Exists.intro (some (.inl v23)) (And.intro (tX9_isByte l (d + 0) hcv23) (And.intro (fun hb => ?_) (fun hb => ?_))))))))
                · have hf := am_it hf hb
                  show X 185 [(0, .inr (.inr ((10, 0, 0), 215))), (1, .inl x22)] [] s21
                  exact am_wk hX [] (hJ185 s21 hf)
                · have hf := am_if hf hb
                  show X 117 [(0, .inr (.inr ((10, 0, 0), 215))), (1, .inl x22)] [] s21
                  refine am_jn hf (fun J153 => ∀ (x24 : Int64), J153 x24 = some (sE, rE) → X 153 [(0, .inr (.inr ((10, 0, 0), 215))), (1, .inl x22)] [.inr (.inl x24), .inr (.inr ((10, 0, 0), 215))] s21) ?_ ?_
                  · intro x24 hf
                    refine am_blk hX 78 1 (And.intro rfl (am_nl (Z := fun s25 => X 156 [(0, .inr (.inr ((10, 0, 0), 215))), (1, .inl x22)] [] s25) hf (fun s25 hf => ?_)))
                    refine am_jn hf (fun J169 => ∀ (s26 : AS), J169 s26 = some (sE, rE) → X 169 [(0, .inr (.inr ((10, 0, 0), 215))), (1, .inl x22)] [] s26) ?_ ?_
                    · intro s26 hf
                      refine am_blk hX 85 6 (And.intro rfl (And.intro rfl (am_nl (Z := fun s27 => X 179 [(0, .inr (.inr ((10, 0, 0), 215))), (1, .inl x22)] [] s27) hf (fun s27 hf => ?_))))
                      refine am_blk hX 91 1 (am_nl (Z := fun x28 => X 182 [(1, .inl x28), (0, .inr (.inr ((10, 0, 0), 215)))] [] s27) hf (fun x28 hf => ?_))
                      refine am_blk hX 92 1 (?_)
                      show X 102 [(1, .inl x28), (0, .inr (.inr ((10, 0, 0), 215)))] [] s27
                      exact am_wk hX [1, 0] (ih102 s27 x28 hf)
                    · intro J169 hJ169 hf
                      refine am_blk hX 79 3 (And.intro (fun hb => ?_) (fun hb => ?_))
                      · have hf := am_it hf hb
                        show X 169 [(0, .inr (.inr ((10, 0, 0), 215))), (1, .inl x22)] [] s25
                        exact am_wk hX [0, 1] (hJ169 s25 hf)
                      · have hf := am_if hf hb
                        show X 162 [(0, .inr (.inr ((10, 0, 0), 215))), (1, .inl x22)] [] s25
                        refine am_blk hX 82 3 (And.intro rfl (am_nl (Z := fun s29 => X 169 [(0, .inr (.inr ((10, 0, 0), 215))), (1, .inl x22)] [] s29) hf (fun s29 hf => ?_)))
                        exact am_wk hX [0, 1] (hJ169 s29 hf)
                  · intro J153 hJ153 hf
                    refine am_blk hX 59 4 (And.intro (fun hb => ?_) (fun hb => ?_))
                    · have hf := am_it hf hb
                      show X 130 [(0, .inr (.inr ((10, 0, 0), 215))), (1, .inl x22)] [.inr (.inr ((10, 0, 0), 215))] s21
                      obtain ⟨g30, hf⟩ := am_g_of hf
                      refine am_blk hX 65 13 (And.intro rfl (And.intro rfl (And.intro rfl (And.intro (Or.inl rfl) (And.intro g30 (?_))))))
                      show X 153 [(0, .inr (.inr ((10, 0, 0), 215))), (1, .inl x22)] [.inr (.inl ((((27 : Int64) * (s21.2 215 11)) + ((s21.1 220 ((s21.1 215 7).toNatClampNeg)).toInt64)) - (96 : Int64))), .inr (.inr ((10, 0, 0), 215))] s21
                      exact am_wk hX [0, 1] (hJ153 ((((27 : Int64) * (s21.2 215 11)) + ((s21.1 220 ((s21.1 215 7).toNatClampNeg)).toInt64)) - (96 : Int64)) hf)
                    · have hf := am_if hf hb
                      show X 124 [(0, .inr (.inr ((10, 0, 0), 215))), (1, .inl x22)] [.inr (.inr ((10, 0, 0), 215))] s21
                      refine am_blk hX 63 2 (?_)
                      show X 153 [(0, .inr (.inr ((10, 0, 0), 215))), (1, .inl x22)] [.inr (.inl (-1 : Int64)), .inr (.inr ((10, 0, 0), 215))] s21
                      exact am_wk hX [0, 1] (hJ153 (-1 : Int64) hf)
            refine am_blk hX 50 2 (?_)
            show X 102 [(1, .inl (0 : Int32)), (0, .inr (.inr ((10, 0, 0), 215)))] [] s19
            exact am_wk hX [1, 0] (hL102 am_fu s19 (0 : Int32) hf)
      · have hf := am_it hf hb
        show X 72 [(0, .inr (.inr ((10, 0, 0), 215)))] [] s4
        refine am_blk hX 36 3 (And.intro rfl (am_nl (Z := fun s31 => X 77 [(0, .inr (.inr ((10, 0, 0), 215)))] [] s31) hf (fun s31 hf => ?_)))
        refine am_blk hX 39 1 (?_)
        show X 307 [(0, .inr (.inr ((10, 0, 0), 215)))] [] s31
        exact am_wk hX [] (hJ307 s31 hf)
  · intro J43 hJ43 hf
    have hL0 : ∀ (n0 : Nat) (s32 : AS), fX9_goesOn_L0 J43 n0 s32 = some (sE, rE) → X 0 [(0, .inr (.inr ((10, 0, 0), 215)))] [] s32 := by
      intro n0
      induction n0 with
      | zero => intro s32 hf; exact am_no (show none = some _ from hf)
      | succ n0 ih0 =>
        intro s32 hf
        obtain ⟨v33, hcv33, hf⟩ := am_r_of hf
        refine am_jn hf (fun J30 => J30 = some (sE, rE) → X 30 [(0, .inr (.inr ((10, 0, 0), 215)))] [] s32) ?_ ?_
        · intro hf
          refine am_blk hX 14 6 (And.intro rfl (And.intro rfl (am_nl (Z := fun s34 => X 40 [(0, .inr (.inr ((10, 0, 0), 215)))] [] s34) hf (fun s34 hf => ?_))))
          refine am_blk hX 20 1 (?_)
          show X 0 [(0, .inr (.inr ((10, 0, 0), 215)))] [] s34
          exact am_wk hX [0] (ih0 s34 hf)
        · intro J30 hJ30 hf
          refine am_blk hX 0 7 (And.intro rfl (And.intro rfl (And.intro rfl (Exists.intro s32 (Exists.intro (some (.inl v33)) (And.intro (tX9_isByte l (d + 0) hcv33) (And.intro (fun hb => ?_) (fun hb => ?_))))))))
          · have hf := am_if hf hb
            show X 30 [(0, .inr (.inr ((10, 0, 0), 215)))] [] s32
            exact am_wk hX [0] (hJ30 hf)
          · have hf := am_it hf hb
            show X 15 [(0, .inr (.inr ((10, 0, 0), 215)))] [] s32
            obtain ⟨v35, hcv35, hf⟩ := am_r_of hf
            refine am_blk hX 7 7 (And.intro rfl (And.intro rfl (And.intro rfl (Exists.intro s32 (Exists.intro (some (.inl v35)) (And.intro (tX9_isByte l (d + 0) hcv35) (And.intro (fun hb => ?_) (fun hb => ?_))))))))
            · have hf := am_it hf hb
              show X 43 [(0, .inr (.inr ((10, 0, 0), 215)))] [] s32
              exact am_wk hX [0] (hJ43 s32 hf)
            · have hf := am_if hf hb
              show X 30 [(0, .inr (.inr ((10, 0, 0), 215)))] [] s32
              exact am_wk hX [0] (hJ30 hf)
    exact am_wk hX [0] (hL0 am_fu s0 hf)
def fX9_takes (s0 : AS) (a1 : Int64) : Option (AS × Int32) :=
  am_r (fX9_is s0 a1) (fun (v1 : Int32) => if v1 = 0 then (some (s0, (0 : Int32))) else (am_c (fX9_goesOn s0) (fun (s3 : AS) (v2 : Unit) => some (s3, (1 : Int32)))))
def kX9_takes : List (Nat × Instr × Nat) := [(0, .aload_n 0, 1), (1, .lload_n 1, 1), (2, .invokevirtual 138, 3), (5, .ifCond .ne 5, 3), (8, .iconst 0, 1), (9, .ireturn, 1), (10, .aload_n 0, 1), (11, .invokevirtual 142, 3), (14, .iconst 1, 1), (15, .ireturn, 1)]
theorem qX9_takes : ∀ q ∈ kX9_takes, decode mX9_takes.2.2.1 q.1 = .ok (q.2.1, q.2.2) ∧ am_iok mX9_takes.2.2.2.1 q.1 q.2.1 q.2.2 = true := by decide +kernel
set_option maxRecDepth 100000 in
theorem wX9_takes : Cond.code mX9_takes.2.1 mX9_takes.2.2.1 mX9_takes.2.2.2.1 mX9_takes.2.2.2.2.1 ∈ am_T := List.mem_filter.mpr ⟨List.mem_of_getElem? (i := 1527) rfl, rfl⟩
set_option maxHeartbeats 4000000 in
set_option maxRecDepth 100000 in
theorem tX9_takes (l : Launch) (d : Nat) {s0 : AS} {a1 : Int64} {sE : AS} {rE : Int32} (hf : fX9_takes s0 a1 = some (sE, rE)) : am_Ct l (d + 3) mX9_takes [.inr (.inr ((10, 0, 0), 215)), .inr (.inl a1)] s0 sE (some (.inl rE)) := by
  refine am_sim l (d + 2) (code := kX9_takes) (by decide +kernel) wX9_takes qX9_takes (Nat.le_of_ble_eq_true rfl) ?_
  intro X hX
  show X 0 [(0, .inr (.inr ((10, 0, 0), 215))), (1, .inr (.inl a1))] [] s0
  unfold fX9_takes at hf
  obtain ⟨v1, hcv1, hf⟩ := am_r_of hf
  refine am_blk hX 0 4 (And.intro rfl (And.intro rfl (Exists.intro s0 (Exists.intro (some (.inl v1)) (And.intro (tX9_is l (d + 1) hcv1) (And.intro (fun hb => ?_) (fun hb => ?_)))))))
  · have hf := am_if hf hb
    show X 10 [(0, .inr (.inr ((10, 0, 0), 215))), (1, .inr (.inl a1))] [] s0
    obtain ⟨s3, v2, hcv2, hf⟩ := am_c_of hf
    refine am_blk hX 6 4 (And.intro rfl (And.intro rfl (Exists.intro s3 (Exists.intro none (And.intro (tX9_goesOn l (d + 0) hcv2) (And.intro (Or.inr rfl) (am_ri hf)))))))
  · have hf := am_it hf hb
    show X 8 [(0, .inr (.inr ((10, 0, 0), 215))), (1, .inr (.inl a1))] [] s0
    refine am_blk hX 4 2 (And.intro (Or.inl rfl) (am_ri hf))
def fX9_fails (s0 : AS) (a1 : Int32) : Option (AS × Unit) :=
  if (s0.1 215 12) = 0 then (am_let (am_si s0 215 12 a1) (fun (s1 : AS) => am_let (am_si s1 215 13 (s1.1 215 9)) (fun (s2 : AS) => some (s2, ())))) else (some (s0, ()))
def kX9_fails : List (Nat × Instr × Nat) := [(0, .aload_n 0, 1), (1, .getfield 132, 3), (4, .ifCond .eq 4, 3), (7, .return_, 1), (8, .aload_n 0, 1), (9, .iload_n 1, 1), (10, .putfield 132, 3), (13, .aload_n 0, 1), (14, .aload_n 0, 1), (15, .getfield 111, 3), (18, .putfield 135, 3), (21, .return_, 1)]
theorem qX9_fails : ∀ q ∈ kX9_fails, decode mX9_fails.2.2.1 q.1 = .ok (q.2.1, q.2.2) ∧ am_iok mX9_fails.2.2.2.1 q.1 q.2.1 q.2.2 = true := by decide +kernel
set_option maxRecDepth 100000 in
theorem wX9_fails : Cond.code mX9_fails.2.1 mX9_fails.2.2.1 mX9_fails.2.2.2.1 mX9_fails.2.2.2.2.1 ∈ am_T := List.mem_filter.mpr ⟨List.mem_of_getElem? (i := 1535) rfl, rfl⟩
set_option maxHeartbeats 4000000 in
set_option maxRecDepth 100000 in
theorem tX9_fails (l : Launch) (d : Nat) {s0 : AS} {a1 : Int32} {sE : AS} {rE : Unit} (hf : fX9_fails s0 a1 = some (sE, rE)) : am_Ct l (d + 1) mX9_fails [.inr (.inr ((10, 0, 0), 215)), .inl a1] s0 sE none := by
  refine am_sim l (d + 0) (code := kX9_fails) (by decide +kernel) wX9_fails qX9_fails (Nat.le_of_ble_eq_true rfl) ?_
  intro X hX
  show X 0 [(0, .inr (.inr ((10, 0, 0), 215))), (1, .inl a1)] [] s0
  unfold fX9_fails at hf
  refine am_blk hX 0 3 (And.intro rfl (And.intro (fun hb => ?_) (fun hb => ?_)))
  · have hf := am_it hf hb
    show X 8 [(0, .inr (.inr ((10, 0, 0), 215))), (1, .inl a1)] [] s0
    refine am_blk hX 4 3 (And.intro rfl (am_nl (Z := fun s1 => X 13 [(0, .inr (.inr ((10, 0, 0), 215))), (1, .inl a1)] [] s1) hf (fun s1 hf => ?_)))
    refine am_blk hX 7 4 (And.intro rfl (And.intro rfl (am_nl (Z := fun s2 => X 21 [(0, .inr (.inr ((10, 0, 0), 215))), (1, .inl a1)] [] s2) hf (fun s2 hf => ?_))))
    refine am_blk hX 11 1 (And.intro rfl (am_rv hf))
  · have hf := am_if hf hb
    show X 7 [(0, .inr (.inr ((10, 0, 0), 215))), (1, .inl a1)] [] s0
    refine am_blk hX 3 1 (And.intro rfl (am_rv hf))
def fX9_asks (s0 : AS) (a1 : Int64) : Option (AS × Unit) :=
  am_c (fX9_takes s0 a1) (fun (s2 : AS) (v1 : Int32) => am_let (fun (s3 : AS) => some (s3, ())) (fun J13 => if v1 = 0 then (am_c (fX9_fails s2 (1 : Int32)) (fun (s5 : AS) (v4 : Unit) => J13 s5)) else (J13 s2)))
def kX9_asks : List (Nat × Instr × Nat) := [(0, .aload_n 0, 1), (1, .lload_n 1, 1), (2, .invokevirtual 145, 3), (5, .ifCond .ne 8, 3), (8, .aload_n 0, 1), (9, .iconst 1, 1), (10, .invokevirtual 148, 3), (13, .return_, 1)]
theorem qX9_asks : ∀ q ∈ kX9_asks, decode mX9_asks.2.2.1 q.1 = .ok (q.2.1, q.2.2) ∧ am_iok mX9_asks.2.2.2.1 q.1 q.2.1 q.2.2 = true := by decide +kernel
set_option maxRecDepth 100000 in
theorem wX9_asks : Cond.code mX9_asks.2.1 mX9_asks.2.2.1 mX9_asks.2.2.2.1 mX9_asks.2.2.2.2.1 ∈ am_T := List.mem_filter.mpr ⟨List.mem_of_getElem? (i := 1523) rfl, rfl⟩
set_option maxHeartbeats 4000000 in
set_option maxRecDepth 100000 in
theorem tX9_asks (l : Launch) (d : Nat) {s0 : AS} {a1 : Int64} {sE : AS} {rE : Unit} (hf : fX9_asks s0 a1 = some (sE, rE)) : am_Ct l (d + 4) mX9_asks [.inr (.inr ((10, 0, 0), 215)), .inr (.inl a1)] s0 sE none := by
  refine am_sim l (d + 3) (code := kX9_asks) (by decide +kernel) wX9_asks qX9_asks (Nat.le_of_ble_eq_true rfl) ?_
  intro X hX
  show X 0 [(0, .inr (.inr ((10, 0, 0), 215))), (1, .inr (.inl a1))] [] s0
  unfold fX9_asks at hf
  obtain ⟨s2, v1, hcv1, hf⟩ := am_c_of hf
  refine am_jn hf (fun J13 => ∀ (s3 : AS), J13 s3 = some (sE, rE) → X 13 [] [] s3) ?_ ?_
  · intro s3 hf
    refine am_blk hX 7 1 (And.intro rfl (am_rv hf))
  · intro J13 hJ13 hf
    refine am_blk hX 0 4 (And.intro rfl (And.intro rfl (Exists.intro s2 (Exists.intro (some (.inl v1)) (And.intro (tX9_takes l (d + 0) hcv1) (And.intro (fun hb => ?_) (fun hb => ?_)))))))
    · have hf := am_if hf hb
      show X 13 [(0, .inr (.inr ((10, 0, 0), 215))), (1, .inr (.inl a1))] [] s2
      exact am_wk hX [] (hJ13 s2 hf)
    · have hf := am_it hf hb
      show X 8 [(0, .inr (.inr ((10, 0, 0), 215))), (1, .inr (.inl a1))] [] s2
      obtain ⟨s5, v4, hcv4, hf⟩ := am_c_of hf
      refine am_blk hX 4 3 (And.intro rfl (And.intro rfl (Exists.intro s5 (Exists.intro none (And.intro (tX9_fails l (d + 2) hcv4) (?_))))))
      show X 13 [(0, .inr (.inr ((10, 0, 0), 215))), (1, .inr (.inl a1))] [] s5
      exact am_wk hX [] (hJ13 s5 hf)
def fX9_isStep (s0 : AS) (a1 : Int32) : Option Int32 :=
  am_r (fX9_isMarch s0) (fun (v1 : Int32) => am_let (fun (x2 : Int32) => am_g (x2 = 0 ∨ x2 = 1) (some x2)) (fun J24 => am_let (J24 (0 : Int32)) (fun J23 => if v1 = 0 then (J23) else (am_r (fX9_in a1.toInt64 (0 : Int64) (60 : Int64)) (fun (v4 : Int32) => if v4 = 0 then (J23) else (J24 (1 : Int32)))))))
def kX9_isStep : List (Nat × Instr × Nat) := [(0, .aload_n 0, 1), (1, .invokevirtual 251, 3), (4, .ifCond .eq 19, 3), (7, .iload_n 1, 1), (8, .i2l, 1), (9, .lconst 0, 1), (10, .ldc2_w 254, 3), (13, .invokestatic 85, 3), (16, .ifCond .eq 7, 3), (19, .iconst 1, 1), (20, .goto 4, 3), (23, .iconst 0, 1), (24, .ireturn, 1)]
theorem qX9_isStep : ∀ q ∈ kX9_isStep, decode mX9_isStep.2.2.1 q.1 = .ok (q.2.1, q.2.2) ∧ am_iok mX9_isStep.2.2.2.1 q.1 q.2.1 q.2.2 = true := by decide +kernel
set_option maxRecDepth 100000 in
theorem wX9_isStep : Cond.code mX9_isStep.2.1 mX9_isStep.2.2.1 mX9_isStep.2.2.2.1 mX9_isStep.2.2.2.2.1 ∈ am_T := List.mem_filter.mpr ⟨List.mem_of_getElem? (i := 1658) rfl, rfl⟩
set_option maxHeartbeats 4000000 in
set_option maxRecDepth 100000 in
theorem tX9_isStep (l : Launch) (d : Nat) {s0 : AS} {a1 : Int32} {rE : Int32} (hf : fX9_isStep s0 a1 = some rE) : am_Ct l (d + 2) mX9_isStep [.inr (.inr ((10, 0, 0), 215)), .inl a1] s0 s0 (some (.inl rE)) := by
  refine am_sim l (d + 1) (code := kX9_isStep) (by decide +kernel) wX9_isStep qX9_isStep (Nat.le_of_ble_eq_true rfl) ?_
  intro X hX
  show X 0 [(0, .inr (.inr ((10, 0, 0), 215))), (1, .inl a1)] [] s0
  unfold fX9_isStep at hf
  obtain ⟨v1, hcv1, hf⟩ := am_r_of hf
  refine am_jn hf (fun J24 => ∀ (x2 : Int32), J24 x2 = some rE → X 24 [] [.inl x2] s0) ?_ ?_
  · intro x2 hf
    obtain ⟨g3, hf⟩ := am_g_of hf
    refine am_blk hX 12 1 (And.intro g3 (am_rpi hf))
  · intro J24 hJ24 hf
    refine am_jn hf (fun J23 => J23 = some rE → X 23 [] [] s0) ?_ ?_
    · intro hf
      refine am_blk hX 11 1 (?_)
      show X 24 [] [.inl (0 : Int32)] s0
      exact am_wk hX [] (hJ24 (0 : Int32) hf)
    · intro J23 hJ23 hf
      refine am_blk hX 0 3 (And.intro rfl (And.intro rfl (Exists.intro s0 (Exists.intro (some (.inl v1)) (And.intro (tX9_isMarch l (d + 0) hcv1) (And.intro (fun hb => ?_) (fun hb => ?_)))))))
      · have hf := am_it hf hb
        show X 23 [(0, .inr (.inr ((10, 0, 0), 215))), (1, .inl a1)] [] s0
        exact am_wk hX [] (hJ23 hf)
      · have hf := am_if hf hb
        show X 7 [(0, .inr (.inr ((10, 0, 0), 215))), (1, .inl a1)] [] s0
        obtain ⟨v4, hcv4, hf⟩ := am_r_of hf
        refine am_blk hX 3 6 (And.intro rfl (Exists.intro s0 (Exists.intro (some (.inl v4)) (And.intro (tX9_in l (d + 0) hcv4) (And.intro (fun hb => ?_) (fun hb => ?_))))))
        · have hf := am_it hf hb
          show X 23 [(0, .inr (.inr ((10, 0, 0), 215))), (1, .inl a1)] [] s0
          exact am_wk hX [] (hJ23 hf)
        · have hf := am_if hf hb
          show X 19 [(0, .inr (.inr ((10, 0, 0), 215))), (1, .inl a1)] [] s0
          refine am_blk hX 9 2 (?_)
          show X 24 [(0, .inr (.inr ((10, 0, 0), 215))), (1, .inl a1)] [.inl (1 : Int32)] s0
          exact am_wk hX [] (hJ24 (1 : Int32) hf)
def fX9_laysNow (s0 : AS) : Option (AS × Unit) :=
  am_c (fX9_lays s0) (fun (s2 : AS) (v1 : Unit) => am_c (fX9_runs s2) (fun (s4 : AS) (v3 : Unit) => some (s4, ())))
def kX9_laysNow : List (Nat × Instr × Nat) := [(0, .aload_n 0, 1), (1, .invokevirtual 336, 3), (4, .aload_n 0, 1), (5, .invokevirtual 339, 3), (8, .return_, 1)]
theorem qX9_laysNow : ∀ q ∈ kX9_laysNow, decode mX9_laysNow.2.2.1 q.1 = .ok (q.2.1, q.2.2) ∧ am_iok mX9_laysNow.2.2.2.1 q.1 q.2.1 q.2.2 = true := by decide +kernel
set_option maxRecDepth 100000 in
theorem wX9_laysNow : Cond.code mX9_laysNow.2.1 mX9_laysNow.2.2.1 mX9_laysNow.2.2.2.1 mX9_laysNow.2.2.2.2.1 ∈ am_T := List.mem_filter.mpr ⟨List.mem_of_getElem? (i := 1667) rfl, rfl⟩
set_option maxHeartbeats 4000000 in
set_option maxRecDepth 100000 in
theorem tX9_laysNow (l : Launch) (d : Nat) {s0 : AS} {sE : AS} {rE : Unit} (hf : fX9_laysNow s0 = some (sE, rE)) : am_Ct l (d + 5) mX9_laysNow [.inr (.inr ((10, 0, 0), 215))] s0 sE none := by
  refine am_sim l (d + 4) (code := kX9_laysNow) (by decide +kernel) wX9_laysNow qX9_laysNow (Nat.le_of_ble_eq_true rfl) ?_
  intro X hX
  show X 0 [(0, .inr (.inr ((10, 0, 0), 215)))] [] s0
  unfold fX9_laysNow at hf
  obtain ⟨s2, v1, hcv1, hf⟩ := am_c_of hf
  obtain ⟨s4, v3, hcv3, hf⟩ := am_c_of hf
  refine am_blk hX 0 5 (And.intro rfl (And.intro rfl (Exists.intro s2 (Exists.intro none (And.intro (tX9_lays l (d + 3) hcv1) (And.intro rfl (And.intro rfl (Exists.intro s4 (Exists.intro none (And.intro (tX9_runs l (d + 0) hcv3) (And.intro rfl (am_rv hf))))))))))))
def fX9_at (s0 : AS) (a1 : Int32) : Option (AS × Int32) :=
  am_let (am_si s0 215 0 (0 : Int32)) (fun (s1 : AS) => am_r (fX9_isStep s1 a1) (fun (v2 : Int32) => if v2 = 0 then (some (s1, (-2 : Int32))) else (am_c (fX9_laysNow s1) (fun (s4 : AS) (v3 : Unit) => am_g (¬ (a1 < 0 ∨ 61 ≤ a1.toNatClampNeg)) (some (s4, s4.1 229 a1.toNatClampNeg))))))
def kX9_at : List (Nat × Instr × Nat) := [(0, .aload_n 0, 1), (1, .iconst 0, 1), (2, .putfield 80, 3), (5, .aload_n 0, 1), (6, .iload_n 1, 1), (7, .invokevirtual 355, 3), (10, .ifCond .ne 6, 3), (13, .bipush (-2), 2), (15, .ireturn, 1), (16, .aload_n 0, 1), (17, .invokevirtual 358, 3), (20, .aload_n 0, 1), (21, .getfield 56, 3), (24, .iload_n 1, 1), (25, .iaload, 1), (26, .ireturn, 1)]
theorem qX9_at : ∀ q ∈ kX9_at, decode mX9_at.2.2.1 q.1 = .ok (q.2.1, q.2.2) ∧ am_iok mX9_at.2.2.2.1 q.1 q.2.1 q.2.2 = true := by decide +kernel
set_option maxRecDepth 100000 in
theorem wX9_at : Cond.code mX9_at.2.1 mX9_at.2.2.1 mX9_at.2.2.2.1 mX9_at.2.2.2.2.1 ∈ am_T := List.mem_filter.mpr ⟨List.mem_of_getElem? (i := 1654) rfl, rfl⟩
set_option maxHeartbeats 4000000 in
set_option maxRecDepth 100000 in
theorem tX9_at (l : Launch) (d : Nat) {s0 : AS} {a1 : Int32} {sE : AS} {rE : Int32} (hf : fX9_at s0 a1 = some (sE, rE)) : am_Ct l (d + 6) mX9_at [.inr (.inr ((10, 0, 0), 215)), .inl a1] s0 sE (some (.inl rE)) := by
  refine am_sim l (d + 5) (code := kX9_at) (by decide +kernel) wX9_at qX9_at (Nat.le_of_ble_eq_true rfl) ?_
  intro X hX
  show X 0 [(0, .inr (.inr ((10, 0, 0), 215))), (1, .inl a1)] [] s0
  unfold fX9_at at hf
  refine am_blk hX 0 3 (And.intro rfl (am_nl (Z := fun s1 => X 5 [(0, .inr (.inr ((10, 0, 0), 215))), (1, .inl a1)] [] s1) hf (fun s1 hf => ?_)))
  obtain ⟨v2, hcv2, hf⟩ := am_r_of hf
  refine am_blk hX 3 4 (And.intro rfl (And.intro rfl (Exists.intro s1 (Exists.intro (some (.inl v2)) (And.intro (tX9_isStep l (d + 3) hcv2) (And.intro (fun hb => ?_) (fun hb => ?_)))))))
  · have hf := am_if hf hb
    show X 16 [(0, .inr (.inr ((10, 0, 0), 215))), (1, .inl a1)] [] s1
    obtain ⟨s4, v3, hcv3, hf⟩ := am_c_of hf
    obtain ⟨g5, hf⟩ := am_g_of hf
    refine am_blk hX 9 7 (And.intro rfl (And.intro rfl (Exists.intro s4 (Exists.intro none (And.intro (tX9_laysNow l (d + 0) hcv3) (And.intro rfl (And.intro rfl (And.intro g5 (am_ri hf)))))))))
  · have hf := am_it hf hb
    show X 13 [(0, .inr (.inr ((10, 0, 0), 215))), (1, .inl a1)] [] s1
    refine am_blk hX 7 2 (am_ri hf)
def fX9_copyRow_L3 (o0 : Nat) (n0 : Nat) (a1 : Int32) (a2 : Int32) (a3 : Int32) : Nat → AS → Int32 → Option (AS × Unit)
  | 0, _, _ => none
  | n3 + 1, s1, x2 =>
    if a1 ≤ x2 then (some (s1, ())) else (am_g (¬ (((a1 * a2) + x2) < 0 ∨ n0 ≤ ((a1 * a2) + x2).toNatClampNeg)) (am_g (¬ (((a1 * a3) + x2) < 0 ∨ n0 ≤ ((a1 * a3) + x2).toNatClampNeg)) (am_let (am_si s1 o0 (((a1 * a3) + x2).toNatClampNeg) (s1.1 o0 (((a1 * a2) + x2).toNatClampNeg))) (fun (s5 : AS) => am_let (x2 + (1 : Int32)) (fun (x6 : Int32) => fX9_copyRow_L3 o0 n0 a1 a2 a3 n3 s5 x6)))))
def fX9_copyRow (s0 : AS) (o0 : Nat) (n0 : Nat) (a1 : Int32) (a2 : Int32) (a3 : Int32) : Option (AS × Unit) :=
  fX9_copyRow_L3 o0 n0 a1 a2 a3 am_fu s0 (0 : Int32)
def kX9_copyRow : List (Nat × Instr × Nat) := [(0, .iconst 0, 1), (1, .istore 4, 2), (3, .iload 4, 2), (5, .iload_n 1, 1), (6, .if_icmp .ge 25, 3), (9, .aload_n 0, 1), (10, .iload_n 1, 1), (11, .iload_n 3, 1), (12, .imul, 1), (13, .iload 4, 2), (15, .iadd, 1), (16, .aload_n 0, 1), (17, .iload_n 1, 1), (18, .iload_n 2, 1), (19, .imul, 1), (20, .iload 4, 2), (22, .iadd, 1), (23, .iaload, 1), (24, .iastore, 1), (25, .iinc 4 1, 3), (28, .goto (-25), 3), (31, .return_, 1)]
theorem qX9_copyRow : ∀ q ∈ kX9_copyRow, decode mX9_copyRow.2.2.1 q.1 = .ok (q.2.1, q.2.2) ∧ am_iok mX9_copyRow.2.2.2.1 q.1 q.2.1 q.2.2 = true := by decide +kernel
set_option maxRecDepth 100000 in
theorem wX9_copyRow : Cond.code mX9_copyRow.2.1 mX9_copyRow.2.2.1 mX9_copyRow.2.2.2.1 mX9_copyRow.2.2.2.2.1 ∈ am_T := List.mem_filter.mpr ⟨List.mem_of_getElem? (i := 1597) rfl, rfl⟩
set_option maxHeartbeats 4000000 in
set_option maxRecDepth 100000 in
theorem tX9_copyRow (l : Launch) (d : Nat) {s0 : AS} {o0 : Nat} {n0 : Nat} {a1 : Int32} {a2 : Int32} {a3 : Int32} {sE : AS} {rE : Unit} (hf : fX9_copyRow s0 o0 n0 a1 a2 a3 = some (sE, rE)) : am_Ct l (d + 1) mX9_copyRow [.inr (.inr ((21, n0, 0), o0)), .inl a1, .inl a2, .inl a3] s0 sE none := by
  refine am_sim l (d + 0) (code := kX9_copyRow) (by decide +kernel) wX9_copyRow qX9_copyRow (Nat.le_of_ble_eq_true rfl) ?_
  intro X hX
  show X 0 [(0, .inr (.inr ((21, n0, 0), o0))), (1, .inl a1), (2, .inl a2), (3, .inl a3)] [] s0
  unfold fX9_copyRow at hf
  have hL3 : ∀ (n3 : Nat) (s1 : AS) (x2 : Int32), fX9_copyRow_L3 o0 n0 a1 a2 a3 n3 s1 x2 = some (sE, rE) → X 3 [(0, .inr (.inr ((21, n0, 0), o0))), (1, .inl a1), (2, .inl a2), (3, .inl a3), (4, .inl x2)] [] s1 := by
    intro n3
    induction n3 with
    | zero => intro s1 x2 hf; exact am_no (show none = some _ from hf)
    | succ n3 ih3 =>
      intro s1 x2 hf
      refine am_blk hX 2 3 (And.intro (fun hb => ?_) (fun hb => ?_))
      · have hf := am_it hf hb
        show X 31 [(0, .inr (.inr ((21, n0, 0), o0))), (1, .inl a1), (2, .inl a2), (3, .inl a3), (4, .inl x2)] [] s1
        refine am_blk hX 21 1 (And.intro rfl (am_rv hf))
      · have hf := am_if hf hb
        show X 9 [(0, .inr (.inr ((21, n0, 0), o0))), (1, .inl a1), (2, .inl a2), (3, .inl a3), (4, .inl x2)] [] s1
        obtain ⟨g3, hf⟩ := am_g_of hf
        obtain ⟨g4, hf⟩ := am_g_of hf
        refine am_blk hX 5 14 (And.intro rfl (And.intro g3 (And.intro rfl (And.intro g4 (am_nl (Z := fun s5 => X 25 [(0, .inr (.inr ((21, n0, 0), o0))), (1, .inl a1), (2, .inl a2), (3, .inl a3), (4, .inl x2)] [] s5) hf (fun s5 hf => ?_))))))
        refine am_blk hX 19 1 (am_nl (Z := fun x6 => X 28 [(4, .inl x6), (0, .inr (.inr ((21, n0, 0), o0))), (1, .inl a1), (2, .inl a2), (3, .inl a3)] [] s5) hf (fun x6 hf => ?_))
        refine am_blk hX 20 1 (?_)
        show X 3 [(4, .inl x6), (0, .inr (.inr ((21, n0, 0), o0))), (1, .inl a1), (2, .inl a2), (3, .inl a3)] [] s5
        exact am_wk hX [1, 2, 3, 4, 0] (ih3 s5 x6 hf)
  refine am_blk hX 0 2 (?_)
  show X 3 [(4, .inl (0 : Int32)), (0, .inr (.inr ((21, n0, 0), o0))), (1, .inl a1), (2, .inl a2), (3, .inl a3)] [] s0
  exact am_wk hX [1, 2, 3, 4, 0] (hL3 am_fu s0 (0 : Int32) hf)
def fX9_copyMarch (s0 : AS) (a1 : Int32) (a2 : Int32) : Option (AS × Unit) :=
  am_c (fX9_copyRow s0 221 5 (1 : Int32) a1 a2) (fun (s2 : AS) (v1 : Unit) => am_c (fX9_copyRow s2 222 35 (7 : Int32) a1 a2) (fun (s4 : AS) (v3 : Unit) => am_c (fX9_copyRow s4 223 150 (30 : Int32) a1 a2) (fun (s6 : AS) (v5 : Unit) => am_c (fX9_copyRow s6 224 200 (40 : Int32) a1 a2) (fun (s8 : AS) (v7 : Unit) => am_c (fX9_copyRow s8 225 30 (6 : Int32) a1 a2) (fun (s10 : AS) (v9 : Unit) => am_c (fX9_copyRow s10 226 600 (120 : Int32) a1 a2) (fun (s12 : AS) (v11 : Unit) => some (s12, ())))))))
def kX9_copyMarch : List (Nat × Instr × Nat) := [(0, .aload_n 0, 1), (1, .getfield 31, 3), (4, .iconst 1, 1), (5, .iload_n 1, 1), (6, .iload_n 2, 1), (7, .invokestatic 244, 3), (10, .aload_n 0, 1), (11, .getfield 34, 3), (14, .bipush 7, 2), (16, .iload_n 1, 1), (17, .iload_n 2, 1), (18, .invokestatic 244, 3), (21, .aload_n 0, 1), (22, .getfield 37, 3), (25, .bipush 30, 2), (27, .iload_n 1, 1), (28, .iload_n 2, 1), (29, .invokestatic 244, 3), (32, .aload_n 0, 1), (33, .getfield 40, 3), (36, .bipush 40, 2), (38, .iload_n 1, 1), (39, .iload_n 2, 1), (40, .invokestatic 244, 3), (43, .aload_n 0, 1), (44, .getfield 43, 3), (47, .bipush 6, 2), (49, .iload_n 1, 1), (50, .iload_n 2, 1), (51, .invokestatic 244, 3), (54, .aload_n 0, 1), (55, .getfield 46, 3), (58, .bipush 120, 2), (60, .iload_n 1, 1), (61, .iload_n 2, 1), (62, .invokestatic 244, 3), (65, .return_, 1)]
theorem qX9_copyMarch : ∀ q ∈ kX9_copyMarch, decode mX9_copyMarch.2.2.1 q.1 = .ok (q.2.1, q.2.2) ∧ am_iok mX9_copyMarch.2.2.2.1 q.1 q.2.1 q.2.2 = true := by decide +kernel
set_option maxRecDepth 100000 in
theorem wX9_copyMarch : Cond.code mX9_copyMarch.2.1 mX9_copyMarch.2.2.1 mX9_copyMarch.2.2.2.1 mX9_copyMarch.2.2.2.2.1 ∈ am_T := List.mem_filter.mpr ⟨List.mem_of_getElem? (i := 1594) rfl, rfl⟩
set_option maxHeartbeats 4000000 in
set_option maxRecDepth 100000 in
theorem tX9_copyMarch (l : Launch) (d : Nat) {s0 : AS} {a1 : Int32} {a2 : Int32} {sE : AS} {rE : Unit} (hf : fX9_copyMarch s0 a1 a2 = some (sE, rE)) : am_Ct l (d + 2) mX9_copyMarch [.inr (.inr ((10, 0, 0), 215)), .inl a1, .inl a2] s0 sE none := by
  refine am_sim l (d + 1) (code := kX9_copyMarch) (by decide +kernel) wX9_copyMarch qX9_copyMarch (Nat.le_of_ble_eq_true rfl) ?_
  intro X hX
  show X 0 [(0, .inr (.inr ((10, 0, 0), 215))), (1, .inl a1), (2, .inl a2)] [] s0
  unfold fX9_copyMarch at hf
  obtain ⟨s2, v1, hcv1, hf⟩ := am_c_of hf
  obtain ⟨s4, v3, hcv3, hf⟩ := am_c_of hf
  obtain ⟨s6, v5, hcv5, hf⟩ := am_c_of hf
  obtain ⟨s8, v7, hcv7, hf⟩ := am_c_of hf
  obtain ⟨s10, v9, hcv9, hf⟩ := am_c_of hf
  obtain ⟨s12, v11, hcv11, hf⟩ := am_c_of hf
  refine am_blk hX 0 37 (And.intro rfl (And.intro rfl (Exists.intro s2 (Exists.intro none (And.intro (tX9_copyRow l (d + 0) hcv1) (And.intro rfl (And.intro rfl (Exists.intro s4 (Exists.intro none (And.intro (tX9_copyRow l (d + 0) hcv3) (And.intro rfl (And.intro rfl (Exists.intro s6 (Exists.intro none (And.intro (tX9_copyRow l (d + 0) hcv5) (And.intro rfl (And.intro rfl (Exists.intro s8 (Exists.intro none (And.intro (tX9_copyRow l (d + 0) hcv7) (And.intro rfl (And.intro rfl (Exists.intro s10 (Exists.intro none (And.intro (tX9_copyRow l (d + 0) hcv9) (And.intro rfl (And.intro rfl (Exists.intro s12 (Exists.intro none (And.intro (tX9_copyRow l (d + 0) hcv11) (And.intro rfl (am_rv hf))))))))))))))))))))))))))))))))
def fX9_back (s0 : AS) (a1 : Int32) : Option (AS × Int32) :=
  am_let (am_si s0 215 0 (0 : Int32)) (fun (s1 : AS) => am_r (fX9_in a1.toInt64 (0 : Int64) (2 : Int64)) (fun (v2 : Int32) => if v2 = 0 then (some (s1, (-2 : Int32))) else (am_g (¬ (a1 < 0 ∨ 3 ≤ a1.toNatClampNeg)) (if (s1.1 227 a1.toNatClampNeg) = 0 then (some (s1, (-6 : Int32))) else (am_c (fX9_copyMarch s1 ((1 : Int32) + a1) (0 : Int32)) (fun (s5 : AS) (v4 : Unit) => some (s5, (0 : Int32))))))))
def kX9_back : List (Nat × Instr × Nat) := [(0, .aload_n 0, 1), (1, .iconst 0, 1), (2, .putfield 80, 3), (5, .iload_n 1, 1), (6, .i2l, 1), (7, .lconst 0, 1), (8, .ldc2_w 342, 3), (11, .invokestatic 85, 3), (14, .ifCond .ne 6, 3), (17, .bipush (-2), 2), (19, .ireturn, 1), (20, .aload_n 0, 1), (21, .getfield 49, 3), (24, .iload_n 1, 1), (25, .baload, 1), (26, .ifCond .ne 6, 3), (29, .bipush (-6), 2), (31, .ireturn, 1), (32, .aload_n 0, 1), (33, .iconst 1, 1), (34, .iload_n 1, 1), (35, .iadd, 1), (36, .iconst 0, 1), (37, .invokevirtual 241, 3), (40, .iconst 0, 1), (41, .ireturn, 1)]
theorem qX9_back : ∀ q ∈ kX9_back, decode mX9_back.2.2.1 q.1 = .ok (q.2.1, q.2.2) ∧ am_iok mX9_back.2.2.2.1 q.1 q.2.1 q.2.2 = true := by decide +kernel
set_option maxRecDepth 100000 in
theorem wX9_back : Cond.code mX9_back.2.1 mX9_back.2.2.1 mX9_back.2.2.2.1 mX9_back.2.2.2.2.1 ∈ am_T := List.mem_filter.mpr ⟨List.mem_of_getElem? (i := 2021) rfl, rfl⟩
set_option maxHeartbeats 4000000 in
set_option maxRecDepth 100000 in
theorem tX9_back (l : Launch) (d : Nat) {s0 : AS} {a1 : Int32} {sE : AS} {rE : Int32} (hf : fX9_back s0 a1 = some (sE, rE)) : am_Ct l (d + 3) mX9_back [.inr (.inr ((10, 0, 0), 215)), .inl a1] s0 sE (some (.inl rE)) := by
  refine am_sim l (d + 2) (code := kX9_back) (by decide +kernel) wX9_back qX9_back (Nat.le_of_ble_eq_true rfl) ?_
  intro X hX
  show X 0 [(0, .inr (.inr ((10, 0, 0), 215))), (1, .inl a1)] [] s0
  unfold fX9_back at hf
  refine am_blk hX 0 3 (And.intro rfl (am_nl (Z := fun s1 => X 5 [(0, .inr (.inr ((10, 0, 0), 215))), (1, .inl a1)] [] s1) hf (fun s1 hf => ?_)))
  obtain ⟨v2, hcv2, hf⟩ := am_r_of hf
  refine am_blk hX 3 6 (And.intro rfl (Exists.intro s1 (Exists.intro (some (.inl v2)) (And.intro (tX9_in l (d + 1) hcv2) (And.intro (fun hb => ?_) (fun hb => ?_))))))
  · have hf := am_if hf hb
    show X 20 [(0, .inr (.inr ((10, 0, 0), 215))), (1, .inl a1)] [] s1
    obtain ⟨g3, hf⟩ := am_g_of hf
    refine am_blk hX 11 5 (And.intro rfl (And.intro (Or.inr rfl) (And.intro g3 (And.intro (fun hb => ?_) (fun hb => ?_)))))
    · have hf := am_if hf hb
      show X 32 [(0, .inr (.inr ((10, 0, 0), 215))), (1, .inl a1)] [] s1
      obtain ⟨s5, v4, hcv4, hf⟩ := am_c_of hf
      refine am_blk hX 18 8 (And.intro rfl (And.intro rfl (Exists.intro s5 (Exists.intro none (And.intro (tX9_copyMarch l (d + 0) hcv4) (am_ri hf))))))
    · have hf := am_it hf hb
      show X 29 [(0, .inr (.inr ((10, 0, 0), 215))), (1, .inl a1)] [] s1
      refine am_blk hX 16 2 (am_ri hf)
  · have hf := am_it hf hb
    show X 17 [(0, .inr (.inr ((10, 0, 0), 215))), (1, .inl a1)] [] s1
    refine am_blk hX 9 2 (am_ri hf)
def fX9_bar (s0 : AS) (a1 : Int32) (a2 : Int32) : Option (AS × Int32) :=
  am_let (am_si s0 215 0 (0 : Int32)) (fun (s1 : AS) => am_g (¬ ((4 : Int32) < 0 ∨ 35 ≤ (4 : Int32).toNatClampNeg)) (am_r (fX9_in a1.toInt64 (0 : Int64) (((s1.1 222 ((4 : Int32).toNatClampNeg)) - (1 : Int32)).toInt64)) (fun (v3 : Int32) => am_let (some (s1, (-2 : Int32))) (fun J30 => if v3 = 0 then (J30) else (am_r (fX9_isHalf a2) (fun (v4 : Int32) => if v4 = 0 then (J30) else (am_g (¬ ((6 : Int32) < 0 ∨ 35 ≤ (6 : Int32).toNatClampNeg)) (if (s1.1 222 ((6 : Int32).toNatClampNeg)) = (40 : Int32) then (some (s1, (-5 : Int32))) else (am_c (fX9_lays s1) (fun (s7 : AS) (v6 : Unit) => am_c (fX9_acts s7 (1 : Int32) a1 a2) (fun (s9 : AS) (v8 : Unit) => am_r (fX9_isBit (s9.1 215 24) a1) (fun (v10 : Int32) => am_let (fun (x11 : Int32) => some (s9, x11)) (fun J75 => if v10 = 0 then (J75 (0 : Int32)) else (J75 (1 : Int32)))))))))))))))
def kX9_bar : List (Nat × Instr × Nat) := [(0, .aload_n 0, 1), (1, .iconst 0, 1), (2, .putfield 80, 3), (5, .iload_n 1, 1), (6, .i2l, 1), (7, .lconst 0, 1), (8, .aload_n 0, 1), (9, .getfield 34, 3), (12, .iconst 4, 1), (13, .iaload, 1), (14, .iconst 1, 1), (15, .isub, 1), (16, .i2l, 1), (17, .invokestatic 85, 3), (20, .ifCond .eq 10, 3), (23, .iload_n 2, 1), (24, .invokestatic 419, 3), (27, .ifCond .ne 6, 3), (30, .bipush (-2), 2), (32, .ireturn, 1), (33, .aload_n 0, 1), (34, .getfield 34, 3), (37, .bipush 6, 2), (39, .iaload, 1), (40, .bipush 40, 2), (42, .if_icmp .ne 6, 3), (45, .bipush (-5), 2), (47, .ireturn, 1), (48, .aload_n 0, 1), (49, .invokevirtual 336, 3), (52, .aload_n 0, 1), (53, .iconst 1, 1), (54, .iload_n 1, 1), (55, .iload_n 2, 1), (56, .invokevirtual 452, 3), (59, .aload_n 0, 1), (60, .getfield 259, 3), (63, .iload_n 1, 1), (64, .invokestatic 280, 3), (67, .ifCond .eq 7, 3), (70, .iconst 1, 1), (71, .goto 4, 3), (74, .iconst 0, 1), (75, .ireturn, 1)]
theorem qX9_bar : ∀ q ∈ kX9_bar, decode mX9_bar.2.2.1 q.1 = .ok (q.2.1, q.2.2) ∧ am_iok mX9_bar.2.2.2.1 q.1 q.2.1 q.2.2 = true := by decide +kernel
set_option maxRecDepth 100000 in
theorem wX9_bar : Cond.code mX9_bar.2.1 mX9_bar.2.2.1 mX9_bar.2.2.2.1 mX9_bar.2.2.2.2.1 ∈ am_T := List.mem_filter.mpr ⟨List.mem_of_getElem? (i := 1983) rfl, rfl⟩
set_option maxHeartbeats 4000000 in
set_option maxRecDepth 100000 in
theorem tX9_bar (l : Launch) (d : Nat) {s0 : AS} {a1 : Int32} {a2 : Int32} {sE : AS} {rE : Int32} (hf : fX9_bar s0 a1 a2 = some (sE, rE)) : am_Ct l (d + 3) mX9_bar [.inr (.inr ((10, 0, 0), 215)), .inl a1, .inl a2] s0 sE (some (.inl rE)) := by
  refine am_sim l (d + 2) (code := kX9_bar) (by decide +kernel) wX9_bar qX9_bar (Nat.le_of_ble_eq_true rfl) ?_
  intro X hX
  show X 0 [(0, .inr (.inr ((10, 0, 0), 215))), (1, .inl a1), (2, .inl a2)] [] s0
  unfold fX9_bar at hf
  refine am_blk hX 0 3 (And.intro rfl (am_nl (Z := fun s1 => X 5 [(0, .inr (.inr ((10, 0, 0), 215))), (1, .inl a1), (2, .inl a2)] [] s1) hf (fun s1 hf => ?_)))
  obtain ⟨g2, hf⟩ := am_g_of hf
  obtain ⟨v3, hcv3, hf⟩ := am_r_of hf
  refine am_jn hf (fun J30 => J30 = some (sE, rE) → X 30 [] [] s1) ?_ ?_
  · intro hf
    refine am_blk hX 18 2 (am_ri hf)
  · intro J30 hJ30 hf
    refine am_blk hX 3 12 (And.intro rfl (And.intro rfl (And.intro g2 (And.intro rfl (Exists.intro s1 (Exists.intro (some (.inl v3)) (And.intro (tX9_in l (d + 1) hcv3) (And.intro (fun hb => ?_) (fun hb => ?_)))))))))
    · have hf := am_it hf hb
      show X 30 [(0, .inr (.inr ((10, 0, 0), 215))), (1, .inl a1), (2, .inl a2)] [] s1
      exact am_wk hX [] (hJ30 hf)
    · have hf := am_if hf hb
      show X 23 [(0, .inr (.inr ((10, 0, 0), 215))), (1, .inl a1), (2, .inl a2)] [] s1
      obtain ⟨v4, hcv4, hf⟩ := am_r_of hf
      refine am_blk hX 15 3 (And.intro rfl (Exists.intro s1 (Exists.intro (some (.inl v4)) (And.intro (tX9_isHalf l (d + 0) hcv4) (And.intro (fun hb => ?_) (fun hb => ?_))))))
      · have hf := am_if hf hb
        show X 33 [(0, .inr (.inr ((10, 0, 0), 215))), (1, .inl a1), (2, .inl a2)] [] s1
        obtain ⟨g5, hf⟩ := am_g_of hf
        refine am_blk hX 20 6 (And.intro rfl (And.intro rfl (And.intro g5 (And.intro (fun hb => ?_) (fun hb => ?_)))))
        · have hf := am_if hf hb
          show X 48 [(0, .inr (.inr ((10, 0, 0), 215))), (1, .inl a1), (2, .inl a2)] [] s1
          obtain ⟨s7, v6, hcv6, hf⟩ := am_c_of hf
          obtain ⟨s9, v8, hcv8, hf⟩ := am_c_of hf
          obtain ⟨v10, hcv10, hf⟩ := am_r_of hf
          refine am_jn hf (fun J75 => ∀ (x11 : Int32), J75 x11 = some (sE, rE) → X 75 [] [.inl x11] s9) ?_ ?_
          · intro x11 hf
            refine am_blk hX 43 1 (am_ri hf)
          · intro J75 hJ75 hf
            refine am_blk hX 28 12 (And.intro rfl (And.intro rfl (Exists.intro s7 (Exists.intro none (And.intro (tX9_lays l (d + 1) hcv6) (And.intro rfl (And.intro rfl (Exists.intro s9 (Exists.intro none (And.intro (tX9_acts l (d + 1) hcv8) (And.intro rfl (And.intro rfl (Exists.intro s9 (Exists.intro (some (.inl v10)) (And.intro (tX9_isBit l (d + 1) hcv10) (And.intro (fun hb => ?_) (fun hb => ?_)))))))))))))))))
            · have hf := am_it hf hb
              show X 74 [(0, .inr (.inr ((10, 0, 0), 215))), (1, .inl a1), (2, .inl a2)] [] s9
              refine am_blk hX 42 1 (?_)
              show X 75 [(0, .inr (.inr ((10, 0, 0), 215))), (1, .inl a1), (2, .inl a2)] [.inl (0 : Int32)] s9
              exact am_wk hX [] (hJ75 (0 : Int32) hf)
            · have hf := am_if hf hb
              show X 70 [(0, .inr (.inr ((10, 0, 0), 215))), (1, .inl a1), (2, .inl a2)] [] s9
              refine am_blk hX 40 2 (?_)
              show X 75 [(0, .inr (.inr ((10, 0, 0), 215))), (1, .inl a1), (2, .inl a2)] [.inl (1 : Int32)] s9
              exact am_wk hX [] (hJ75 (1 : Int32) hf)
        · have hf := am_it hf hb
          show X 45 [(0, .inr (.inr ((10, 0, 0), 215))), (1, .inl a1), (2, .inl a2)] [] s1
          refine am_blk hX 26 2 (am_ri hf)
      · have hf := am_it hf hb
        show X 30 [(0, .inr (.inr ((10, 0, 0), 215))), (1, .inl a1), (2, .inl a2)] [] s1
        exact am_wk hX [] (hJ30 hf)
def fX9_barred (s0 : AS) : Option (AS × Int32) :=
  am_let (am_si s0 215 0 (0 : Int32)) (fun (s1 : AS) => am_r (fX9_isMarch s1) (fun (v2 : Int32) => if v2 = 0 then (some (s1, (-2 : Int32))) else (am_c (fX9_lays s1) (fun (s4 : AS) (v3 : Unit) => some (s4, s4.1 215 24)))))
def kX9_barred : List (Nat × Instr × Nat) := [(0, .aload_n 0, 1), (1, .iconst 0, 1), (2, .putfield 80, 3), (5, .aload_n 0, 1), (6, .invokevirtual 251, 3), (9, .ifCond .ne 6, 3), (12, .bipush (-2), 2), (14, .ireturn, 1), (15, .aload_n 0, 1), (16, .invokevirtual 336, 3), (19, .aload_n 0, 1), (20, .getfield 259, 3), (23, .ireturn, 1)]
theorem qX9_barred : ∀ q ∈ kX9_barred, decode mX9_barred.2.2.1 q.1 = .ok (q.2.1, q.2.2) ∧ am_iok mX9_barred.2.2.2.1 q.1 q.2.1 q.2.2 = true := by decide +kernel
set_option maxRecDepth 100000 in
theorem wX9_barred : Cond.code mX9_barred.2.1 mX9_barred.2.2.1 mX9_barred.2.2.2.1 mX9_barred.2.2.2.2.1 ∈ am_T := List.mem_filter.mpr ⟨List.mem_of_getElem? (i := 1991) rfl, rfl⟩
set_option maxHeartbeats 4000000 in
set_option maxRecDepth 100000 in
theorem tX9_barred (l : Launch) (d : Nat) {s0 : AS} {sE : AS} {rE : Int32} (hf : fX9_barred s0 = some (sE, rE)) : am_Ct l (d + 2) mX9_barred [.inr (.inr ((10, 0, 0), 215))] s0 sE (some (.inl rE)) := by
  refine am_sim l (d + 1) (code := kX9_barred) (by decide +kernel) wX9_barred qX9_barred (Nat.le_of_ble_eq_true rfl) ?_
  intro X hX
  show X 0 [(0, .inr (.inr ((10, 0, 0), 215)))] [] s0
  unfold fX9_barred at hf
  refine am_blk hX 0 3 (And.intro rfl (am_nl (Z := fun s1 => X 5 [(0, .inr (.inr ((10, 0, 0), 215)))] [] s1) hf (fun s1 hf => ?_)))
  obtain ⟨v2, hcv2, hf⟩ := am_r_of hf
  refine am_blk hX 3 3 (And.intro rfl (And.intro rfl (Exists.intro s1 (Exists.intro (some (.inl v2)) (And.intro (tX9_isMarch l (d + 0) hcv2) (And.intro (fun hb => ?_) (fun hb => ?_)))))))
  · have hf := am_if hf hb
    show X 15 [(0, .inr (.inr ((10, 0, 0), 215)))] [] s1
    obtain ⟨s4, v3, hcv3, hf⟩ := am_c_of hf
    refine am_blk hX 8 5 (And.intro rfl (And.intro rfl (Exists.intro s4 (Exists.intro none (And.intro (tX9_lays l (d + 0) hcv3) (And.intro rfl (am_ri hf)))))))
  · have hf := am_it hf hb
    show X 12 [(0, .inr (.inr ((10, 0, 0), 215)))] [] s1
    refine am_blk hX 6 2 (am_ri hf)
def fX9_begins (s0 : AS) : Option (AS × Unit) :=
  am_let (am_si s0 215 12 (0 : Int32)) (fun (s1 : AS) => am_let (am_si s1 215 13 (-1 : Int32)) (fun (s2 : AS) => am_let (am_si s2 215 7 (0 : Int32)) (fun (s3 : AS) => am_c (fX9_goesOn s3) (fun (s5 : AS) (v4 : Unit) => some (s5, ())))))
def kX9_begins : List (Nat × Instr × Nat) := [(0, .aload_n 0, 1), (1, .iconst 0, 1), (2, .putfield 132, 3), (5, .aload_n 0, 1), (6, .iconst (-1), 1), (7, .putfield 135, 3), (10, .aload_n 0, 1), (11, .iconst 0, 1), (12, .putfield 104, 3), (15, .aload_n 0, 1), (16, .invokevirtual 142, 3), (19, .return_, 1)]
theorem qX9_begins : ∀ q ∈ kX9_begins, decode mX9_begins.2.2.1 q.1 = .ok (q.2.1, q.2.2) ∧ am_iok mX9_begins.2.2.2.1 q.1 q.2.1 q.2.2 = true := by decide +kernel
set_option maxRecDepth 100000 in
theorem wX9_begins : Cond.code mX9_begins.2.1 mX9_begins.2.2.1 mX9_begins.2.2.2.1 mX9_begins.2.2.2.2.1 ∈ am_T := List.mem_filter.mpr ⟨List.mem_of_getElem? (i := 1497) rfl, rfl⟩
set_option maxHeartbeats 4000000 in
set_option maxRecDepth 100000 in
theorem tX9_begins (l : Launch) (d : Nat) {s0 : AS} {sE : AS} {rE : Unit} (hf : fX9_begins s0 = some (sE, rE)) : am_Ct l (d + 3) mX9_begins [.inr (.inr ((10, 0, 0), 215))] s0 sE none := by
  refine am_sim l (d + 2) (code := kX9_begins) (by decide +kernel) wX9_begins qX9_begins (Nat.le_of_ble_eq_true rfl) ?_
  intro X hX
  show X 0 [(0, .inr (.inr ((10, 0, 0), 215)))] [] s0
  unfold fX9_begins at hf
  refine am_blk hX 0 3 (And.intro rfl (am_nl (Z := fun s1 => X 5 [(0, .inr (.inr ((10, 0, 0), 215)))] [] s1) hf (fun s1 hf => ?_)))
  refine am_blk hX 3 3 (And.intro rfl (am_nl (Z := fun s2 => X 10 [(0, .inr (.inr ((10, 0, 0), 215)))] [] s2) hf (fun s2 hf => ?_)))
  refine am_blk hX 6 3 (And.intro rfl (am_nl (Z := fun s3 => X 15 [(0, .inr (.inr ((10, 0, 0), 215)))] [] s3) hf (fun s3 hf => ?_)))
  obtain ⟨s5, v4, hcv4, hf⟩ := am_c_of hf
  refine am_blk hX 9 3 (And.intro rfl (And.intro rfl (Exists.intro s5 (Exists.intro none (And.intro (tX9_goesOn l (d + 0) hcv4) (And.intro rfl (am_rv hf)))))))
def fX9_boards_L24 (a1 : Int32) (s4 : AS) : Nat → Int32 → Int32 → Option (AS × Int32)
  | 0, _, _ => none
  | n24 + 1, x5, x6 =>
    am_r (fX9_people s4) (fun (v7 : Int32) => if v7 ≤ x6 then (some (s4, x5)) else (am_g (¬ (a1 < 0 ∨ 61 ≤ a1.toNatClampNeg)) (am_r (fX9_isBit (s4.1 230 a1.toNatClampNeg) x6) (fun (v9 : Int32) => am_let (fun (x10 : Int32) => am_let (x5 ||| x10) (fun (x11 : Int32) => am_let (x6 + (1 : Int32)) (fun (x12 : Int32) => fX9_boards_L24 a1 s4 n24 x11 x12))) (fun J57 => if v9 = 0 then (J57 (0 : Int32)) else (am_r (fX9_reasonOf s4 x6) (fun (v13 : Int32) => J57 ((1 : Int32) <<< (v13 &&& 31)))))))))
def fX9_boards (s0 : AS) (a1 : Int32) : Option (AS × Int32) :=
  am_let (am_si s0 215 0 (0 : Int32)) (fun (s1 : AS) => am_r (fX9_isStep s1 a1) (fun (v2 : Int32) => if v2 = 0 then (some (s1, (-2 : Int32))) else (am_c (fX9_laysNow s1) (fun (s4 : AS) (v3 : Unit) => fX9_boards_L24 a1 s4 am_fu (0 : Int32) (0 : Int32)))))
def kX9_boards : List (Nat × Instr × Nat) := [(0, .aload_n 0, 1), (1, .iconst 0, 1), (2, .putfield 80, 3), (5, .aload_n 0, 1), (6, .iload_n 1, 1), (7, .invokevirtual 355, 3), (10, .ifCond .ne 6, 3), (13, .bipush (-2), 2), (15, .ireturn, 1), (16, .aload_n 0, 1), (17, .invokevirtual 358, 3), (20, .iconst 0, 1), (21, .istore_n 2, 1), (22, .iconst 0, 1), (23, .istore_n 3, 1), (24, .iload_n 3, 1), (25, .aload_n 0, 1), (26, .invokevirtual 248, 3), (29, .if_icmp .ge 36, 3), (32, .iload_n 2, 1), (33, .aload_n 0, 1), (34, .getfield 59, 3), (37, .iload_n 1, 1), (38, .iaload, 1), (39, .iload_n 3, 1), (40, .invokestatic 280, 3), (43, .ifCond .eq 13, 3), (46, .iconst 1, 1), (47, .aload_n 0, 1), (48, .iload_n 3, 1), (49, .invokevirtual 287, 3), (52, .ishl, 1), (53, .goto 4, 3), (56, .iconst 0, 1), (57, .ior, 1), (58, .istore_n 2, 1), (59, .iinc 3 1, 3), (62, .goto (-38), 3), (65, .iload_n 2, 1), (66, .ireturn, 1)]
theorem qX9_boards : ∀ q ∈ kX9_boards, decode mX9_boards.2.2.1 q.1 = .ok (q.2.1, q.2.2) ∧ am_iok mX9_boards.2.2.2.1 q.1 q.2.1 q.2.2 = true := by decide +kernel
set_option maxRecDepth 100000 in
theorem wX9_boards : Cond.code mX9_boards.2.1 mX9_boards.2.2.1 mX9_boards.2.2.2.1 mX9_boards.2.2.2.2.1 ∈ am_T := List.mem_filter.mpr ⟨List.mem_of_getElem? (i := 1758) rfl, rfl⟩
set_option maxHeartbeats 4000000 in
set_option maxRecDepth 100000 in
theorem tX9_boards (l : Launch) (d : Nat) {s0 : AS} {a1 : Int32} {sE : AS} {rE : Int32} (hf : fX9_boards s0 a1 = some (sE, rE)) : am_Ct l (d + 6) mX9_boards [.inr (.inr ((10, 0, 0), 215)), .inl a1] s0 sE (some (.inl rE)) := by
  refine am_sim l (d + 5) (code := kX9_boards) (by decide +kernel) wX9_boards qX9_boards (Nat.le_of_ble_eq_true rfl) ?_
  intro X hX
  show X 0 [(0, .inr (.inr ((10, 0, 0), 215))), (1, .inl a1)] [] s0
  unfold fX9_boards at hf
  refine am_blk hX 0 3 (And.intro rfl (am_nl (Z := fun s1 => X 5 [(0, .inr (.inr ((10, 0, 0), 215))), (1, .inl a1)] [] s1) hf (fun s1 hf => ?_)))
  obtain ⟨v2, hcv2, hf⟩ := am_r_of hf
  refine am_blk hX 3 4 (And.intro rfl (And.intro rfl (Exists.intro s1 (Exists.intro (some (.inl v2)) (And.intro (tX9_isStep l (d + 3) hcv2) (And.intro (fun hb => ?_) (fun hb => ?_)))))))
  · have hf := am_if hf hb
    show X 16 [(0, .inr (.inr ((10, 0, 0), 215))), (1, .inl a1)] [] s1
    obtain ⟨s4, v3, hcv3, hf⟩ := am_c_of hf
    have hL24 : ∀ (n24 : Nat) (x5 : Int32) (x6 : Int32), fX9_boards_L24 a1 s4 n24 x5 x6 = some (sE, rE) → X 24 [(0, .inr (.inr ((10, 0, 0), 215))), (1, .inl a1), (2, .inl x5), (3, .inl x6)] [] s4 := by
      intro n24
      induction n24 with
      | zero => intro x5 x6 hf; exact am_no (show none = some _ from hf)
      | succ n24 ih24 =>
        intro x5 x6 hf
        obtain ⟨v7, hcv7, hf⟩ := am_r_of hf
        refine am_blk hX 15 4 (And.intro rfl (And.intro rfl (Exists.intro s4 (Exists.intro (some (.inl v7)) (And.intro (tX9_people l (d + 4) hcv7) (And.intro (fun hb => ?_) (fun hb => ?_)))))))
        · have hf := am_it hf hb
          show X 65 [(0, .inr (.inr ((10, 0, 0), 215))), (1, .inl a1), (2, .inl x5), (3, .inl x6)] [] s4
          refine am_blk hX 38 2 (am_ri hf)
        · have hf := am_if hf hb
          show X 32 [(0, .inr (.inr ((10, 0, 0), 215))), (1, .inl a1), (2, .inl x5), (3, .inl x6)] [] s4
          obtain ⟨g8, hf⟩ := am_g_of hf
          obtain ⟨v9, hcv9, hf⟩ := am_r_of hf
          refine am_jn hf (fun J57 => ∀ (x10 : Int32), J57 x10 = some (sE, rE) → X 57 [(0, .inr (.inr ((10, 0, 0), 215))), (1, .inl a1), (3, .inl x6)] [.inl x10, .inl x5] s4) ?_ ?_
          · intro x10 hf
            refine am_blk hX 34 2 (am_nl (Z := fun x11 => X 59 [(2, .inl x11), (0, .inr (.inr ((10, 0, 0), 215))), (1, .inl a1), (3, .inl x6)] [] s4) hf (fun x11 hf => ?_))
            refine am_blk hX 36 1 (am_nl (Z := fun x12 => X 62 [(3, .inl x12), (2, .inl x11), (0, .inr (.inr ((10, 0, 0), 215))), (1, .inl a1)] [] s4) hf (fun x12 hf => ?_))
            refine am_blk hX 37 1 (?_)
            show X 24 [(3, .inl x12), (2, .inl x11), (0, .inr (.inr ((10, 0, 0), 215))), (1, .inl a1)] [] s4
            exact am_wk hX [2, 3, 1, 0] (ih24 x11 x12 hf)
          · intro J57 hJ57 hf
            refine am_blk hX 19 8 (And.intro rfl (And.intro rfl (And.intro g8 (And.intro rfl (Exists.intro s4 (Exists.intro (some (.inl v9)) (And.intro (tX9_isBit l (d + 4) hcv9) (And.intro (fun hb => ?_) (fun hb => ?_)))))))))
            · have hf := am_it hf hb
              show X 56 [(0, .inr (.inr ((10, 0, 0), 215))), (1, .inl a1), (2, .inl x5), (3, .inl x6)] [.inl x5] s4
              refine am_blk hX 33 1 (?_)
              show X 57 [(0, .inr (.inr ((10, 0, 0), 215))), (1, .inl a1), (2, .inl x5), (3, .inl x6)] [.inl (0 : Int32), .inl x5] s4
              exact am_wk hX [0, 1, 3] (hJ57 (0 : Int32) hf)
            · have hf := am_if hf hb
              show X 46 [(0, .inr (.inr ((10, 0, 0), 215))), (1, .inl a1), (2, .inl x5), (3, .inl x6)] [.inl x5] s4
              obtain ⟨v13, hcv13, hf⟩ := am_r_of hf
              refine am_blk hX 27 6 (And.intro rfl (And.intro rfl (Exists.intro s4 (Exists.intro (some (.inl v13)) (And.intro (tX9_reasonOf l (d + 4) hcv13) (?_))))))
              show X 57 [(0, .inr (.inr ((10, 0, 0), 215))), (1, .inl a1), (2, .inl x5), (3, .inl x6)] [.inl ((1 : Int32) <<< (v13 &&& 31)), .inl x5] s4
              exact am_wk hX [0, 1, 3] (hJ57 ((1 : Int32) <<< (v13 &&& 31)) hf)
    refine am_blk hX 9 6 (And.intro rfl (And.intro rfl (Exists.intro s4 (Exists.intro none (And.intro (tX9_laysNow l (d + 0) hcv3) (?_))))))
    show X 24 [(3, .inl (0 : Int32)), (2, .inl (0 : Int32)), (0, .inr (.inr ((10, 0, 0), 215))), (1, .inl a1)] [] s4
    exact am_wk hX [2, 3, 1, 0] (hL24 am_fu (0 : Int32) (0 : Int32) hf)
  · have hf := am_it hf hb
    show X 13 [(0, .inr (.inr ((10, 0, 0), 215))), (1, .inl a1)] [] s1
    refine am_blk hX 7 2 (am_ri hf)
def fX9_costOf_L4 (a1 : Int32) (s0 : AS) : Nat → Int32 → Int32 → Option Int32
  | 0, _, _ => none
  | n4 + 1, x1, x2 =>
    if (6 : Int32) ≤ x2 then (some x1) else (am_r (fX9_isBit a1 x2) (fun (v3 : Int32) => am_let (fun (x4 : Int32) => am_let (x1 + x4) (fun (x5 : Int32) => am_let (x2 + (1 : Int32)) (fun (x6 : Int32) => fX9_costOf_L4 a1 s0 n4 x5 x6))) (fun J29 => if v3 = 0 then (J29 (0 : Int32)) else (am_g (¬ (x2 < 0 ∨ 30 ≤ x2.toNatClampNeg)) (J29 (s0.1 225 x2.toNatClampNeg))))))
def fX9_costOf (s0 : AS) (a1 : Int32) : Option Int32 :=
  fX9_costOf_L4 a1 s0 am_fu (0 : Int32) (0 : Int32)
def kX9_costOf : List (Nat × Instr × Nat) := [(0, .iconst 0, 1), (1, .istore_n 2, 1), (2, .iconst 0, 1), (3, .istore_n 3, 1), (4, .iload_n 3, 1), (5, .bipush 6, 2), (7, .if_icmp .ge 30, 3), (10, .iload_n 2, 1), (11, .iload_n 1, 1), (12, .iload_n 3, 1), (13, .invokestatic 280, 3), (16, .ifCond .eq 12, 3), (19, .aload_n 0, 1), (20, .getfield 43, 3), (23, .iload_n 3, 1), (24, .iaload, 1), (25, .goto 4, 3), (28, .iconst 0, 1), (29, .iadd, 1), (30, .istore_n 2, 1), (31, .iinc 3 1, 3), (34, .goto (-30), 3), (37, .iload_n 2, 1), (38, .ireturn, 1)]
theorem qX9_costOf : ∀ q ∈ kX9_costOf, decode mX9_costOf.2.2.1 q.1 = .ok (q.2.1, q.2.2) ∧ am_iok mX9_costOf.2.2.2.1 q.1 q.2.1 q.2.2 = true := by decide +kernel
set_option maxRecDepth 100000 in
theorem wX9_costOf : Cond.code mX9_costOf.2.1 mX9_costOf.2.2.1 mX9_costOf.2.2.2.1 mX9_costOf.2.2.2.2.1 ∈ am_T := List.mem_filter.mpr ⟨List.mem_of_getElem? (i := 1834) rfl, rfl⟩
set_option maxHeartbeats 4000000 in
set_option maxRecDepth 100000 in
theorem tX9_costOf (l : Launch) (d : Nat) {s0 : AS} {a1 : Int32} {rE : Int32} (hf : fX9_costOf s0 a1 = some rE) : am_Ct l (d + 2) mX9_costOf [.inr (.inr ((10, 0, 0), 215)), .inl a1] s0 s0 (some (.inl rE)) := by
  refine am_sim l (d + 1) (code := kX9_costOf) (by decide +kernel) wX9_costOf qX9_costOf (Nat.le_of_ble_eq_true rfl) ?_
  intro X hX
  show X 0 [(0, .inr (.inr ((10, 0, 0), 215))), (1, .inl a1)] [] s0
  unfold fX9_costOf at hf
  have hL4 : ∀ (n4 : Nat) (x1 : Int32) (x2 : Int32), fX9_costOf_L4 a1 s0 n4 x1 x2 = some rE → X 4 [(0, .inr (.inr ((10, 0, 0), 215))), (1, .inl a1), (2, .inl x1), (3, .inl x2)] [] s0 := by
    intro n4
    induction n4 with
    | zero => intro x1 x2 hf; exact am_no (show none = some _ from hf)
    | succ n4 ih4 =>
      intro x1 x2 hf
      refine am_blk hX 4 3 (And.intro (fun hb => ?_) (fun hb => ?_))
      · have hf := am_it hf hb
        show X 37 [(0, .inr (.inr ((10, 0, 0), 215))), (1, .inl a1), (2, .inl x1), (3, .inl x2)] [] s0
        refine am_blk hX 22 2 (am_rpi hf)
      · have hf := am_if hf hb
        show X 10 [(0, .inr (.inr ((10, 0, 0), 215))), (1, .inl a1), (2, .inl x1), (3, .inl x2)] [] s0
        obtain ⟨v3, hcv3, hf⟩ := am_r_of hf
        refine am_jn hf (fun J29 => ∀ (x4 : Int32), J29 x4 = some rE → X 29 [(0, .inr (.inr ((10, 0, 0), 215))), (1, .inl a1), (3, .inl x2)] [.inl x4, .inl x1] s0) ?_ ?_
        · intro x4 hf
          refine am_blk hX 18 2 (am_nl (Z := fun x5 => X 31 [(2, .inl x5), (0, .inr (.inr ((10, 0, 0), 215))), (1, .inl a1), (3, .inl x2)] [] s0) hf (fun x5 hf => ?_))
          refine am_blk hX 20 1 (am_nl (Z := fun x6 => X 34 [(3, .inl x6), (2, .inl x5), (0, .inr (.inr ((10, 0, 0), 215))), (1, .inl a1)] [] s0) hf (fun x6 hf => ?_))
          refine am_blk hX 21 1 (?_)
          show X 4 [(3, .inl x6), (2, .inl x5), (0, .inr (.inr ((10, 0, 0), 215))), (1, .inl a1)] [] s0
          exact am_wk hX [2, 3, 1, 0] (ih4 x5 x6 hf)
        · intro J29 hJ29 hf
          refine am_blk hX 7 5 (And.intro rfl (Exists.intro s0 (Exists.intro (some (.inl v3)) (And.intro (tX9_isBit l (d + 0) hcv3) (And.intro (fun hb => ?_) (fun hb => ?_))))))
          · have hf := am_it hf hb
            show X 28 [(0, .inr (.inr ((10, 0, 0), 215))), (1, .inl a1), (2, .inl x1), (3, .inl x2)] [.inl x1] s0
            refine am_blk hX 17 1 (?_)
            show X 29 [(0, .inr (.inr ((10, 0, 0), 215))), (1, .inl a1), (2, .inl x1), (3, .inl x2)] [.inl (0 : Int32), .inl x1] s0
            exact am_wk hX [0, 1, 3] (hJ29 (0 : Int32) hf)
          · have hf := am_if hf hb
            show X 19 [(0, .inr (.inr ((10, 0, 0), 215))), (1, .inl a1), (2, .inl x1), (3, .inl x2)] [.inl x1] s0
            obtain ⟨g7, hf⟩ := am_g_of hf
            refine am_blk hX 12 5 (And.intro rfl (And.intro rfl (And.intro g7 (?_))))
            show X 29 [(0, .inr (.inr ((10, 0, 0), 215))), (1, .inl a1), (2, .inl x1), (3, .inl x2)] [.inl (s0.1 225 x2.toNatClampNeg), .inl x1] s0
            exact am_wk hX [0, 1, 3] (hJ29 (s0.1 225 x2.toNatClampNeg) hf)
  refine am_blk hX 0 4 (?_)
  show X 4 [(3, .inl (0 : Int32)), (2, .inl (0 : Int32)), (0, .inr (.inr ((10, 0, 0), 215))), (1, .inl a1)] [] s0
  exact am_wk hX [2, 3, 1, 0] (hL4 am_fu (0 : Int32) (0 : Int32) hf)
def fX9_contentOf_L4 (a1 : Int32) (s0 : AS) : Nat → Int32 → Int32 → Option Int32
  | 0, _, _ => none
  | n4 + 1, x1, x2 =>
    am_r (fX9_people s0) (fun (v3 : Int32) => if v3 ≤ x2 then (some x1) else (am_r (fX9_reasonOf s0 x2) (fun (v4 : Int32) => am_r (fX9_isBit a1 v4) (fun (v5 : Int32) => am_let (fun (x6 : Int32) => am_let (x1 + x6) (fun (x7 : Int32) => am_let (x2 + (1 : Int32)) (fun (x8 : Int32) => fX9_contentOf_L4 a1 s0 n4 x7 x8))) (fun J30 => if v5 = 0 then (J30 (0 : Int32)) else (J30 (1 : Int32)))))))
def fX9_contentOf (s0 : AS) (a1 : Int32) : Option Int32 :=
  fX9_contentOf_L4 a1 s0 am_fu (0 : Int32) (0 : Int32)
def kX9_contentOf : List (Nat × Instr × Nat) := [(0, .iconst 0, 1), (1, .istore_n 2, 1), (2, .iconst 0, 1), (3, .istore_n 3, 1), (4, .iload_n 3, 1), (5, .aload_n 0, 1), (6, .invokevirtual 248, 3), (9, .if_icmp .ge 29, 3), (12, .iload_n 2, 1), (13, .iload_n 1, 1), (14, .aload_n 0, 1), (15, .iload_n 3, 1), (16, .invokevirtual 287, 3), (19, .invokestatic 280, 3), (22, .ifCond .eq 7, 3), (25, .iconst 1, 1), (26, .goto 4, 3), (29, .iconst 0, 1), (30, .iadd, 1), (31, .istore_n 2, 1), (32, .iinc 3 1, 3), (35, .goto (-31), 3), (38, .iload_n 2, 1), (39, .ireturn, 1)]
theorem qX9_contentOf : ∀ q ∈ kX9_contentOf, decode mX9_contentOf.2.2.1 q.1 = .ok (q.2.1, q.2.2) ∧ am_iok mX9_contentOf.2.2.2.1 q.1 q.2.1 q.2.2 = true := by decide +kernel
set_option maxRecDepth 100000 in
theorem wX9_contentOf : Cond.code mX9_contentOf.2.1 mX9_contentOf.2.2.1 mX9_contentOf.2.2.2.1 mX9_contentOf.2.2.2.2.1 ∈ am_T := List.mem_filter.mpr ⟨List.mem_of_getElem? (i := 1859) rfl, rfl⟩
set_option maxHeartbeats 4000000 in
set_option maxRecDepth 100000 in
theorem tX9_contentOf (l : Launch) (d : Nat) {s0 : AS} {a1 : Int32} {rE : Int32} (hf : fX9_contentOf s0 a1 = some rE) : am_Ct l (d + 2) mX9_contentOf [.inr (.inr ((10, 0, 0), 215)), .inl a1] s0 s0 (some (.inl rE)) := by
  refine am_sim l (d + 1) (code := kX9_contentOf) (by decide +kernel) wX9_contentOf qX9_contentOf (Nat.le_of_ble_eq_true rfl) ?_
  intro X hX
  show X 0 [(0, .inr (.inr ((10, 0, 0), 215))), (1, .inl a1)] [] s0
  unfold fX9_contentOf at hf
  have hL4 : ∀ (n4 : Nat) (x1 : Int32) (x2 : Int32), fX9_contentOf_L4 a1 s0 n4 x1 x2 = some rE → X 4 [(0, .inr (.inr ((10, 0, 0), 215))), (1, .inl a1), (2, .inl x1), (3, .inl x2)] [] s0 := by
    intro n4
    induction n4 with
    | zero => intro x1 x2 hf; exact am_no (show none = some _ from hf)
    | succ n4 ih4 =>
      intro x1 x2 hf
      obtain ⟨v3, hcv3, hf⟩ := am_r_of hf
      refine am_blk hX 4 4 (And.intro rfl (And.intro rfl (Exists.intro s0 (Exists.intro (some (.inl v3)) (And.intro (tX9_people l (d + 0) hcv3) (And.intro (fun hb => ?_) (fun hb => ?_)))))))
      · have hf := am_it hf hb
        show X 38 [(0, .inr (.inr ((10, 0, 0), 215))), (1, .inl a1), (2, .inl x1), (3, .inl x2)] [] s0
        refine am_blk hX 22 2 (am_rpi hf)
      · have hf := am_if hf hb
        show X 12 [(0, .inr (.inr ((10, 0, 0), 215))), (1, .inl a1), (2, .inl x1), (3, .inl x2)] [] s0
        obtain ⟨v4, hcv4, hf⟩ := am_r_of hf
        obtain ⟨v5, hcv5, hf⟩ := am_r_of hf
        refine am_jn hf (fun J30 => ∀ (x6 : Int32), J30 x6 = some rE → X 30 [(0, .inr (.inr ((10, 0, 0), 215))), (1, .inl a1), (3, .inl x2)] [.inl x6, .inl x1] s0) ?_ ?_
        · intro x6 hf
          refine am_blk hX 18 2 (am_nl (Z := fun x7 => X 32 [(2, .inl x7), (0, .inr (.inr ((10, 0, 0), 215))), (1, .inl a1), (3, .inl x2)] [] s0) hf (fun x7 hf => ?_))
          refine am_blk hX 20 1 (am_nl (Z := fun x8 => X 35 [(3, .inl x8), (2, .inl x7), (0, .inr (.inr ((10, 0, 0), 215))), (1, .inl a1)] [] s0) hf (fun x8 hf => ?_))
          refine am_blk hX 21 1 (?_)
          show X 4 [(3, .inl x8), (2, .inl x7), (0, .inr (.inr ((10, 0, 0), 215))), (1, .inl a1)] [] s0
          exact am_wk hX [2, 3, 1, 0] (ih4 x7 x8 hf)
        · intro J30 hJ30 hf
          refine am_blk hX 8 7 (And.intro rfl (And.intro rfl (Exists.intro s0 (Exists.intro (some (.inl v4)) (And.intro (tX9_reasonOf l (d + 0) hcv4) (And.intro rfl (Exists.intro s0 (Exists.intro (some (.inl v5)) (And.intro (tX9_isBit l (d + 0) hcv5) (And.intro (fun hb => ?_) (fun hb => ?_)))))))))))
          · have hf := am_it hf hb
            show X 29 [(0, .inr (.inr ((10, 0, 0), 215))), (1, .inl a1), (2, .inl x1), (3, .inl x2)] [.inl x1] s0
            refine am_blk hX 17 1 (?_)
            show X 30 [(0, .inr (.inr ((10, 0, 0), 215))), (1, .inl a1), (2, .inl x1), (3, .inl x2)] [.inl (0 : Int32), .inl x1] s0
            exact am_wk hX [0, 1, 3] (hJ30 (0 : Int32) hf)
          · have hf := am_if hf hb
            show X 25 [(0, .inr (.inr ((10, 0, 0), 215))), (1, .inl a1), (2, .inl x1), (3, .inl x2)] [.inl x1] s0
            refine am_blk hX 15 2 (?_)
            show X 30 [(0, .inr (.inr ((10, 0, 0), 215))), (1, .inl a1), (2, .inl x1), (3, .inl x2)] [.inl (1 : Int32), .inl x1] s0
            exact am_wk hX [0, 1, 3] (hJ30 (1 : Int32) hf)
  refine am_blk hX 0 4 (?_)
  show X 4 [(3, .inl (0 : Int32)), (2, .inl (0 : Int32)), (0, .inr (.inr ((10, 0, 0), 215))), (1, .inl a1)] [] s0
  exact am_wk hX [2, 3, 1, 0] (hL4 am_fu (0 : Int32) (0 : Int32) hf)
def fX9_buys_L31 (a1 : Int32) (s1 : AS) : Nat → Int32 → Int32 → Option (AS × Int32)
  | 0, _, _ => none
  | n31 + 1, x4, x5 =>
    if (64 : Int32) ≤ x5 then (some (s1, x4)) else (am_r (fX9_costOf s1 x5) (fun (v6 : Int32) => am_let (fun (x7 : Int32) => am_let (x5 + (1 : Int32)) (fun (x8 : Int32) => fX9_buys_L31 a1 s1 n31 x7 x8)) (fun J61 => if a1 < v6 then (J61 x4) else (am_r (fX9_contentOf s1 x5) (fun (v9 : Int32) => if v9 ≤ x4 then (J61 x4) else (am_r (fX9_contentOf s1 x5) (fun (v10 : Int32) => J61 v10)))))))
def fX9_buys (s0 : AS) (a1 : Int32) : Option (AS × Int32) :=
  am_let (am_si s0 215 0 (0 : Int32)) (fun (s1 : AS) => am_r (fX9_isMarch s1) (fun (v2 : Int32) => am_let (some (s1, (-2 : Int32))) (fun J24 => if v2 = 0 then (J24) else (am_r (fX9_in a1.toInt64 (0 : Int64) (600 : Int64)) (fun (v3 : Int32) => if v3 = 0 then (J24) else (fX9_buys_L31 a1 s1 am_fu (0 : Int32) (0 : Int32)))))))
def kX9_buys : List (Nat × Instr × Nat) := [(0, .aload_n 0, 1), (1, .iconst 0, 1), (2, .putfield 80, 3), (5, .aload_n 0, 1), (6, .invokevirtual 251, 3), (9, .ifCond .eq 15, 3), (12, .iload_n 1, 1), (13, .i2l, 1), (14, .lconst 0, 1), (15, .ldc2_w 387, 3), (18, .invokestatic 85, 3), (21, .ifCond .ne 6, 3), (24, .bipush (-2), 2), (26, .ireturn, 1), (27, .iconst 0, 1), (28, .istore_n 2, 1), (29, .iconst 0, 1), (30, .istore_n 3, 1), (31, .iload_n 3, 1), (32, .bipush 64, 2), (34, .if_icmp .ge 33, 3), (37, .aload_n 0, 1), (38, .iload_n 3, 1), (39, .invokevirtual 370, 3), (42, .iload_n 1, 1), (43, .if_icmp .gt 18, 3), (46, .aload_n 0, 1), (47, .iload_n 3, 1), (48, .invokevirtual 384, 3), (51, .iload_n 2, 1), (52, .if_icmp .le 9, 3), (55, .aload_n 0, 1), (56, .iload_n 3, 1), (57, .invokevirtual 384, 3), (60, .istore_n 2, 1), (61, .iinc 3 1, 3), (64, .goto (-33), 3), (67, .iload_n 2, 1), (68, .ireturn, 1)]
theorem qX9_buys : ∀ q ∈ kX9_buys, decode mX9_buys.2.2.1 q.1 = .ok (q.2.1, q.2.2) ∧ am_iok mX9_buys.2.2.2.1 q.1 q.2.1 q.2.2 = true := by decide +kernel
set_option maxRecDepth 100000 in
theorem wX9_buys : Cond.code mX9_buys.2.1 mX9_buys.2.2.1 mX9_buys.2.2.2.1 mX9_buys.2.2.2.2.1 ∈ am_T := List.mem_filter.mpr ⟨List.mem_of_getElem? (i := 1863) rfl, rfl⟩
set_option maxHeartbeats 4000000 in
set_option maxRecDepth 100000 in
theorem tX9_buys (l : Launch) (d : Nat) {s0 : AS} {a1 : Int32} {sE : AS} {rE : Int32} (hf : fX9_buys s0 a1 = some (sE, rE)) : am_Ct l (d + 3) mX9_buys [.inr (.inr ((10, 0, 0), 215)), .inl a1] s0 sE (some (.inl rE)) := by
  refine am_sim l (d + 2) (code := kX9_buys) (by decide +kernel) wX9_buys qX9_buys (Nat.le_of_ble_eq_true rfl) ?_
  intro X hX
  show X 0 [(0, .inr (.inr ((10, 0, 0), 215))), (1, .inl a1)] [] s0
  unfold fX9_buys at hf
  refine am_blk hX 0 3 (And.intro rfl (am_nl (Z := fun s1 => X 5 [(0, .inr (.inr ((10, 0, 0), 215))), (1, .inl a1)] [] s1) hf (fun s1 hf => ?_)))
  obtain ⟨v2, hcv2, hf⟩ := am_r_of hf
  refine am_jn hf (fun J24 => J24 = some (sE, rE) → X 24 [] [] s1) ?_ ?_
  · intro hf
    refine am_blk hX 12 2 (am_ri hf)
  · intro J24 hJ24 hf
    refine am_blk hX 3 3 (And.intro rfl (And.intro rfl (Exists.intro s1 (Exists.intro (some (.inl v2)) (And.intro (tX9_isMarch l (d + 1) hcv2) (And.intro (fun hb => ?_) (fun hb => ?_)))))))
    · have hf := am_it hf hb
      show X 24 [(0, .inr (.inr ((10, 0, 0), 215))), (1, .inl a1)] [] s1
      exact am_wk hX [] (hJ24 hf)
    · have hf := am_if hf hb
      show X 12 [(0, .inr (.inr ((10, 0, 0), 215))), (1, .inl a1)] [] s1
      obtain ⟨v3, hcv3, hf⟩ := am_r_of hf
      refine am_blk hX 6 6 (And.intro rfl (Exists.intro s1 (Exists.intro (some (.inl v3)) (And.intro (tX9_in l (d + 1) hcv3) (And.intro (fun hb => ?_) (fun hb => ?_))))))
      · have hf := am_if hf hb
        show X 27 [(0, .inr (.inr ((10, 0, 0), 215))), (1, .inl a1)] [] s1
        have hL31 : ∀ (n31 : Nat) (x4 : Int32) (x5 : Int32), fX9_buys_L31 a1 s1 n31 x4 x5 = some (sE, rE) → X 31 [(0, .inr (.inr ((10, 0, 0), 215))), (1, .inl a1), (2, .inl x4), (3, .inl x5)] [] s1 := by
          intro n31
          induction n31 with
          | zero => intro x4 x5 hf; exact am_no (show none = some _ from hf)
          | succ n31 ih31 =>
            intro x4 x5 hf
            refine am_blk hX 18 3 (And.intro (fun hb => ?_) (fun hb => ?_))
            · have hf := am_it hf hb
              show X 67 [(0, .inr (.inr ((10, 0, 0), 215))), (1, .inl a1), (2, .inl x4), (3, .inl x5)] [] s1
              refine am_blk hX 37 2 (am_ri hf)
            · have hf := am_if hf hb
              show X 37 [(0, .inr (.inr ((10, 0, 0), 215))), (1, .inl a1), (2, .inl x4), (3, .inl x5)] [] s1
              obtain ⟨v6, hcv6, hf⟩ := am_r_of hf
              refine am_jn hf (fun J61 => ∀ (x7 : Int32), J61 x7 = some (sE, rE) → X 61 [(0, .inr (.inr ((10, 0, 0), 215))), (1, .inl a1), (2, .inl x7), (3, .inl x5)] [] s1) ?_ ?_
              · intro x7 hf
                refine am_blk hX 35 1 (am_nl (Z := fun x8 => X 64 [(3, .inl x8), (0, .inr (.inr ((10, 0, 0), 215))), (1, .inl a1), (2, .inl x7)] [] s1) hf (fun x8 hf => ?_))
                refine am_blk hX 36 1 (?_)
                show X 31 [(3, .inl x8), (0, .inr (.inr ((10, 0, 0), 215))), (1, .inl a1), (2, .inl x7)] [] s1
                exact am_wk hX [1, 2, 3, 0] (ih31 x7 x8 hf)
              · intro J61 hJ61 hf
                refine am_blk hX 21 5 (And.intro rfl (And.intro rfl (Exists.intro s1 (Exists.intro (some (.inl v6)) (And.intro (tX9_costOf l (d + 0) hcv6) (And.intro (fun hb => ?_) (fun hb => ?_)))))))
                · have hf := am_it hf hb
                  show X 61 [(0, .inr (.inr ((10, 0, 0), 215))), (1, .inl a1), (2, .inl x4), (3, .inl x5)] [] s1
                  exact am_wk hX [0, 1, 2, 3] (hJ61 x4 hf)
                · have hf := am_if hf hb
                  show X 46 [(0, .inr (.inr ((10, 0, 0), 215))), (1, .inl a1), (2, .inl x4), (3, .inl x5)] [] s1
                  obtain ⟨v9, hcv9, hf⟩ := am_r_of hf
                  refine am_blk hX 26 5 (And.intro rfl (And.intro rfl (Exists.intro s1 (Exists.intro (some (.inl v9)) (And.intro (tX9_contentOf l (d + 0) hcv9) (And.intro (fun hb => ?_) (fun hb => ?_)))))))
                  · have hf := am_it hf hb
                    show X 61 [(0, .inr (.inr ((10, 0, 0), 215))), (1, .inl a1), (2, .inl x4), (3, .inl x5)] [] s1
                    exact am_wk hX [0, 1, 2, 3] (hJ61 x4 hf)
                  · have hf := am_if hf hb
                    show X 55 [(0, .inr (.inr ((10, 0, 0), 215))), (1, .inl a1), (2, .inl x4), (3, .inl x5)] [] s1
                    obtain ⟨v10, hcv10, hf⟩ := am_r_of hf
                    refine am_blk hX 31 4 (And.intro rfl (And.intro rfl (Exists.intro s1 (Exists.intro (some (.inl v10)) (And.intro (tX9_contentOf l (d + 0) hcv10) (?_))))))
                    show X 61 [(2, .inl v10), (0, .inr (.inr ((10, 0, 0), 215))), (1, .inl a1), (3, .inl x5)] [] s1
                    exact am_wk hX [1, 2, 0, 3] (hJ61 v10 hf)
        refine am_blk hX 14 4 (?_)
        show X 31 [(3, .inl (0 : Int32)), (2, .inl (0 : Int32)), (0, .inr (.inr ((10, 0, 0), 215))), (1, .inl a1)] [] s1
        exact am_wk hX [2, 3, 1, 0] (hL31 am_fu (0 : Int32) (0 : Int32) hf)
      · have hf := am_it hf hb
        show X 24 [(0, .inr (.inr ((10, 0, 0), 215))), (1, .inl a1)] [] s1
        exact am_wk hX [] (hJ24 hf)
def fX9_carries (s0 : AS) (a1 : Int32) : Option (AS × Int32) :=
  am_let (am_si s0 215 0 (0 : Int32)) (fun (s1 : AS) => am_r (fX9_isStep s1 a1) (fun (v2 : Int32) => if v2 = 0 then (some (s1, (-2 : Int32))) else (am_c (fX9_laysNow s1) (fun (s4 : AS) (v3 : Unit) => am_g (¬ (a1 < 0 ∨ 61 ≤ a1.toNatClampNeg)) (am_let (fun (x6 : Int32) => some (s4, x6)) (fun J46 => if (s4.1 231 a1.toNatClampNeg) = (-1 : Int32) then (J46 (-1 : Int32)) else (am_g (¬ (a1 < 0 ∨ 61 ≤ a1.toNatClampNeg)) (am_r (fX9_votesFor s4 a1 (s4.1 231 a1.toNatClampNeg) (0 : Int32)) (fun (v8 : Int32) => J46 v8)))))))))
def kX9_carries : List (Nat × Instr × Nat) := [(0, .aload_n 0, 1), (1, .iconst 0, 1), (2, .putfield 80, 3), (5, .aload_n 0, 1), (6, .iload_n 1, 1), (7, .invokevirtual 355, 3), (10, .ifCond .ne 6, 3), (13, .bipush (-2), 2), (15, .ireturn, 1), (16, .aload_n 0, 1), (17, .invokevirtual 358, 3), (20, .aload_n 0, 1), (21, .getfield 62, 3), (24, .iload_n 1, 1), (25, .iaload, 1), (26, .iconst (-1), 1), (27, .if_icmp .ne 7, 3), (30, .iconst (-1), 1), (31, .goto 15, 3), (34, .aload_n 0, 1), (35, .iload_n 1, 1), (36, .aload_n 0, 1), (37, .getfield 62, 3), (40, .iload_n 1, 1), (41, .iaload, 1), (42, .iconst 0, 1), (43, .invokevirtual 302, 3), (46, .ireturn, 1)]
theorem qX9_carries : ∀ q ∈ kX9_carries, decode mX9_carries.2.2.1 q.1 = .ok (q.2.1, q.2.2) ∧ am_iok mX9_carries.2.2.2.1 q.1 q.2.1 q.2.2 = true := by decide +kernel
set_option maxRecDepth 100000 in
theorem wX9_carries : Cond.code mX9_carries.2.1 mX9_carries.2.2.1 mX9_carries.2.2.2.1 mX9_carries.2.2.2.2.1 ∈ am_T := List.mem_filter.mpr ⟨List.mem_of_getElem? (i := 1774) rfl, rfl⟩
set_option maxHeartbeats 4000000 in
set_option maxRecDepth 100000 in
theorem tX9_carries (l : Launch) (d : Nat) {s0 : AS} {a1 : Int32} {sE : AS} {rE : Int32} (hf : fX9_carries s0 a1 = some (sE, rE)) : am_Ct l (d + 6) mX9_carries [.inr (.inr ((10, 0, 0), 215)), .inl a1] s0 sE (some (.inl rE)) := by
  refine am_sim l (d + 5) (code := kX9_carries) (by decide +kernel) wX9_carries qX9_carries (Nat.le_of_ble_eq_true rfl) ?_
  intro X hX
  show X 0 [(0, .inr (.inr ((10, 0, 0), 215))), (1, .inl a1)] [] s0
  unfold fX9_carries at hf
  refine am_blk hX 0 3 (And.intro rfl (am_nl (Z := fun s1 => X 5 [(0, .inr (.inr ((10, 0, 0), 215))), (1, .inl a1)] [] s1) hf (fun s1 hf => ?_)))
  obtain ⟨v2, hcv2, hf⟩ := am_r_of hf
  refine am_blk hX 3 4 (And.intro rfl (And.intro rfl (Exists.intro s1 (Exists.intro (some (.inl v2)) (And.intro (tX9_isStep l (d + 3) hcv2) (And.intro (fun hb => ?_) (fun hb => ?_)))))))
  · have hf := am_if hf hb
    show X 16 [(0, .inr (.inr ((10, 0, 0), 215))), (1, .inl a1)] [] s1
    obtain ⟨s4, v3, hcv3, hf⟩ := am_c_of hf
    obtain ⟨g5, hf⟩ := am_g_of hf
    refine am_jn hf (fun J46 => ∀ (x6 : Int32), J46 x6 = some (sE, rE) → X 46 [] [.inl x6] s4) ?_ ?_
    · intro x6 hf
      refine am_blk hX 27 1 (am_ri hf)
    · intro J46 hJ46 hf
      refine am_blk hX 9 8 (And.intro rfl (And.intro rfl (Exists.intro s4 (Exists.intro none (And.intro (tX9_laysNow l (d + 0) hcv3) (And.intro rfl (And.intro rfl (And.intro g5 (And.intro (fun hb => ?_) (fun hb => ?_))))))))))
      · have hf := am_if hf hb
        show X 34 [(0, .inr (.inr ((10, 0, 0), 215))), (1, .inl a1)] [] s4
        obtain ⟨g7, hf⟩ := am_g_of hf
        obtain ⟨v8, hcv8, hf⟩ := am_r_of hf
        refine am_blk hX 19 8 (And.intro rfl (And.intro rfl (And.intro g7 (And.intro rfl (And.intro rfl (Exists.intro s4 (Exists.intro (some (.inl v8)) (And.intro (tX9_votesFor l (d + 3) hcv8) (?_)))))))))
        show X 46 [(0, .inr (.inr ((10, 0, 0), 215))), (1, .inl a1)] [.inl v8] s4
        exact am_wk hX [] (hJ46 v8 hf)
      · have hf := am_it hf hb
        show X 30 [(0, .inr (.inr ((10, 0, 0), 215))), (1, .inl a1)] [] s4
        refine am_blk hX 17 2 (?_)
        show X 46 [(0, .inr (.inr ((10, 0, 0), 215))), (1, .inl a1)] [.inl (-1 : Int32)] s4
        exact am_wk hX [] (hJ46 (-1 : Int32) hf)
  · have hf := am_it hf hb
    show X 13 [(0, .inr (.inr ((10, 0, 0), 215))), (1, .inl a1)] [] s1
    refine am_blk hX 7 2 (am_ri hf)
