/-! METHODS, printed by gen.py. -/
def fX6_go_L12 (o0 : Nat) (o1 : Nat) (o2 : Nat) (J171 : AS → Option (AS × Unit)) : Nat → AS → Int32 → Int32 → Option (AS × Unit)
  | 0, _, _, _ => none
  | n12 + 1, s5, x6, x7 =>
    if (61 : Int32) ≤ x7 then (J171 s5) else (if (s5.1 o2 5) < x7 then (J171 s5) else (if x6 = (-1 : Int32) then (J171 s5) else (am_g (¬ (x7 < 0 ∨ 61 ≤ x7.toNatClampNeg)) (am_let (am_si s5 (o0 + 1) (x7.toNatClampNeg) x6) (fun (s9 : AS) => am_let (am_si s9 o0 8 ((s9.1 o0 8) ||| ((1 : Int32) <<< (x6 &&& 31)))) (fun (s10 : AS) => if x6 = (s10.1 o2 4) then (some (s10, ())) else (am_r (fX1_rainsAt s10 o2 x7) (fun (v11 : Int32) => am_let (fun (s12 : AS) => am_c (fX6_leaveAt s12 o0 o1 x7 x6) (fun (s14 : AS) (v13 : Unit) => am_g (¬ (x7 < 0 ∨ 61 ≤ x7.toNatClampNeg)) (am_let (am_si s14 (o0 + 2) (x7.toNatClampNeg) (s14.1 o0 10)) (fun (s16 : AS) => am_c (fX6_gatherVotes s16 o0 o1 o2 x7 x6) (fun (s18 : AS) (v17 : Unit) => am_c (fX6_chosen s18 o0 o1 (s18.1 o2 1)) (fun (s20 : AS) (v19 : Int32) => am_g (¬ (x7 < 0 ∨ 61 ≤ x7.toNatClampNeg)) (am_let (am_si s20 (o0 + 3) (x7.toNatClampNeg) v19) (fun (s22 : AS) => am_g (¬ (x7 < 0 ∨ 61 ≤ x7.toNatClampNeg)) (am_let (fun (s24 : AS) => am_g (¬ (x7 < 0 ∨ 61 ≤ x7.toNatClampNeg)) (am_let (s24.1 (o0 + 3) x7.toNatClampNeg) (fun (x26 : Int32) => am_let (x7 + (1 : Int32)) (fun (x27 : Int32) => fX6_go_L12 o0 o1 o2 J171 n12 s24 x26 x27)))) (fun J157 => if (s22.1 (o0 + 3) x7.toNatClampNeg) = (-1 : Int32) then (am_let (am_si s22 o0 6 x7) (fun (s28 : AS) => am_let (fun (x29 : Int32) => am_let (am_si s28 o0 7 x29) (fun (s30 : AS) => J157 s30)) (fun J154 => if (s28.1 o0 10) = 0 then (J154 (0 : Int32)) else (J154 (1 : Int32))))) else (J157 s22))))))))))) (fun J80 => if v11 = 0 then (am_c (fX6_fallIn s10 o0 o1 o2 x7 x6) (fun (s32 : AS) (v31 : Unit) => J80 s32)) else (J80 s10))))))))))
def fX6_go (s0 : AS) (o0 : Nat) (o1 : Nat) (o2 : Nat) : Option (AS × Unit) :=
  am_c (fX6_clear s0 o0) (fun (s2 : AS) (v1 : Unit) => am_let (s2.1 o2 0) (fun (x3 : Int32) => am_let (fun (s4 : AS) => some (s4, ())) (fun J171 => fX6_go_L12 o0 o1 o2 J171 am_fu s2 x3 (0 : Int32))))
def kX6_go : List (Nat × Instr × Nat) := [(0, .aload_n 0, 1), (1, .invokevirtual 36, 3), (4, .aload_n 2, 1), (5, .getfield 39, 3), (8, .istore_n 3, 1), (9, .iconst 0, 1), (10, .istore 4, 2), (12, .iload 4, 2), (14, .bipush 61, 2), (16, .if_icmp .ge 155, 3), (19, .iload 4, 2), (21, .aload_n 2, 1), (22, .getfield 45, 3), (25, .if_icmp .gt 146, 3), (28, .iload_n 3, 1), (29, .iconst (-1), 1), (30, .if_icmp .eq 141, 3), (33, .aload_n 0, 1), (34, .getfield 9, 3), (37, .iload 4, 2), (39, .iload_n 3, 1), (40, .iastore, 1), (41, .aload_n 0, 1), (42, .dup, 1), (43, .getfield 48, 3), (46, .iconst 1, 1), (47, .iload_n 3, 1), (48, .ishl, 1), (49, .ior, 1), (50, .putfield 48, 3), (53, .iload_n 3, 1), (54, .aload_n 2, 1), (55, .getfield 51, 3), (58, .if_icmp .ne 4, 3), (61, .return_, 1), (62, .aload_n 2, 1), (63, .iload 4, 2), (65, .invokevirtual 54, 3), (68, .ifCond .ne 12, 3), (71, .aload_n 0, 1), (72, .aload_n 1, 1), (73, .aload_n 2, 1), (74, .iload 4, 2), (76, .iload_n 3, 1), (77, .invokevirtual 58, 3), (80, .aload_n 0, 1), (81, .aload_n 1, 1), (82, .iload 4, 2), (84, .iload_n 3, 1), (85, .invokevirtual 62, 3), (88, .aload_n 0, 1), (89, .getfield 15, 3), (92, .iload 4, 2), (94, .aload_n 0, 1), (95, .getfield 66, 3), (98, .iastore, 1), (99, .aload_n 0, 1), (100, .aload_n 1, 1), (101, .aload_n 2, 1), (102, .iload 4, 2), (104, .iload_n 3, 1), (105, .invokevirtual 69, 3), (108, .aload_n 0, 1), (109, .getfield 18, 3), (112, .iload 4, 2), (114, .aload_n 0, 1), (115, .aload_n 1, 1), (116, .aload_n 2, 1), (117, .getfield 72, 3), (120, .invokevirtual 75, 3), (123, .iastore, 1), (124, .aload_n 0, 1), (125, .getfield 18, 3), (128, .iload 4, 2), (130, .iaload, 1), (131, .iconst (-1), 1), (132, .if_icmp .ne 25, 3), (135, .aload_n 0, 1), (136, .iload 4, 2), (138, .putfield 79, 3), (141, .aload_n 0, 1), (142, .aload_n 0, 1), (143, .getfield 66, 3), (146, .ifCond .ne 7, 3), (149, .iconst 0, 1), (150, .goto 4, 3), (153, .iconst 1, 1), (154, .putfield 82, 3), (157, .aload_n 0, 1), (158, .getfield 18, 3), (161, .iload 4, 2), (163, .iaload, 1), (164, .istore_n 3, 1), (165, .iinc 4 1, 3), (168, .goto (-156), 3), (171, .return_, 1)]
theorem qX6_go : ∀ q ∈ kX6_go, decode mX6_go.2.2.1 q.1 = .ok (q.2.1, q.2.2) ∧ am_iok mX6_go.2.2.2.1 q.1 q.2.1 q.2.2 = true := by decide +kernel
set_option maxRecDepth 100000 in
theorem wX6_go : Cond.code mX6_go.2.1 mX6_go.2.2.1 mX6_go.2.2.2.1 mX6_go.2.2.2.2.1 ∈ am_T := List.mem_filter.mpr ⟨List.mem_of_getElem? (i := 751) rfl, rfl⟩
set_option maxHeartbeats 4000000 in
set_option maxRecDepth 100000 in
theorem tX6_go (l : Launch) (d : Nat) {s0 : AS} {o0 : Nat} {o1 : Nat} {o2 : Nat} {sE : AS} {rE : Unit} (hf : fX6_go s0 o0 o1 o2 = some (sE, rE)) : am_Ct l (d + 4) mX6_go [.inr (.inr ((7, 0, 0), o0)), .inr (.inr ((4, 0, 0), o1)), .inr (.inr ((2, 0, 0), o2))] s0 sE none := by
  refine am_sim l (d + 3) (code := kX6_go) (by decide +kernel) wX6_go qX6_go (Nat.le_of_ble_eq_true rfl) ?_
  intro X hX
  show X 0 [(0, .inr (.inr ((7, 0, 0), o0))), (1, .inr (.inr ((4, 0, 0), o1))), (2, .inr (.inr ((2, 0, 0), o2)))] [] s0
  unfold fX6_go at hf
  obtain ⟨s2, v1, hcv1, hf⟩ := am_c_of hf
  refine am_blk hX 0 5 (And.intro rfl (And.intro rfl (Exists.intro s2 (Exists.intro none (And.intro (tX6_clear l (d + 1) hcv1) (And.intro rfl (am_nl (Z := fun x3 => X 9 [(3, .inl x3), (0, .inr (.inr ((7, 0, 0), o0))), (1, .inr (.inr ((4, 0, 0), o1))), (2, .inr (.inr ((2, 0, 0), o2)))] [] s2) hf (fun x3 hf => ?_))))))))
  refine am_jn hf (fun J171 => ∀ (s4 : AS), J171 s4 = some (sE, rE) → X 171 [] [] s4) ?_ ?_
  · intro s4 hf
    refine am_blk hX 95 1 (And.intro rfl (am_rv hf))
  · intro J171 hJ171 hf
    have hL12 : ∀ (n12 : Nat) (s5 : AS) (x6 : Int32) (x7 : Int32), fX6_go_L12 o0 o1 o2 J171 n12 s5 x6 x7 = some (sE, rE) → X 12 [(0, .inr (.inr ((7, 0, 0), o0))), (1, .inr (.inr ((4, 0, 0), o1))), (2, .inr (.inr ((2, 0, 0), o2))), (3, .inl x6), (4, .inl x7)] [] s5 := by
      intro n12
      induction n12 with
      | zero => intro s5 x6 x7 hf; exact am_no (show none = some _ from hf)
      | succ n12 ih12 =>
        intro s5 x6 x7 hf
        refine am_blk hX 7 3 (And.intro (fun hb => ?_) (fun hb => ?_))
        · have hf := am_it hf hb
          show X 171 [(0, .inr (.inr ((7, 0, 0), o0))), (1, .inr (.inr ((4, 0, 0), o1))), (2, .inr (.inr ((2, 0, 0), o2))), (3, .inl x6), (4, .inl x7)] [] s5
          exact am_wk hX [] (hJ171 s5 hf)
        · have hf := am_if hf hb
          show X 19 [(0, .inr (.inr ((7, 0, 0), o0))), (1, .inr (.inr ((4, 0, 0), o1))), (2, .inr (.inr ((2, 0, 0), o2))), (3, .inl x6), (4, .inl x7)] [] s5
          refine am_blk hX 10 4 (And.intro rfl (And.intro (fun hb => ?_) (fun hb => ?_)))
          · have hf := am_it hf hb
            show X 171 [(0, .inr (.inr ((7, 0, 0), o0))), (1, .inr (.inr ((4, 0, 0), o1))), (2, .inr (.inr ((2, 0, 0), o2))), (3, .inl x6), (4, .inl x7)] [] s5
            exact am_wk hX [] (hJ171 s5 hf)
          · have hf := am_if hf hb
            show X 28 [(0, .inr (.inr ((7, 0, 0), o0))), (1, .inr (.inr ((4, 0, 0), o1))), (2, .inr (.inr ((2, 0, 0), o2))), (3, .inl x6), (4, .inl x7)] [] s5
            refine am_blk hX 14 3 (And.intro (fun hb => ?_) (fun hb => ?_))
            · have hf := am_it hf hb
              show X 171 [(0, .inr (.inr ((7, 0, 0), o0))), (1, .inr (.inr ((4, 0, 0), o1))), (2, .inr (.inr ((2, 0, 0), o2))), (3, .inl x6), (4, .inl x7)] [] s5
              exact am_wk hX [] (hJ171 s5 hf)
            · have hf := am_if hf hb
              show X 33 [(0, .inr (.inr ((7, 0, 0), o0))), (1, .inr (.inr ((4, 0, 0), o1))), (2, .inr (.inr ((2, 0, 0), o2))), (3, .inl x6), (4, .inl x7)] [] s5
              obtain ⟨g8, hf⟩ := am_g_of hf
              refine am_blk hX 17 5 (And.intro rfl (And.intro rfl (And.intro g8 (am_nl (Z := fun s9 => X 41 [(0, .inr (.inr ((7, 0, 0), o0))), (1, .inr (.inr ((4, 0, 0), o1))), (2, .inr (.inr ((2, 0, 0), o2))), (3, .inl x6), (4, .inl x7)] [] s9) hf (fun s9 hf => ?_)))))
              refine am_blk hX 22 8 (And.intro rfl (And.intro rfl (am_nl (Z := fun s10 => X 53 [(0, .inr (.inr ((7, 0, 0), o0))), (1, .inr (.inr ((4, 0, 0), o1))), (2, .inr (.inr ((2, 0, 0), o2))), (3, .inl x6), (4, .inl x7)] [] s10) hf (fun s10 hf => ?_))))
              refine am_blk hX 30 4 (And.intro rfl (And.intro (fun hb => ?_) (fun hb => ?_)))
              · have hf := am_if hf hb
                show X 62 [(0, .inr (.inr ((7, 0, 0), o0))), (1, .inr (.inr ((4, 0, 0), o1))), (2, .inr (.inr ((2, 0, 0), o2))), (3, .inl x6), (4, .inl x7)] [] s10
                obtain ⟨v11, hcv11, hf⟩ := am_r_of hf
                refine am_jn hf (fun J80 => ∀ (s12 : AS), J80 s12 = some (sE, rE) → X 80 [(0, .inr (.inr ((7, 0, 0), o0))), (1, .inr (.inr ((4, 0, 0), o1))), (2, .inr (.inr ((2, 0, 0), o2))), (3, .inl x6), (4, .inl x7)] [] s12) ?_ ?_
                · intro s12 hf
                  obtain ⟨s14, v13, hcv13, hf⟩ := am_c_of hf
                  obtain ⟨g15, hf⟩ := am_g_of hf
                  refine am_blk hX 45 11 (And.intro rfl (And.intro rfl (Exists.intro s14 (Exists.intro none (And.intro (tX6_leaveAt l (d + 1) hcv13) (And.intro rfl (And.intro rfl (And.intro rfl (And.intro g15 (am_nl (Z := fun s16 => X 99 [(0, .inr (.inr ((7, 0, 0), o0))), (1, .inr (.inr ((4, 0, 0), o1))), (2, .inr (.inr ((2, 0, 0), o2))), (3, .inl x6), (4, .inl x7)] [] s16) hf (fun s16 hf => ?_)))))))))))
                  obtain ⟨s18, v17, hcv17, hf⟩ := am_c_of hf
                  obtain ⟨s20, v19, hcv19, hf⟩ := am_c_of hf
                  obtain ⟨g21, hf⟩ := am_g_of hf
                  refine am_blk hX 56 15 (And.intro rfl (And.intro rfl (Exists.intro s18 (Exists.intro none (And.intro (tX6_gatherVotes l (d + 0) hcv17) (And.intro rfl (And.intro rfl (And.intro rfl (And.intro rfl (Exists.intro s20 (Exists.intro (some (.inl v19)) (And.intro (tX6_chosen l (d + 0) hcv19) (And.intro rfl (And.intro g21 (am_nl (Z := fun s22 => X 124 [(0, .inr (.inr ((7, 0, 0), o0))), (1, .inr (.inr ((4, 0, 0), o1))), (2, .inr (.inr ((2, 0, 0), o2))), (3, .inl x6), (4, .inl x7)] [] s22) hf (fun s22 hf => ?_))))))))))))))))
                  obtain ⟨g23, hf⟩ := am_g_of hf
                  refine am_jn hf (fun J157 => ∀ (s24 : AS), J157 s24 = some (sE, rE) → X 157 [(0, .inr (.inr ((7, 0, 0), o0))), (1, .inr (.inr ((4, 0, 0), o1))), (2, .inr (.inr ((2, 0, 0), o2))), (4, .inl x7)] [] s24) ?_ ?_
                  · intro s24 hf
                    obtain ⟨g25, hf⟩ := am_g_of hf
                    refine am_blk hX 88 5 (And.intro rfl (And.intro rfl (And.intro g25 (am_nl (Z := fun x26 => X 165 [(3, .inl x26), (0, .inr (.inr ((7, 0, 0), o0))), (1, .inr (.inr ((4, 0, 0), o1))), (2, .inr (.inr ((2, 0, 0), o2))), (4, .inl x7)] [] s24) hf (fun x26 hf => ?_)))))
                    refine am_blk hX 93 1 (am_nl (Z := fun x27 => X 168 [(4, .inl x27), (3, .inl x26), (0, .inr (.inr ((7, 0, 0), o0))), (1, .inr (.inr ((4, 0, 0), o1))), (2, .inr (.inr ((2, 0, 0), o2)))] [] s24) hf (fun x27 hf => ?_))
                    refine am_blk hX 94 1 (?_)
                    show X 12 [(4, .inl x27), (3, .inl x26), (0, .inr (.inr ((7, 0, 0), o0))), (1, .inr (.inr ((4, 0, 0), o1))), (2, .inr (.inr ((2, 0, 0), o2)))] [] s24
                    exact am_wk hX [2, 3, 4, 1, 0] (ih12 s24 x26 x27 hf)
                  · intro J157 hJ157 hf
                    refine am_blk hX 71 6 (And.intro rfl (And.intro rfl (And.intro g23 (And.intro (fun hb => ?_) (fun hb => ?_)))))
                    · have hf := am_if hf hb
                      show X 157 [(0, .inr (.inr ((7, 0, 0), o0))), (1, .inr (.inr ((4, 0, 0), o1))), (2, .inr (.inr ((2, 0, 0), o2))), (3, .inl x6), (4, .inl x7)] [] s22
                      exact am_wk hX [0, 1, 2, 4] (hJ157 s22 hf)
                    · have hf := am_it hf hb
                      show X 135 [(0, .inr (.inr ((7, 0, 0), o0))), (1, .inr (.inr ((4, 0, 0), o1))), (2, .inr (.inr ((2, 0, 0), o2))), (3, .inl x6), (4, .inl x7)] [] s22
                      refine am_blk hX 77 3 (And.intro rfl (am_nl (Z := fun s28 => X 141 [(0, .inr (.inr ((7, 0, 0), o0))), (1, .inr (.inr ((4, 0, 0), o1))), (2, .inr (.inr ((2, 0, 0), o2))), (3, .inl x6), (4, .inl x7)] [] s28) hf (fun s28 hf => ?_)))
                      refine am_jn hf (fun J154 => ∀ (x29 : Int32), J154 x29 = some (sE, rE) → X 154 [(0, .inr (.inr ((7, 0, 0), o0))), (1, .inr (.inr ((4, 0, 0), o1))), (2, .inr (.inr ((2, 0, 0), o2))), (4, .inl x7)] [.inl x29, .inr (.inr ((7, 0, 0), o0))] s28) ?_ ?_
                      · intro x29 hf
                        refine am_blk hX 87 1 (And.intro rfl (am_nl (Z := fun s30 => X 157 [(0, .inr (.inr ((7, 0, 0), o0))), (1, .inr (.inr ((4, 0, 0), o1))), (2, .inr (.inr ((2, 0, 0), o2))), (4, .inl x7)] [] s30) hf (fun s30 hf => ?_)))
                        exact am_wk hX [0, 1, 2, 3] (hJ157 s30 hf)
                      · intro J154 hJ154 hf
                        refine am_blk hX 80 4 (And.intro rfl (And.intro (fun hb => ?_) (fun hb => ?_)))
                        · have hf := am_if hf hb
                          show X 153 [(0, .inr (.inr ((7, 0, 0), o0))), (1, .inr (.inr ((4, 0, 0), o1))), (2, .inr (.inr ((2, 0, 0), o2))), (3, .inl x6), (4, .inl x7)] [.inr (.inr ((7, 0, 0), o0))] s28
                          refine am_blk hX 86 1 (?_)
                          show X 154 [(0, .inr (.inr ((7, 0, 0), o0))), (1, .inr (.inr ((4, 0, 0), o1))), (2, .inr (.inr ((2, 0, 0), o2))), (3, .inl x6), (4, .inl x7)] [.inl (1 : Int32), .inr (.inr ((7, 0, 0), o0))] s28
                          exact am_wk hX [0, 1, 2, 4] (hJ154 (1 : Int32) hf)
                        · have hf := am_it hf hb
                          show X 149 [(0, .inr (.inr ((7, 0, 0), o0))), (1, .inr (.inr ((4, 0, 0), o1))), (2, .inr (.inr ((2, 0, 0), o2))), (3, .inl x6), (4, .inl x7)] [.inr (.inr ((7, 0, 0), o0))] s28
                          refine am_blk hX 84 2 (?_)
                          show X 154 [(0, .inr (.inr ((7, 0, 0), o0))), (1, .inr (.inr ((4, 0, 0), o1))), (2, .inr (.inr ((2, 0, 0), o2))), (3, .inl x6), (4, .inl x7)] [.inl (0 : Int32), .inr (.inr ((7, 0, 0), o0))] s28
                          exact am_wk hX [0, 1, 2, 4] (hJ154 (0 : Int32) hf)
                · intro J80 hJ80 hf
                  refine am_blk hX 35 4 (And.intro rfl (And.intro rfl (Exists.intro s10 (Exists.intro (some (.inl v11)) (And.intro (tX1_rainsAt l (d + 2) hcv11) (And.intro (fun hb => ?_) (fun hb => ?_)))))))
                  · have hf := am_if hf hb
                    show X 80 [(0, .inr (.inr ((7, 0, 0), o0))), (1, .inr (.inr ((4, 0, 0), o1))), (2, .inr (.inr ((2, 0, 0), o2))), (3, .inl x6), (4, .inl x7)] [] s10
                    exact am_wk hX [0, 1, 2, 3, 4] (hJ80 s10 hf)
                  · have hf := am_it hf hb
                    show X 71 [(0, .inr (.inr ((7, 0, 0), o0))), (1, .inr (.inr ((4, 0, 0), o1))), (2, .inr (.inr ((2, 0, 0), o2))), (3, .inl x6), (4, .inl x7)] [] s10
                    obtain ⟨s32, v31, hcv31, hf⟩ := am_c_of hf
                    refine am_blk hX 39 6 (And.intro rfl (And.intro rfl (Exists.intro s32 (Exists.intro none (And.intro (tX6_fallIn l (d + 0) hcv31) (?_))))))
                    show X 80 [(0, .inr (.inr ((7, 0, 0), o0))), (1, .inr (.inr ((4, 0, 0), o1))), (2, .inr (.inr ((2, 0, 0), o2))), (3, .inl x6), (4, .inl x7)] [] s32
                    exact am_wk hX [0, 1, 2, 3, 4] (hJ80 s32 hf)
              · have hf := am_it hf hb
                show X 61 [(0, .inr (.inr ((7, 0, 0), o0))), (1, .inr (.inr ((4, 0, 0), o1))), (2, .inr (.inr ((2, 0, 0), o2))), (3, .inl x6), (4, .inl x7)] [] s10
                refine am_blk hX 34 1 (And.intro rfl (am_rv hf))
    refine am_blk hX 5 2 (?_)
    show X 12 [(4, .inl (0 : Int32)), (3, .inl x3), (0, .inr (.inr ((7, 0, 0), o0))), (1, .inr (.inr ((4, 0, 0), o1))), (2, .inr (.inr ((2, 0, 0), o2)))] [] s2
    exact am_wk hX [2, 3, 4, 1, 0] (hL12 am_fu s2 x3 (0 : Int32) hf)
def fX7_areBeside (s0 : AS) (o0 : Nat) (a1 : Int32) (a2 : Int32) : Option Int32 :=
  am_r (fX7_has s0 o0 a1 a2) (fun (v1 : Int32) => am_let (fun (x2 : Int32) => am_g (x2 = 0 ∨ x2 = 1) (some x2)) (fun J27 => am_let (J27 (0 : Int32)) (fun J26 => if v1 = 0 then (J26) else (am_g (¬ (a1 < 0 ∨ 7 ≤ a1.toNatClampNeg)) (am_g (¬ (a2 < 0 ∨ 7 ≤ a2.toNatClampNeg)) (if (1000000 : Int32) ≤ (s0.1 (o0 + 1 + 1 + a1.toNatClampNeg) a2.toNatClampNeg) then (J26) else (J27 (1 : Int32))))))))
def kX7_areBeside : List (Nat × Instr × Nat) := [(0, .aload_n 0, 1), (1, .iload_n 1, 1), (2, .iload_n 2, 1), (3, .invokevirtual 71, 3), (6, .ifCond .eq 20, 3), (9, .aload_n 0, 1), (10, .getfield 11, 3), (13, .iload_n 1, 1), (14, .aaload, 1), (15, .iload_n 2, 1), (16, .iaload, 1), (17, .ldc 29, 2), (19, .if_icmp .ge 7, 3), (22, .iconst 1, 1), (23, .goto 4, 3), (26, .iconst 0, 1), (27, .ireturn, 1)]
theorem qX7_areBeside : ∀ q ∈ kX7_areBeside, decode mX7_areBeside.2.2.1 q.1 = .ok (q.2.1, q.2.2) ∧ am_iok mX7_areBeside.2.2.2.1 q.1 q.2.1 q.2.2 = true := by decide +kernel
set_option maxRecDepth 100000 in
theorem wX7_areBeside : Cond.code mX7_areBeside.2.1 mX7_areBeside.2.2.1 mX7_areBeside.2.2.2.1 mX7_areBeside.2.2.2.2.1 ∈ am_T := List.mem_filter.mpr ⟨List.mem_of_getElem? (i := 913) rfl, rfl⟩
set_option maxHeartbeats 4000000 in
set_option maxRecDepth 100000 in
theorem tX7_areBeside (l : Launch) (d : Nat) {s0 : AS} {o0 : Nat} {a1 : Int32} {a2 : Int32} {rE : Int32} (hf : fX7_areBeside s0 o0 a1 a2 = some rE) : am_Ct l (d + 2) mX7_areBeside [.inr (.inr ((8, 0, 0), o0)), .inl a1, .inl a2] s0 s0 (some (.inl rE)) := by
  refine am_sim l (d + 1) (code := kX7_areBeside) (by decide +kernel) wX7_areBeside qX7_areBeside (Nat.le_of_ble_eq_true rfl) ?_
  intro X hX
  show X 0 [(0, .inr (.inr ((8, 0, 0), o0))), (1, .inl a1), (2, .inl a2)] [] s0
  unfold fX7_areBeside at hf
  obtain ⟨v1, hcv1, hf⟩ := am_r_of hf
  refine am_jn hf (fun J27 => ∀ (x2 : Int32), J27 x2 = some rE → X 27 [] [.inl x2] s0) ?_ ?_
  · intro x2 hf
    obtain ⟨g3, hf⟩ := am_g_of hf
    refine am_blk hX 16 1 (And.intro g3 (am_rpi hf))
  · intro J27 hJ27 hf
    refine am_jn hf (fun J26 => J26 = some rE → X 26 [] [] s0) ?_ ?_
    · intro hf
      refine am_blk hX 15 1 (?_)
      show X 27 [] [.inl (0 : Int32)] s0
      exact am_wk hX [] (hJ27 (0 : Int32) hf)
    · intro J26 hJ26 hf
      refine am_blk hX 0 5 (And.intro rfl (And.intro rfl (Exists.intro s0 (Exists.intro (some (.inl v1)) (And.intro (tX7_has l (d + 0) hcv1) (And.intro (fun hb => ?_) (fun hb => ?_)))))))
      · have hf := am_it hf hb
        show X 26 [(0, .inr (.inr ((8, 0, 0), o0))), (1, .inl a1), (2, .inl a2)] [] s0
        exact am_wk hX [] (hJ26 hf)
      · have hf := am_if hf hb
        show X 9 [(0, .inr (.inr ((8, 0, 0), o0))), (1, .inl a1), (2, .inl a2)] [] s0
        obtain ⟨g4, hf⟩ := am_g_of hf
        obtain ⟨g5, hf⟩ := am_g_of hf
        refine am_blk hX 5 8 (And.intro rfl (And.intro g4 (And.intro rfl (And.intro g5 (And.intro (fun hb => ?_) (fun hb => ?_))))))
        · have hf := am_it hf hb
          show X 26 [(0, .inr (.inr ((8, 0, 0), o0))), (1, .inl a1), (2, .inl a2)] [] s0
          exact am_wk hX [] (hJ26 hf)
        · have hf := am_if hf hb
          show X 22 [(0, .inr (.inr ((8, 0, 0), o0))), (1, .inl a1), (2, .inl a2)] [] s0
          refine am_blk hX 13 2 (?_)
          show X 27 [(0, .inr (.inr ((8, 0, 0), o0))), (1, .inl a1), (2, .inl a2)] [.inl (1 : Int32)] s0
          exact am_wk hX [] (hJ27 (1 : Int32) hf)
def fX7_besideBy (s0 : AS) (o0 : Nat) (a1 : Int32) (a2 : Int32) : Option Int32 :=
  am_r (fX7_areBeside s0 o0 a1 a2) (fun (v1 : Int32) => am_let (fun (x2 : Int32) => some x2) (fun J21 => if v1 = 0 then (J21 (0 : Int32)) else (am_g (¬ (a1 < 0 ∨ 7 ≤ a1.toNatClampNeg)) (am_g (¬ (a2 < 0 ∨ 7 ≤ a2.toNatClampNeg)) (J21 (s0.1 (o0 + 1 + 1 + a1.toNatClampNeg) a2.toNatClampNeg))))))
def kX7_besideBy : List (Nat × Instr × Nat) := [(0, .aload_n 0, 1), (1, .iload_n 1, 1), (2, .iload_n 2, 1), (3, .invokevirtual 74, 3), (6, .ifCond .eq 14, 3), (9, .aload_n 0, 1), (10, .getfield 11, 3), (13, .iload_n 1, 1), (14, .aaload, 1), (15, .iload_n 2, 1), (16, .iaload, 1), (17, .goto 4, 3), (20, .iconst 0, 1), (21, .ireturn, 1)]
theorem qX7_besideBy : ∀ q ∈ kX7_besideBy, decode mX7_besideBy.2.2.1 q.1 = .ok (q.2.1, q.2.2) ∧ am_iok mX7_besideBy.2.2.2.1 q.1 q.2.1 q.2.2 = true := by decide +kernel
set_option maxRecDepth 100000 in
theorem wX7_besideBy : Cond.code mX7_besideBy.2.1 mX7_besideBy.2.2.1 mX7_besideBy.2.2.2.1 mX7_besideBy.2.2.2.2.1 ∈ am_T := List.mem_filter.mpr ⟨List.mem_of_getElem? (i := 909) rfl, rfl⟩
set_option maxHeartbeats 4000000 in
set_option maxRecDepth 100000 in
theorem tX7_besideBy (l : Launch) (d : Nat) {s0 : AS} {o0 : Nat} {a1 : Int32} {a2 : Int32} {rE : Int32} (hf : fX7_besideBy s0 o0 a1 a2 = some rE) : am_Ct l (d + 3) mX7_besideBy [.inr (.inr ((8, 0, 0), o0)), .inl a1, .inl a2] s0 s0 (some (.inl rE)) := by
  refine am_sim l (d + 2) (code := kX7_besideBy) (by decide +kernel) wX7_besideBy qX7_besideBy (Nat.le_of_ble_eq_true rfl) ?_
  intro X hX
  show X 0 [(0, .inr (.inr ((8, 0, 0), o0))), (1, .inl a1), (2, .inl a2)] [] s0
  unfold fX7_besideBy at hf
  obtain ⟨v1, hcv1, hf⟩ := am_r_of hf
  refine am_jn hf (fun J21 => ∀ (x2 : Int32), J21 x2 = some rE → X 21 [] [.inl x2] s0) ?_ ?_
  · intro x2 hf
    refine am_blk hX 13 1 (am_rpi hf)
  · intro J21 hJ21 hf
    refine am_blk hX 0 5 (And.intro rfl (And.intro rfl (Exists.intro s0 (Exists.intro (some (.inl v1)) (And.intro (tX7_areBeside l (d + 0) hcv1) (And.intro (fun hb => ?_) (fun hb => ?_)))))))
    · have hf := am_it hf hb
      show X 20 [(0, .inr (.inr ((8, 0, 0), o0))), (1, .inl a1), (2, .inl a2)] [] s0
      refine am_blk hX 12 1 (?_)
      show X 21 [(0, .inr (.inr ((8, 0, 0), o0))), (1, .inl a1), (2, .inl a2)] [.inl (0 : Int32)] s0
      exact am_wk hX [] (hJ21 (0 : Int32) hf)
    · have hf := am_if hf hb
      show X 9 [(0, .inr (.inr ((8, 0, 0), o0))), (1, .inl a1), (2, .inl a2)] [] s0
      obtain ⟨g3, hf⟩ := am_g_of hf
      obtain ⟨g4, hf⟩ := am_g_of hf
      refine am_blk hX 5 7 (And.intro rfl (And.intro g3 (And.intro rfl (And.intro g4 (?_)))))
      show X 21 [(0, .inr (.inr ((8, 0, 0), o0))), (1, .inl a1), (2, .inl a2)] [.inl (s0.1 (o0 + 1 + 1 + a1.toNatClampNeg) a2.toNatClampNeg)] s0
      exact am_wk hX [] (hJ21 (s0.1 (o0 + 1 + 1 + a1.toNatClampNeg) a2.toNatClampNeg) hf)
def fX7_findFirst_L2 (o0 : Nat) (a1 : Int32) (a2 : Int32) (s0 : AS) : Nat → Int32 → Option Int32
  | 0, _ => none
  | n2 + 1, x1 =>
    if (s0.1 o0 0) ≤ x1 then (some (-1 : Int32)) else (am_g (¬ (a1 < 0 ∨ 7 ≤ a1.toNatClampNeg)) (am_g (¬ (x1 < 0 ∨ 7 ≤ x1.toNatClampNeg)) (am_let (am_let (x1 + (1 : Int32)) (fun (x4 : Int32) => fX7_findFirst_L2 o0 a1 a2 s0 n2 x4)) (fun J53 => if (1000000 : Int32) ≤ (s0.1 (o0 + 1 + 1 + a1.toNatClampNeg) x1.toNatClampNeg) then (J53) else (am_g (¬ (a1 < 0 ∨ 7 ≤ a1.toNatClampNeg)) (am_g (¬ (x1 < 0 ∨ 7 ≤ x1.toNatClampNeg)) (am_g (¬ (x1 < 0 ∨ 7 ≤ x1.toNatClampNeg)) (am_g (¬ (a2 < 0 ∨ 7 ≤ a2.toNatClampNeg)) (am_g (¬ (a1 < 0 ∨ 7 ≤ a1.toNatClampNeg)) (am_g (¬ (a2 < 0 ∨ 7 ≤ a2.toNatClampNeg)) (if ((s0.1 (o0 + 1 + 1 + a1.toNatClampNeg) x1.toNatClampNeg) + (s0.1 (o0 + 9 + 1 + x1.toNatClampNeg) a2.toNatClampNeg)) = (s0.1 (o0 + 9 + 1 + a1.toNatClampNeg) a2.toNatClampNeg) then (some x1) else (J53))))))))))))
def fX7_findFirst (s0 : AS) (o0 : Nat) (a1 : Int32) (a2 : Int32) : Option Int32 :=
  fX7_findFirst_L2 o0 a1 a2 s0 am_fu (0 : Int32)
def kX7_findFirst : List (Nat × Instr × Nat) := [(0, .iconst 0, 1), (1, .istore_n 3, 1), (2, .iload_n 3, 1), (3, .aload_n 0, 1), (4, .getfield 28, 3), (7, .if_icmp .ge 52, 3), (10, .aload_n 0, 1), (11, .getfield 11, 3), (14, .iload_n 1, 1), (15, .aaload, 1), (16, .iload_n 3, 1), (17, .iaload, 1), (18, .ldc 29, 2), (20, .if_icmp .ge 33, 3), (23, .aload_n 0, 1), (24, .getfield 11, 3), (27, .iload_n 1, 1), (28, .aaload, 1), (29, .iload_n 3, 1), (30, .iaload, 1), (31, .aload_n 0, 1), (32, .getfield 16, 3), (35, .iload_n 3, 1), (36, .aaload, 1), (37, .iload_n 2, 1), (38, .iaload, 1), (39, .iadd, 1), (40, .aload_n 0, 1), (41, .getfield 16, 3), (44, .iload_n 1, 1), (45, .aaload, 1), (46, .iload_n 2, 1), (47, .iaload, 1), (48, .if_icmp .ne 5, 3), (51, .iload_n 3, 1), (52, .ireturn, 1), (53, .iinc 3 1, 3), (56, .goto (-54), 3), (59, .iconst (-1), 1), (60, .ireturn, 1)]
theorem qX7_findFirst : ∀ q ∈ kX7_findFirst, decode mX7_findFirst.2.2.1 q.1 = .ok (q.2.1, q.2.2) ∧ am_iok mX7_findFirst.2.2.2.1 q.1 q.2.1 q.2.2 = true := by decide +kernel
set_option maxRecDepth 100000 in
theorem wX7_findFirst : Cond.code mX7_findFirst.2.1 mX7_findFirst.2.2.1 mX7_findFirst.2.2.2.1 mX7_findFirst.2.2.2.2.1 ∈ am_T := List.mem_filter.mpr ⟨List.mem_of_getElem? (i := 739) rfl, rfl⟩
set_option maxHeartbeats 4000000 in
set_option maxRecDepth 100000 in
theorem tX7_findFirst (l : Launch) (d : Nat) {s0 : AS} {o0 : Nat} {a1 : Int32} {a2 : Int32} {rE : Int32} (hf : fX7_findFirst s0 o0 a1 a2 = some rE) : am_Ct l (d + 1) mX7_findFirst [.inr (.inr ((8, 0, 0), o0)), .inl a1, .inl a2] s0 s0 (some (.inl rE)) := by
  refine am_sim l (d + 0) (code := kX7_findFirst) (by decide +kernel) wX7_findFirst qX7_findFirst (Nat.le_of_ble_eq_true rfl) ?_
  intro X hX
  show X 0 [(0, .inr (.inr ((8, 0, 0), o0))), (1, .inl a1), (2, .inl a2)] [] s0
  unfold fX7_findFirst at hf
  have hL2 : ∀ (n2 : Nat) (x1 : Int32), fX7_findFirst_L2 o0 a1 a2 s0 n2 x1 = some rE → X 2 [(0, .inr (.inr ((8, 0, 0), o0))), (1, .inl a1), (2, .inl a2), (3, .inl x1)] [] s0 := by
    intro n2
    induction n2 with
    | zero => intro x1 hf; exact am_no (show none = some _ from hf)
    | succ n2 ih2 =>
      intro x1 hf
      refine am_blk hX 2 4 (And.intro rfl (And.intro (fun hb => ?_) (fun hb => ?_)))
      · have hf := am_it hf hb
        show X 59 [(0, .inr (.inr ((8, 0, 0), o0))), (1, .inl a1), (2, .inl a2), (3, .inl x1)] [] s0
        refine am_blk hX 38 2 (am_rpi hf)
      · have hf := am_if hf hb
        show X 10 [(0, .inr (.inr ((8, 0, 0), o0))), (1, .inl a1), (2, .inl a2), (3, .inl x1)] [] s0
        obtain ⟨g2, hf⟩ := am_g_of hf
        obtain ⟨g3, hf⟩ := am_g_of hf
        refine am_jn hf (fun J53 => J53 = some rE → X 53 [(0, .inr (.inr ((8, 0, 0), o0))), (1, .inl a1), (2, .inl a2), (3, .inl x1)] [] s0) ?_ ?_
        · intro hf
          refine am_blk hX 36 1 (am_nl (Z := fun x4 => X 56 [(3, .inl x4), (0, .inr (.inr ((8, 0, 0), o0))), (1, .inl a1), (2, .inl a2)] [] s0) hf (fun x4 hf => ?_))
          refine am_blk hX 37 1 (?_)
          show X 2 [(3, .inl x4), (0, .inr (.inr ((8, 0, 0), o0))), (1, .inl a1), (2, .inl a2)] [] s0
          exact am_wk hX [1, 2, 3, 0] (ih2 x4 hf)
        · intro J53 hJ53 hf
          refine am_blk hX 6 8 (And.intro rfl (And.intro g2 (And.intro rfl (And.intro g3 (And.intro (fun hb => ?_) (fun hb => ?_))))))
          · have hf := am_it hf hb
            show X 53 [(0, .inr (.inr ((8, 0, 0), o0))), (1, .inl a1), (2, .inl a2), (3, .inl x1)] [] s0
            exact am_wk hX [0, 1, 2, 3] (hJ53 hf)
          · have hf := am_if hf hb
            show X 23 [(0, .inr (.inr ((8, 0, 0), o0))), (1, .inl a1), (2, .inl a2), (3, .inl x1)] [] s0
            obtain ⟨g5, hf⟩ := am_g_of hf
            obtain ⟨g6, hf⟩ := am_g_of hf
            obtain ⟨g7, hf⟩ := am_g_of hf
            obtain ⟨g8, hf⟩ := am_g_of hf
            obtain ⟨g9, hf⟩ := am_g_of hf
            obtain ⟨g10, hf⟩ := am_g_of hf
            refine am_blk hX 14 20 (And.intro rfl (And.intro g5 (And.intro rfl (And.intro g6 (And.intro rfl (And.intro g7 (And.intro rfl (And.intro g8 (And.intro rfl (And.intro g9 (And.intro rfl (And.intro g10 (And.intro (fun hb => ?_) (fun hb => ?_))))))))))))))
            · have hf := am_if hf hb
              show X 53 [(0, .inr (.inr ((8, 0, 0), o0))), (1, .inl a1), (2, .inl a2), (3, .inl x1)] [] s0
              exact am_wk hX [0, 1, 2, 3] (hJ53 hf)
            · have hf := am_it hf hb
              show X 51 [(0, .inr (.inr ((8, 0, 0), o0))), (1, .inl a1), (2, .inl a2), (3, .inl x1)] [] s0
              refine am_blk hX 34 2 (am_rpi hf)
  refine am_blk hX 0 2 (?_)
  show X 2 [(3, .inl (0 : Int32)), (0, .inr (.inr ((8, 0, 0), o0))), (1, .inl a1), (2, .inl a2)] [] s0
  exact am_wk hX [1, 2, 3, 0] (hL2 am_fu (0 : Int32) hf)
def fX7_findFirsts_L12 (o0 : Nat) (x2 : Int32) (J62 : AS → Option (AS × Unit)) : Nat → AS → Int32 → Option (AS × Unit)
  | 0, _, _ => none
  | n12 + 1, s5, x6 =>
    if (s5.1 o0 0) ≤ x6 then (J62 s5) else (am_g (¬ (x2 < 0 ∨ 7 ≤ x2.toNatClampNeg)) (am_let (fun (x8 : Int32) => am_g (¬ (x6 < 0 ∨ 7 ≤ x6.toNatClampNeg)) (am_let (am_si s5 (o0 + 17 + 1 + x2.toNatClampNeg) (x6.toNatClampNeg) x8) (fun (s10 : AS) => am_let (x6 + (1 : Int32)) (fun (x11 : Int32) => fX7_findFirsts_L12 o0 x2 J62 n12 s10 x11)))) (fun J55 => am_let (J55 (-1 : Int32)) (fun J45 => if x2 = x6 then (J45) else (am_g (¬ (x2 < 0 ∨ 7 ≤ x2.toNatClampNeg)) (am_g (¬ (x6 < 0 ∨ 7 ≤ x6.toNatClampNeg)) (if (s5.1 (o0 + 9 + 1 + x2.toNatClampNeg) x6.toNatClampNeg) < (1000000 : Int32) then (am_r (fX7_findFirst s5 o0 x2 x6) (fun (v14 : Int32) => J55 v14)) else (J45))))))))
def fX7_findFirsts_L2 (o0 : Nat) : Nat → AS → Int32 → Option (AS × Unit)
  | 0, _, _ => none
  | n2 + 1, s1, x2 =>
    if (s1.1 o0 0) ≤ x2 then (some (s1, ())) else (am_let (fun (s3 : AS) => am_let (x2 + (1 : Int32)) (fun (x4 : Int32) => fX7_findFirsts_L2 o0 n2 s3 x4)) (fun J62 => fX7_findFirsts_L12 o0 x2 J62 am_fu s1 (0 : Int32)))
def fX7_findFirsts (s0 : AS) (o0 : Nat) : Option (AS × Unit) :=
  fX7_findFirsts_L2 o0 am_fu s0 (0 : Int32)
def kX7_findFirsts : List (Nat × Instr × Nat) := [(0, .iconst 0, 1), (1, .istore_n 1, 1), (2, .iload_n 1, 1), (3, .aload_n 0, 1), (4, .getfield 28, 3), (7, .if_icmp .ge 61, 3), (10, .iconst 0, 1), (11, .istore_n 2, 1), (12, .iload_n 2, 1), (13, .aload_n 0, 1), (14, .getfield 28, 3), (17, .if_icmp .ge 45, 3), (20, .aload_n 0, 1), (21, .getfield 19, 3), (24, .iload_n 1, 1), (25, .aaload, 1), (26, .iload_n 2, 1), (27, .iload_n 1, 1), (28, .iload_n 2, 1), (29, .if_icmp .eq 16, 3), (32, .aload_n 0, 1), (33, .getfield 16, 3), (36, .iload_n 1, 1), (37, .aaload, 1), (38, .iload_n 2, 1), (39, .iaload, 1), (40, .ldc 29, 2), (42, .if_icmp .lt 7, 3), (45, .iconst (-1), 1), (46, .goto 9, 3), (49, .aload_n 0, 1), (50, .iload_n 1, 1), (51, .iload_n 2, 1), (52, .invokevirtual 68, 3), (55, .iastore, 1), (56, .iinc 2 1, 3), (59, .goto (-47), 3), (62, .iinc 1 1, 3), (65, .goto (-63), 3), (68, .return_, 1)]
theorem qX7_findFirsts : ∀ q ∈ kX7_findFirsts, decode mX7_findFirsts.2.2.1 q.1 = .ok (q.2.1, q.2.2) ∧ am_iok mX7_findFirsts.2.2.2.1 q.1 q.2.1 q.2.2 = true := by decide +kernel
set_option maxRecDepth 100000 in
theorem wX7_findFirsts : Cond.code mX7_findFirsts.2.1 mX7_findFirsts.2.2.1 mX7_findFirsts.2.2.2.1 mX7_findFirsts.2.2.2.2.1 ∈ am_T := List.mem_filter.mpr ⟨List.mem_of_getElem? (i := 735) rfl, rfl⟩
set_option maxHeartbeats 4000000 in
set_option maxRecDepth 100000 in
theorem tX7_findFirsts (l : Launch) (d : Nat) {s0 : AS} {o0 : Nat} {sE : AS} {rE : Unit} (hf : fX7_findFirsts s0 o0 = some (sE, rE)) : am_Ct l (d + 2) mX7_findFirsts [.inr (.inr ((8, 0, 0), o0))] s0 sE none := by
  refine am_sim l (d + 1) (code := kX7_findFirsts) (by decide +kernel) wX7_findFirsts qX7_findFirsts (Nat.le_of_ble_eq_true rfl) ?_
  intro X hX
  show X 0 [(0, .inr (.inr ((8, 0, 0), o0)))] [] s0
  unfold fX7_findFirsts at hf
  have hL2 : ∀ (n2 : Nat) (s1 : AS) (x2 : Int32), fX7_findFirsts_L2 o0 n2 s1 x2 = some (sE, rE) → X 2 [(0, .inr (.inr ((8, 0, 0), o0))), (1, .inl x2)] [] s1 := by
    intro n2
    induction n2 with
    | zero => intro s1 x2 hf; exact am_no (show none = some _ from hf)
    | succ n2 ih2 =>
      intro s1 x2 hf
      refine am_blk hX 2 4 (And.intro rfl (And.intro (fun hb => ?_) (fun hb => ?_)))
      · have hf := am_it hf hb
        show X 68 [(0, .inr (.inr ((8, 0, 0), o0))), (1, .inl x2)] [] s1
        refine am_blk hX 39 1 (And.intro rfl (am_rv hf))
      · have hf := am_if hf hb
        show X 10 [(0, .inr (.inr ((8, 0, 0), o0))), (1, .inl x2)] [] s1
        refine am_jn hf (fun J62 => ∀ (s3 : AS), J62 s3 = some (sE, rE) → X 62 [(0, .inr (.inr ((8, 0, 0), o0))), (1, .inl x2)] [] s3) ?_ ?_
        · intro s3 hf
          refine am_blk hX 37 1 (am_nl (Z := fun x4 => X 65 [(1, .inl x4), (0, .inr (.inr ((8, 0, 0), o0)))] [] s3) hf (fun x4 hf => ?_))
          refine am_blk hX 38 1 (?_)
          show X 2 [(1, .inl x4), (0, .inr (.inr ((8, 0, 0), o0)))] [] s3
          exact am_wk hX [1, 0] (ih2 s3 x4 hf)
        · intro J62 hJ62 hf
          have hL12 : ∀ (n12 : Nat) (s5 : AS) (x6 : Int32), fX7_findFirsts_L12 o0 x2 J62 n12 s5 x6 = some (sE, rE) → X 12 [(0, .inr (.inr ((8, 0, 0), o0))), (1, .inl x2), (2, .inl x6)] [] s5 := by
            intro n12
            induction n12 with
            | zero => intro s5 x6 hf; exact am_no (show none = some _ from hf)
            | succ n12 ih12 =>
              intro s5 x6 hf
              refine am_blk hX 8 4 (And.intro rfl (And.intro (fun hb => ?_) (fun hb => ?_)))
              · have hf := am_it hf hb
                show X 62 [(0, .inr (.inr ((8, 0, 0), o0))), (1, .inl x2), (2, .inl x6)] [] s5
                exact am_wk hX [0, 1] (hJ62 s5 hf)
              · have hf := am_if hf hb
                show X 20 [(0, .inr (.inr ((8, 0, 0), o0))), (1, .inl x2), (2, .inl x6)] [] s5
                obtain ⟨g7, hf⟩ := am_g_of hf
                refine am_jn hf (fun J55 => ∀ (x8 : Int32), J55 x8 = some (sE, rE) → X 55 [(0, .inr (.inr ((8, 0, 0), o0))), (1, .inl x2), (2, .inl x6)] [.inl x8, .inl x6, .inr (.inr ((21, 7, 0), o0 + 17 + 1 + x2.toNatClampNeg))] s5) ?_ ?_
                · intro x8 hf
                  obtain ⟨g9, hf⟩ := am_g_of hf
                  refine am_blk hX 34 1 (And.intro rfl (And.intro g9 (am_nl (Z := fun s10 => X 56 [(0, .inr (.inr ((8, 0, 0), o0))), (1, .inl x2), (2, .inl x6)] [] s10) hf (fun s10 hf => ?_))))
                  refine am_blk hX 35 1 (am_nl (Z := fun x11 => X 59 [(2, .inl x11), (0, .inr (.inr ((8, 0, 0), o0))), (1, .inl x2)] [] s10) hf (fun x11 hf => ?_))
                  refine am_blk hX 36 1 (?_)
                  show X 12 [(2, .inl x11), (0, .inr (.inr ((8, 0, 0), o0))), (1, .inl x2)] [] s10
                  exact am_wk hX [1, 2, 0] (ih12 s10 x11 hf)
                · intro J55 hJ55 hf
                  refine am_jn hf (fun J45 => J45 = some (sE, rE) → X 45 [(0, .inr (.inr ((8, 0, 0), o0))), (1, .inl x2), (2, .inl x6)] [.inl x6, .inr (.inr ((21, 7, 0), o0 + 17 + 1 + x2.toNatClampNeg))] s5) ?_ ?_
                  · intro hf
                    refine am_blk hX 28 2 (?_)
                    show X 55 [(0, .inr (.inr ((8, 0, 0), o0))), (1, .inl x2), (2, .inl x6)] [.inl (-1 : Int32), .inl x6, .inr (.inr ((21, 7, 0), o0 + 17 + 1 + x2.toNatClampNeg))] s5
                    exact am_wk hX [0, 1, 2] (hJ55 (-1 : Int32) hf)
                  · intro J45 hJ45 hf
                    refine am_blk hX 12 8 (And.intro rfl (And.intro g7 (And.intro (fun hb => ?_) (fun hb => ?_))))
                    · have hf := am_it hf hb
                      show X 45 [(0, .inr (.inr ((8, 0, 0), o0))), (1, .inl x2), (2, .inl x6)] [.inl x6, .inr (.inr ((21, 7, 0), o0 + 17 + 1 + x2.toNatClampNeg))] s5
                      exact am_wk hX [0, 1, 2] (hJ45 hf)
                    · have hf := am_if hf hb
                      show X 32 [(0, .inr (.inr ((8, 0, 0), o0))), (1, .inl x2), (2, .inl x6)] [.inl x6, .inr (.inr ((21, 7, 0), o0 + 17 + 1 + x2.toNatClampNeg))] s5
                      obtain ⟨g12, hf⟩ := am_g_of hf
                      obtain ⟨g13, hf⟩ := am_g_of hf
                      refine am_blk hX 20 8 (And.intro rfl (And.intro g12 (And.intro rfl (And.intro g13 (And.intro (fun hb => ?_) (fun hb => ?_))))))
                      · have hf := am_it hf hb
                        show X 49 [(0, .inr (.inr ((8, 0, 0), o0))), (1, .inl x2), (2, .inl x6)] [.inl x6, .inr (.inr ((21, 7, 0), o0 + 17 + 1 + x2.toNatClampNeg))] s5
                        obtain ⟨v14, hcv14, hf⟩ := am_r_of hf
                        refine am_blk hX 30 4 (And.intro rfl (And.intro rfl (Exists.intro s5 (Exists.intro (some (.inl v14)) (And.intro (tX7_findFirst l (d + 0) hcv14) (?_))))))
                        show X 55 [(0, .inr (.inr ((8, 0, 0), o0))), (1, .inl x2), (2, .inl x6)] [.inl v14, .inl x6, .inr (.inr ((21, 7, 0), o0 + 17 + 1 + x2.toNatClampNeg))] s5
                        exact am_wk hX [0, 1, 2] (hJ55 v14 hf)
                      · have hf := am_if hf hb
                        show X 45 [(0, .inr (.inr ((8, 0, 0), o0))), (1, .inl x2), (2, .inl x6)] [.inl x6, .inr (.inr ((21, 7, 0), o0 + 17 + 1 + x2.toNatClampNeg))] s5
                        exact am_wk hX [0, 1, 2] (hJ45 hf)
          refine am_blk hX 6 2 (?_)
          show X 12 [(2, .inl (0 : Int32)), (0, .inr (.inr ((8, 0, 0), o0))), (1, .inl x2)] [] s1
          exact am_wk hX [1, 2, 0] (hL12 am_fu s1 (0 : Int32) hf)
  refine am_blk hX 0 2 (?_)
  show X 2 [(1, .inl (0 : Int32)), (0, .inr (.inr ((8, 0, 0), o0)))] [] s0
  exact am_wk hX [1, 0] (hL2 am_fu s0 (0 : Int32) hf)
def fX7_findLengths_L68 (o0 : Nat) (x3 : Int32) (x7 : Int32) (J118 : AS → Option (AS × Unit)) : Nat → AS → Int32 → Option (AS × Unit)
  | 0, _, _ => none
  | n68 + 1, s10, x11 =>
    if (s10.1 o0 0) ≤ x11 then (J118 s10) else (am_g (¬ (x7 < 0 ∨ 7 ≤ x7.toNatClampNeg)) (am_g (¬ (x7 < 0 ∨ 7 ≤ x7.toNatClampNeg)) (am_g (¬ (x11 < 0 ∨ 7 ≤ x11.toNatClampNeg)) (am_g (¬ (x7 < 0 ∨ 7 ≤ x7.toNatClampNeg)) (am_g (¬ (x3 < 0 ∨ 7 ≤ x3.toNatClampNeg)) (am_g (¬ (x3 < 0 ∨ 7 ≤ x3.toNatClampNeg)) (am_g (¬ (x11 < 0 ∨ 7 ≤ x11.toNatClampNeg)) (am_g (¬ (x11 < 0 ∨ 7 ≤ x11.toNatClampNeg)) (am_let (am_si s10 (o0 + 9 + 1 + x7.toNatClampNeg) (x11.toNatClampNeg) (if (s10.1 (o0 + 9 + 1 + x7.toNatClampNeg) x3.toNatClampNeg) + (s10.1 (o0 + 9 + 1 + x3.toNatClampNeg) x11.toNatClampNeg) < s10.1 (o0 + 9 + 1 + x7.toNatClampNeg) x11.toNatClampNeg then (s10.1 (o0 + 9 + 1 + x7.toNatClampNeg) x3.toNatClampNeg) + (s10.1 (o0 + 9 + 1 + x3.toNatClampNeg) x11.toNatClampNeg) else s10.1 (o0 + 9 + 1 + x7.toNatClampNeg) x11.toNatClampNeg)) (fun (s20 : AS) => am_let (x11 + (1 : Int32)) (fun (x21 : Int32) => fX7_findLengths_L68 o0 x3 x7 J118 n68 s20 x21)))))))))))
def fX7_findLengths_L58 (o0 : Nat) (x3 : Int32) (J124 : AS → Option (AS × Unit)) : Nat → AS → Int32 → Option (AS × Unit)
  | 0, _, _ => none
  | n58 + 1, s6, x7 =>
    if (s6.1 o0 0) ≤ x7 then (J124 s6) else (am_let (fun (s8 : AS) => am_let (x7 + (1 : Int32)) (fun (x9 : Int32) => fX7_findLengths_L58 o0 x3 J124 n58 s8 x9)) (fun J118 => fX7_findLengths_L68 o0 x3 x7 J118 am_fu s6 (0 : Int32)))
def fX7_findLengths_L48 (o0 : Nat) : Nat → AS → Int32 → Option (AS × Unit)
  | 0, _, _ => none
  | n48 + 1, s2, x3 =>
    if (s2.1 o0 0) ≤ x3 then (some (s2, ())) else (am_let (fun (s4 : AS) => am_let (x3 + (1 : Int32)) (fun (x5 : Int32) => fX7_findLengths_L48 o0 n48 s4 x5)) (fun J124 => fX7_findLengths_L58 o0 x3 J124 am_fu s2 (0 : Int32)))
def fX7_findLengths_L2 (o0 : Nat) (J46 : AS → Option (AS × Unit)) : Nat → AS → Int32 → Option (AS × Unit)
  | 0, _, _ => none
  | n2 + 1, s22, x23 =>
    if (s22.1 o0 0) ≤ x23 then (J46 s22) else (am_g (¬ (x23 < 0 ∨ 7 ≤ x23.toNatClampNeg)) (am_g (¬ (x23 < 0 ∨ 7 ≤ x23.toNatClampNeg)) (am_g (¬ (0 : Int32) < 0 ∧ ¬ (0 : Int32) < 0 ∧ ¬ (s22.1 o0 0) < 0 ∧ (0 : Int32).toNatClampNeg + (s22.1 o0 0).toNatClampNeg ≤ 7 ∧ (0 : Int32).toNatClampNeg + (s22.1 o0 0).toNatClampNeg ≤ 7) (am_let (am_sr s22 (o0 + 9 + 1 + x23.toNatClampNeg) (va_cpy (s22.1 (o0 + 1 + 1 + x23.toNatClampNeg)) (s22.1 (o0 + 9 + 1 + x23.toNatClampNeg)) (0 : Int32).toNatClampNeg (0 : Int32).toNatClampNeg (s22.1 o0 0).toNatClampNeg)) (fun (s27 : AS) => am_g (¬ (x23 < 0 ∨ 7 ≤ x23.toNatClampNeg)) (am_g (¬ (x23 < 0 ∨ 7 ≤ x23.toNatClampNeg)) (am_let (am_si s27 (o0 + 9 + 1 + x23.toNatClampNeg) (x23.toNatClampNeg) (0 : Int32)) (fun (s30 : AS) => am_let (x23 + (1 : Int32)) (fun (x31 : Int32) => fX7_findLengths_L2 o0 J46 n2 s30 x31)))))))))
def fX7_findLengths (s0 : AS) (o0 : Nat) : Option (AS × Unit) :=
  am_let (fun (s1 : AS) => fX7_findLengths_L48 o0 am_fu s1 (0 : Int32)) (fun J46 => fX7_findLengths_L2 o0 J46 am_fu s0 (0 : Int32))
def kX7_findLengths : List (Nat × Instr × Nat) := [(0, .iconst 0, 1), (1, .istore_n 1, 1), (2, .iload_n 1, 1), (3, .aload_n 0, 1), (4, .getfield 28, 3), (7, .if_icmp .ge 39, 3), (10, .aload_n 0, 1), (11, .getfield 11, 3), (14, .iload_n 1, 1), (15, .aaload, 1), (16, .iconst 0, 1), (17, .aload_n 0, 1), (18, .getfield 16, 3), (21, .iload_n 1, 1), (22, .aaload, 1), (23, .iconst 0, 1), (24, .aload_n 0, 1), (25, .getfield 28, 3), (28, .invokestatic 62, 3), (31, .aload_n 0, 1), (32, .getfield 16, 3), (35, .iload_n 1, 1), (36, .aaload, 1), (37, .iload_n 1, 1), (38, .iconst 0, 1), (39, .iastore, 1), (40, .iinc 1 1, 3), (43, .goto (-41), 3), (46, .iconst 0, 1), (47, .istore_n 1, 1), (48, .iload_n 1, 1), (49, .aload_n 0, 1), (50, .getfield 28, 3), (53, .if_icmp .ge 77, 3), (56, .iconst 0, 1), (57, .istore_n 2, 1), (58, .iload_n 2, 1), (59, .aload_n 0, 1), (60, .getfield 28, 3), (63, .if_icmp .ge 61, 3), (66, .iconst 0, 1), (67, .istore_n 3, 1), (68, .iload_n 3, 1), (69, .aload_n 0, 1), (70, .getfield 28, 3), (73, .if_icmp .ge 45, 3), (76, .aload_n 0, 1), (77, .getfield 16, 3), (80, .iload_n 2, 1), (81, .aaload, 1), (82, .iload_n 3, 1), (83, .aload_n 0, 1), (84, .getfield 16, 3), (87, .iload_n 2, 1), (88, .aaload, 1), (89, .iload_n 3, 1), (90, .iaload, 1), (91, .aload_n 0, 1), (92, .getfield 16, 3), (95, .iload_n 2, 1), (96, .aaload, 1), (97, .iload_n 1, 1), (98, .iaload, 1), (99, .aload_n 0, 1), (100, .getfield 16, 3), (103, .iload_n 1, 1), (104, .aaload, 1), (105, .iload_n 3, 1), (106, .iaload, 1), (107, .iadd, 1), (108, .invokestatic 56, 3), (111, .iastore, 1), (112, .iinc 3 1, 3), (115, .goto (-47), 3), (118, .iinc 2 1, 3), (121, .goto (-63), 3), (124, .iinc 1 1, 3), (127, .goto (-79), 3), (130, .return_, 1)]
theorem qX7_findLengths : ∀ q ∈ kX7_findLengths, decode mX7_findLengths.2.2.1 q.1 = .ok (q.2.1, q.2.2) ∧ am_iok mX7_findLengths.2.2.2.1 q.1 q.2.1 q.2.2 = true := by decide +kernel
set_option maxRecDepth 100000 in
theorem wX7_findLengths : Cond.code mX7_findLengths.2.1 mX7_findLengths.2.2.1 mX7_findLengths.2.2.2.1 mX7_findLengths.2.2.2.2.1 ∈ am_T := List.mem_filter.mpr ⟨List.mem_of_getElem? (i := 730) rfl, rfl⟩
set_option maxHeartbeats 4000000 in
set_option maxRecDepth 100000 in
theorem tX7_findLengths (l : Launch) (d : Nat) {s0 : AS} {o0 : Nat} {sE : AS} {rE : Unit} (hf : fX7_findLengths s0 o0 = some (sE, rE)) : am_Ct l (d + 1) mX7_findLengths [.inr (.inr ((8, 0, 0), o0))] s0 sE none := by
  refine am_sim l (d + 0) (code := kX7_findLengths) (by decide +kernel) wX7_findLengths qX7_findLengths (Nat.le_of_ble_eq_true rfl) ?_
  intro X hX
  show X 0 [(0, .inr (.inr ((8, 0, 0), o0)))] [] s0
  unfold fX7_findLengths at hf
  refine am_jn hf (fun J46 => ∀ (s1 : AS), J46 s1 = some (sE, rE) → X 46 [(0, .inr (.inr ((8, 0, 0), o0)))] [] s1) ?_ ?_
  · intro s1 hf
    have hL48 : ∀ (n48 : Nat) (s2 : AS) (x3 : Int32), fX7_findLengths_L48 o0 n48 s2 x3 = some (sE, rE) → X 48 [(0, .inr (.inr ((8, 0, 0), o0))), (1, .inl x3)] [] s2 := by
      intro n48
      induction n48 with
      | zero => intro s2 x3 hf; exact am_no (show none = some _ from hf)
      | succ n48 ih48 =>
        intro s2 x3 hf
        refine am_blk hX 30 4 (And.intro rfl (And.intro (fun hb => ?_) (fun hb => ?_)))
        · have hf := am_it hf hb
          show X 130 [(0, .inr (.inr ((8, 0, 0), o0))), (1, .inl x3)] [] s2
          refine am_blk hX 78 1 (And.intro rfl (am_rv hf))
        · have hf := am_if hf hb
          show X 56 [(0, .inr (.inr ((8, 0, 0), o0))), (1, .inl x3)] [] s2
          refine am_jn hf (fun J124 => ∀ (s4 : AS), J124 s4 = some (sE, rE) → X 124 [(0, .inr (.inr ((8, 0, 0), o0))), (1, .inl x3)] [] s4) ?_ ?_
          · intro s4 hf
            refine am_blk hX 76 1 (am_nl (Z := fun x5 => X 127 [(1, .inl x5), (0, .inr (.inr ((8, 0, 0), o0)))] [] s4) hf (fun x5 hf => ?_))
            refine am_blk hX 77 1 (?_)
            show X 48 [(1, .inl x5), (0, .inr (.inr ((8, 0, 0), o0)))] [] s4
            exact am_wk hX [1, 0] (ih48 s4 x5 hf)
          · intro J124 hJ124 hf
            have hL58 : ∀ (n58 : Nat) (s6 : AS) (x7 : Int32), fX7_findLengths_L58 o0 x3 J124 n58 s6 x7 = some (sE, rE) → X 58 [(0, .inr (.inr ((8, 0, 0), o0))), (1, .inl x3), (2, .inl x7)] [] s6 := by
              intro n58
              induction n58 with
              | zero => intro s6 x7 hf; exact am_no (show none = some _ from hf)
              | succ n58 ih58 =>
                intro s6 x7 hf
                refine am_blk hX 36 4 (And.intro rfl (And.intro (fun hb => ?_) (fun hb => ?_)))
                · have hf := am_it hf hb
                  show X 124 [(0, .inr (.inr ((8, 0, 0), o0))), (1, .inl x3), (2, .inl x7)] [] s6
                  exact am_wk hX [0, 1] (hJ124 s6 hf)
                · have hf := am_if hf hb
                  show X 66 [(0, .inr (.inr ((8, 0, 0), o0))), (1, .inl x3), (2, .inl x7)] [] s6
                  refine am_jn hf (fun J118 => ∀ (s8 : AS), J118 s8 = some (sE, rE) → X 118 [(0, .inr (.inr ((8, 0, 0), o0))), (1, .inl x3), (2, .inl x7)] [] s8) ?_ ?_
                  · intro s8 hf
                    refine am_blk hX 74 1 (am_nl (Z := fun x9 => X 121 [(2, .inl x9), (0, .inr (.inr ((8, 0, 0), o0))), (1, .inl x3)] [] s8) hf (fun x9 hf => ?_))
                    refine am_blk hX 75 1 (?_)
                    show X 58 [(2, .inl x9), (0, .inr (.inr ((8, 0, 0), o0))), (1, .inl x3)] [] s8
                    exact am_wk hX [1, 2, 0] (ih58 s8 x9 hf)
                  · intro J118 hJ118 hf
                    have hL68 : ∀ (n68 : Nat) (s10 : AS) (x11 : Int32), fX7_findLengths_L68 o0 x3 x7 J118 n68 s10 x11 = some (sE, rE) → X 68 [(0, .inr (.inr ((8, 0, 0), o0))), (1, .inl x3), (2, .inl x7), (3, .inl x11)] [] s10 := by
                      intro n68
                      induction n68 with
                      | zero => intro s10 x11 hf; exact am_no (show none = some _ from hf)
                      | succ n68 ih68 =>
                        intro s10 x11 hf
                        refine am_blk hX 42 4 (And.intro rfl (And.intro (fun hb => ?_) (fun hb => ?_)))
                        · have hf := am_it hf hb
                          show X 118 [(0, .inr (.inr ((8, 0, 0), o0))), (1, .inl x3), (2, .inl x7), (3, .inl x11)] [] s10
                          exact am_wk hX [0, 1, 2] (hJ118 s10 hf)
                        · have hf := am_if hf hb
                          show X 76 [(0, .inr (.inr ((8, 0, 0), o0))), (1, .inl x3), (2, .inl x7), (3, .inl x11)] [] s10
                          obtain ⟨g12, hf⟩ := am_g_of hf
                          obtain ⟨g13, hf⟩ := am_g_of hf
                          obtain ⟨g14, hf⟩ := am_g_of hf
                          obtain ⟨g15, hf⟩ := am_g_of hf
                          obtain ⟨g16, hf⟩ := am_g_of hf
                          obtain ⟨g17, hf⟩ := am_g_of hf
                          obtain ⟨g18, hf⟩ := am_g_of hf
                          obtain ⟨g19, hf⟩ := am_g_of hf
                          refine am_blk hX 46 26 (And.intro rfl (And.intro g12 (And.intro rfl (And.intro g13 (And.intro rfl (And.intro g14 (And.intro rfl (And.intro g15 (And.intro rfl (And.intro g16 (And.intro rfl (And.intro g17 (And.intro rfl (And.intro g18 (And.intro rfl (And.intro rfl (And.intro g19 (am_nl (Z := fun s20 => X 112 [(0, .inr (.inr ((8, 0, 0), o0))), (1, .inl x3), (2, .inl x7), (3, .inl x11)] [] s20) hf (fun s20 hf => ?_)))))))))))))))))))
                          refine am_blk hX 72 1 (am_nl (Z := fun x21 => X 115 [(3, .inl x21), (0, .inr (.inr ((8, 0, 0), o0))), (1, .inl x3), (2, .inl x7)] [] s20) hf (fun x21 hf => ?_))
                          refine am_blk hX 73 1 (?_)
                          show X 68 [(3, .inl x21), (0, .inr (.inr ((8, 0, 0), o0))), (1, .inl x3), (2, .inl x7)] [] s20
                          exact am_wk hX [1, 2, 3, 0] (ih68 s20 x21 hf)
                    refine am_blk hX 40 2 (?_)
                    show X 68 [(3, .inl (0 : Int32)), (0, .inr (.inr ((8, 0, 0), o0))), (1, .inl x3), (2, .inl x7)] [] s6
                    exact am_wk hX [1, 2, 3, 0] (hL68 am_fu s6 (0 : Int32) hf)
            refine am_blk hX 34 2 (?_)
            show X 58 [(2, .inl (0 : Int32)), (0, .inr (.inr ((8, 0, 0), o0))), (1, .inl x3)] [] s2
            exact am_wk hX [1, 2, 0] (hL58 am_fu s2 (0 : Int32) hf)
    refine am_blk hX 28 2 (?_)
    show X 48 [(1, .inl (0 : Int32)), (0, .inr (.inr ((8, 0, 0), o0)))] [] s1
    exact am_wk hX [1, 0] (hL48 am_fu s1 (0 : Int32) hf)
  · intro J46 hJ46 hf
    have hL2 : ∀ (n2 : Nat) (s22 : AS) (x23 : Int32), fX7_findLengths_L2 o0 J46 n2 s22 x23 = some (sE, rE) → X 2 [(0, .inr (.inr ((8, 0, 0), o0))), (1, .inl x23)] [] s22 := by
      intro n2
      induction n2 with
      | zero => intro s22 x23 hf; exact am_no (show none = some _ from hf)
      | succ n2 ih2 =>
        intro s22 x23 hf
        refine am_blk hX 2 4 (And.intro rfl (And.intro (fun hb => ?_) (fun hb => ?_)))
        · have hf := am_it hf hb
          show X 46 [(0, .inr (.inr ((8, 0, 0), o0))), (1, .inl x23)] [] s22
          exact am_wk hX [0] (hJ46 s22 hf)
        · have hf := am_if hf hb
          show X 10 [(0, .inr (.inr ((8, 0, 0), o0))), (1, .inl x23)] [] s22
          obtain ⟨g24, hf⟩ := am_g_of hf
          obtain ⟨g25, hf⟩ := am_g_of hf
          obtain ⟨g26, hf⟩ := am_g_of hf
          refine am_blk hX 6 13 (And.intro rfl (And.intro g24 (And.intro rfl (And.intro g25 (And.intro rfl (And.intro rfl (And.intro rfl (And.intro g26 (am_nl (Z := fun s27 => X 31 [(0, .inr (.inr ((8, 0, 0), o0))), (1, .inl x23)] [] s27) hf (fun s27 hf => ?_))))))))))
          obtain ⟨g28, hf⟩ := am_g_of hf
          obtain ⟨g29, hf⟩ := am_g_of hf
          refine am_blk hX 19 7 (And.intro rfl (And.intro g28 (And.intro rfl (And.intro g29 (am_nl (Z := fun s30 => X 40 [(0, .inr (.inr ((8, 0, 0), o0))), (1, .inl x23)] [] s30) hf (fun s30 hf => ?_))))))
          refine am_blk hX 26 1 (am_nl (Z := fun x31 => X 43 [(1, .inl x31), (0, .inr (.inr ((8, 0, 0), o0)))] [] s30) hf (fun x31 hf => ?_))
          refine am_blk hX 27 1 (?_)
          show X 2 [(1, .inl x31), (0, .inr (.inr ((8, 0, 0), o0)))] [] s30
          exact am_wk hX [1, 0] (ih2 s30 x31 hf)
    refine am_blk hX 0 2 (?_)
    show X 2 [(1, .inl (0 : Int32)), (0, .inr (.inr ((8, 0, 0), o0)))] [] s0
    exact am_wk hX [1, 0] (hL2 am_fu s0 (0 : Int32) hf)
def fX7_join (s0 : AS) (o0 : Nat) (o1 : Nat) (n1 : Nat) : Option (AS × Unit) :=
  am_g (¬ ((0 : Int32) < 0 ∨ n1 ≤ (0 : Int32).toNatClampNeg)) (am_let (s0.1 o1 ((0 : Int32).toNatClampNeg)) (fun (x2 : Int32) => am_g (¬ ((1 : Int32) < 0 ∨ n1 ≤ (1 : Int32).toNatClampNeg)) (am_let (s0.1 o1 ((1 : Int32).toNatClampNeg)) (fun (x4 : Int32) => am_g (¬ (x2 < 0 ∨ 7 ≤ x2.toNatClampNeg)) (am_g (¬ (x2 < 0 ∨ 7 ≤ x2.toNatClampNeg)) (am_g (¬ (x4 < 0 ∨ 7 ≤ x4.toNatClampNeg)) (am_g (¬ ((2 : Int32) < 0 ∨ n1 ≤ (2 : Int32).toNatClampNeg)) (am_g (¬ (x4 < 0 ∨ 7 ≤ x4.toNatClampNeg)) (am_let (am_si s0 (o0 + 1 + 1 + x2.toNatClampNeg) (x4.toNatClampNeg) (if s0.1 o1 ((2 : Int32).toNatClampNeg) < s0.1 (o0 + 1 + 1 + x2.toNatClampNeg) x4.toNatClampNeg then s0.1 o1 ((2 : Int32).toNatClampNeg) else s0.1 (o0 + 1 + 1 + x2.toNatClampNeg) x4.toNatClampNeg)) (fun (s10 : AS) => am_g (¬ (x4 < 0 ∨ 7 ≤ x4.toNatClampNeg)) (am_g (¬ (x2 < 0 ∨ 7 ≤ x2.toNatClampNeg)) (am_g (¬ (x4 < 0 ∨ 7 ≤ x4.toNatClampNeg)) (am_g (¬ (x2 < 0 ∨ 7 ≤ x2.toNatClampNeg)) (am_let (am_si s10 (o0 + 1 + 1 + x4.toNatClampNeg) (x2.toNatClampNeg) (s10.1 (o0 + 1 + 1 + x2.toNatClampNeg) x4.toNatClampNeg)) (fun (s15 : AS) => some (s15, ()))))))))))))))))
def kX7_join : List (Nat × Instr × Nat) := [(0, .aload_n 1, 1), (1, .iconst 0, 1), (2, .iaload, 1), (3, .istore_n 2, 1), (4, .aload_n 1, 1), (5, .iconst 1, 1), (6, .iaload, 1), (7, .istore_n 3, 1), (8, .aload_n 0, 1), (9, .getfield 11, 3), (12, .iload_n 2, 1), (13, .aaload, 1), (14, .iload_n 3, 1), (15, .aload_n 0, 1), (16, .getfield 11, 3), (19, .iload_n 2, 1), (20, .aaload, 1), (21, .iload_n 3, 1), (22, .iaload, 1), (23, .aload_n 1, 1), (24, .iconst 2, 1), (25, .iaload, 1), (26, .invokestatic 56, 3), (29, .iastore, 1), (30, .aload_n 0, 1), (31, .getfield 11, 3), (34, .iload_n 3, 1), (35, .aaload, 1), (36, .iload_n 2, 1), (37, .aload_n 0, 1), (38, .getfield 11, 3), (41, .iload_n 2, 1), (42, .aaload, 1), (43, .iload_n 3, 1), (44, .iaload, 1), (45, .iastore, 1), (46, .return_, 1)]
theorem qX7_join : ∀ q ∈ kX7_join, decode mX7_join.2.2.1 q.1 = .ok (q.2.1, q.2.2) ∧ am_iok mX7_join.2.2.2.1 q.1 q.2.1 q.2.2 = true := by decide +kernel
set_option maxRecDepth 100000 in
theorem wX7_join : Cond.code mX7_join.2.1 mX7_join.2.2.1 mX7_join.2.2.2.1 mX7_join.2.2.2.2.1 ∈ am_T := List.mem_filter.mpr ⟨List.mem_of_getElem? (i := 725) rfl, rfl⟩
set_option maxHeartbeats 4000000 in
set_option maxRecDepth 100000 in
theorem tX7_join (l : Launch) (d : Nat) {s0 : AS} {o0 : Nat} {o1 : Nat} {n1 : Nat} {sE : AS} {rE : Unit} (hf : fX7_join s0 o0 o1 n1 = some (sE, rE)) : am_Ct l (d + 1) mX7_join [.inr (.inr ((8, 0, 0), o0)), .inr (.inr ((21, n1, 0), o1))] s0 sE none := by
  refine am_sim l (d + 0) (code := kX7_join) (by decide +kernel) wX7_join qX7_join (Nat.le_of_ble_eq_true rfl) ?_
  intro X hX
  show X 0 [(0, .inr (.inr ((8, 0, 0), o0))), (1, .inr (.inr ((21, n1, 0), o1)))] [] s0
  unfold fX7_join at hf
  obtain ⟨g1, hf⟩ := am_g_of hf
  refine am_blk hX 0 4 (And.intro rfl (And.intro g1 (am_nl (Z := fun x2 => X 4 [(2, .inl x2), (0, .inr (.inr ((8, 0, 0), o0))), (1, .inr (.inr ((21, n1, 0), o1)))] [] s0) hf (fun x2 hf => ?_))))
  obtain ⟨g3, hf⟩ := am_g_of hf
  refine am_blk hX 4 4 (And.intro rfl (And.intro g3 (am_nl (Z := fun x4 => X 8 [(3, .inl x4), (2, .inl x2), (0, .inr (.inr ((8, 0, 0), o0))), (1, .inr (.inr ((21, n1, 0), o1)))] [] s0) hf (fun x4 hf => ?_))))
  obtain ⟨g5, hf⟩ := am_g_of hf
  obtain ⟨g6, hf⟩ := am_g_of hf
  obtain ⟨g7, hf⟩ := am_g_of hf
  obtain ⟨g8, hf⟩ := am_g_of hf
  obtain ⟨g9, hf⟩ := am_g_of hf
  refine am_blk hX 8 16 (And.intro rfl (And.intro g5 (And.intro rfl (And.intro g6 (And.intro rfl (And.intro g7 (And.intro rfl (And.intro g8 (And.intro rfl (And.intro rfl (And.intro g9 (am_nl (Z := fun s10 => X 30 [(3, .inl x4), (2, .inl x2), (0, .inr (.inr ((8, 0, 0), o0))), (1, .inr (.inr ((21, n1, 0), o1)))] [] s10) hf (fun s10 hf => ?_)))))))))))))
  obtain ⟨g11, hf⟩ := am_g_of hf
  obtain ⟨g12, hf⟩ := am_g_of hf
  obtain ⟨g13, hf⟩ := am_g_of hf
  obtain ⟨g14, hf⟩ := am_g_of hf
  refine am_blk hX 24 12 (And.intro rfl (And.intro g11 (And.intro rfl (And.intro g12 (And.intro rfl (And.intro g13 (And.intro rfl (And.intro g14 (am_nl (Z := fun s15 => X 46 [(3, .inl x4), (2, .inl x2), (0, .inr (.inr ((8, 0, 0), o0))), (1, .inr (.inr ((21, n1, 0), o1)))] [] s15) hf (fun s15 hf => ?_))))))))))
  refine am_blk hX 36 1 (And.intro rfl (am_rv hf))
def fX7_lengthOf (s0 : AS) (o0 : Nat) (a1 : Int32) (a2 : Int32) : Option Int32 :=
  am_r (fX7_has s0 o0 a1 a2) (fun (v1 : Int32) => am_let (fun (x2 : Int32) => some x2) (fun J34 => am_let (J34 (-1 : Int32)) (fun J33 => if v1 = 0 then (J33) else (am_g (¬ (a1 < 0 ∨ 7 ≤ a1.toNatClampNeg)) (am_g (¬ (a2 < 0 ∨ 7 ≤ a2.toNatClampNeg)) (if (1000000 : Int32) ≤ (s0.1 (o0 + 9 + 1 + a1.toNatClampNeg) a2.toNatClampNeg) then (J33) else (am_g (¬ (a1 < 0 ∨ 7 ≤ a1.toNatClampNeg)) (am_g (¬ (a2 < 0 ∨ 7 ≤ a2.toNatClampNeg)) (J34 (s0.1 (o0 + 9 + 1 + a1.toNatClampNeg) a2.toNatClampNeg))))))))))
def kX7_lengthOf : List (Nat × Instr × Nat) := [(0, .aload_n 0, 1), (1, .iload_n 1, 1), (2, .iload_n 2, 1), (3, .invokevirtual 71, 3), (6, .ifCond .eq 27, 3), (9, .aload_n 0, 1), (10, .getfield 16, 3), (13, .iload_n 1, 1), (14, .aaload, 1), (15, .iload_n 2, 1), (16, .iaload, 1), (17, .ldc 29, 2), (19, .if_icmp .ge 14, 3), (22, .aload_n 0, 1), (23, .getfield 16, 3), (26, .iload_n 1, 1), (27, .aaload, 1), (28, .iload_n 2, 1), (29, .iaload, 1), (30, .goto 4, 3), (33, .iconst (-1), 1), (34, .ireturn, 1)]
theorem qX7_lengthOf : ∀ q ∈ kX7_lengthOf, decode mX7_lengthOf.2.2.1 q.1 = .ok (q.2.1, q.2.2) ∧ am_iok mX7_lengthOf.2.2.2.1 q.1 q.2.1 q.2.2 = true := by decide +kernel
set_option maxRecDepth 100000 in
theorem wX7_lengthOf : Cond.code mX7_lengthOf.2.1 mX7_lengthOf.2.2.1 mX7_lengthOf.2.2.2.1 mX7_lengthOf.2.2.2.2.1 ∈ am_T := List.mem_filter.mpr ⟨List.mem_of_getElem? (i := 815) rfl, rfl⟩
set_option maxHeartbeats 4000000 in
set_option maxRecDepth 100000 in
theorem tX7_lengthOf (l : Launch) (d : Nat) {s0 : AS} {o0 : Nat} {a1 : Int32} {a2 : Int32} {rE : Int32} (hf : fX7_lengthOf s0 o0 a1 a2 = some rE) : am_Ct l (d + 2) mX7_lengthOf [.inr (.inr ((8, 0, 0), o0)), .inl a1, .inl a2] s0 s0 (some (.inl rE)) := by
  refine am_sim l (d + 1) (code := kX7_lengthOf) (by decide +kernel) wX7_lengthOf qX7_lengthOf (Nat.le_of_ble_eq_true rfl) ?_
  intro X hX
  show X 0 [(0, .inr (.inr ((8, 0, 0), o0))), (1, .inl a1), (2, .inl a2)] [] s0
  unfold fX7_lengthOf at hf
  obtain ⟨v1, hcv1, hf⟩ := am_r_of hf
  refine am_jn hf (fun J34 => ∀ (x2 : Int32), J34 x2 = some rE → X 34 [] [.inl x2] s0) ?_ ?_
  · intro x2 hf
    refine am_blk hX 21 1 (am_rpi hf)
  · intro J34 hJ34 hf
    refine am_jn hf (fun J33 => J33 = some rE → X 33 [] [] s0) ?_ ?_
    · intro hf
      refine am_blk hX 20 1 (?_)
      show X 34 [] [.inl (-1 : Int32)] s0
      exact am_wk hX [] (hJ34 (-1 : Int32) hf)
    · intro J33 hJ33 hf
      refine am_blk hX 0 5 (And.intro rfl (And.intro rfl (Exists.intro s0 (Exists.intro (some (.inl v1)) (And.intro (tX7_has l (d + 0) hcv1) (And.intro (fun hb => ?_) (fun hb => ?_)))))))
      · have hf := am_it hf hb
        show X 33 [(0, .inr (.inr ((8, 0, 0), o0))), (1, .inl a1), (2, .inl a2)] [] s0
        exact am_wk hX [] (hJ33 hf)
      · have hf := am_if hf hb
        show X 9 [(0, .inr (.inr ((8, 0, 0), o0))), (1, .inl a1), (2, .inl a2)] [] s0
        obtain ⟨g3, hf⟩ := am_g_of hf
        obtain ⟨g4, hf⟩ := am_g_of hf
        refine am_blk hX 5 8 (And.intro rfl (And.intro g3 (And.intro rfl (And.intro g4 (And.intro (fun hb => ?_) (fun hb => ?_))))))
        · have hf := am_it hf hb
          show X 33 [(0, .inr (.inr ((8, 0, 0), o0))), (1, .inl a1), (2, .inl a2)] [] s0
          exact am_wk hX [] (hJ33 hf)
        · have hf := am_if hf hb
          show X 22 [(0, .inr (.inr ((8, 0, 0), o0))), (1, .inl a1), (2, .inl a2)] [] s0
          obtain ⟨g5, hf⟩ := am_g_of hf
          obtain ⟨g6, hf⟩ := am_g_of hf
          refine am_blk hX 13 7 (And.intro rfl (And.intro g5 (And.intro rfl (And.intro g6 (?_)))))
          show X 34 [(0, .inr (.inr ((8, 0, 0), o0))), (1, .inl a1), (2, .inl a2)] [.inl (s0.1 (o0 + 9 + 1 + a1.toNatClampNeg) a2.toNatClampNeg)] s0
          exact am_wk hX [] (hJ34 (s0.1 (o0 + 9 + 1 + a1.toNatClampNeg) a2.toNatClampNeg) hf)
def fX7_measure_L37 (o0 : Nat) (o1 : Nat) (a2 : Int32) : Nat → AS → Int32 → Option (AS × Unit)
  | 0, _, _ => none
  | n37 + 1, s3, x4 =>
    if (s3.1 o1 5) ≤ x4 then (am_c (fX7_findLengths s3 o0) (fun (s6 : AS) (v5 : Unit) => am_c (fX7_findFirsts s6 o0) (fun (s8 : AS) (v7 : Unit) => some (s8, ())))) else (am_r (fX8_holds a2 x4) (fun (v9 : Int32) => am_let (fun (s10 : AS) => am_let (x4 + (1 : Int32)) (fun (x11 : Int32) => fX7_measure_L37 o0 o1 a2 n37 s10 x11)) (fun J63 => if v9 = 0 then (am_g (¬ (x4 < 0 ∨ 10 ≤ x4.toNatClampNeg)) (am_c (fX7_join s3 o0 (o1 + 1 + 1 + x4.toNatClampNeg) 3) (fun (s14 : AS) (v13 : Unit) => J63 s14))) else (J63 s3))))
def fX7_measure_L10 (o0 : Nat) (J35 : AS → Option (AS × Unit)) : Nat → AS → Int32 → Option (AS × Unit)
  | 0, _, _ => none
  | n10 + 1, s15, x16 =>
    if (s15.1 o0 0) ≤ x16 then (J35 s15) else (am_g (¬ (x16 < 0 ∨ 7 ≤ x16.toNatClampNeg)) (am_c (fJ7_fill_53178 s15 (o0 + 1 + 1 + x16.toNatClampNeg) 7 (1000000 : Int32)) (fun (s19 : AS) (v18 : Unit) => am_let (x16 + (1 : Int32)) (fun (x20 : Int32) => fX7_measure_L10 o0 J35 n10 s19 x20))))
def fX7_measure (s0 : AS) (o0 : Nat) (o1 : Nat) (a2 : Int32) : Option (AS × Unit) :=
  am_let (am_si s0 o0 0 (s0.1 o1 1)) (fun (s1 : AS) => am_let (fun (s2 : AS) => fX7_measure_L37 o0 o1 a2 am_fu s2 (0 : Int32)) (fun J35 => fX7_measure_L10 o0 J35 am_fu s1 (0 : Int32)))
def kX7_measure : List (Nat × Instr × Nat) := [(0, .aload_n 0, 1), (1, .aload_n 1, 1), (2, .getfield 22, 3), (5, .putfield 28, 3), (8, .iconst 0, 1), (9, .istore_n 3, 1), (10, .iload_n 3, 1), (11, .aload_n 0, 1), (12, .getfield 28, 3), (15, .if_icmp .ge 20, 3), (18, .aload_n 0, 1), (19, .getfield 11, 3), (22, .iload_n 3, 1), (23, .aaload, 1), (24, .ldc 29, 2), (26, .invokestatic 30, 3), (29, .iinc 3 1, 3), (32, .goto (-22), 3), (35, .iconst 0, 1), (36, .istore_n 3, 1), (37, .iload_n 3, 1), (38, .aload_n 1, 1), (39, .getfield 36, 3), (42, .if_icmp .ge 27, 3), (45, .iload_n 2, 1), (46, .iload_n 3, 1), (47, .invokestatic 39, 3), (50, .ifCond .ne 13, 3), (53, .aload_n 0, 1), (54, .aload_n 1, 1), (55, .getfield 43, 3), (58, .iload_n 3, 1), (59, .aaload, 1), (60, .invokevirtual 46, 3), (63, .iinc 3 1, 3), (66, .goto (-29), 3), (69, .aload_n 0, 1), (70, .invokevirtual 50, 3), (73, .aload_n 0, 1), (74, .invokevirtual 53, 3), (77, .return_, 1)]
theorem qX7_measure : ∀ q ∈ kX7_measure, decode mX7_measure.2.2.1 q.1 = .ok (q.2.1, q.2.2) ∧ am_iok mX7_measure.2.2.2.1 q.1 q.2.1 q.2.2 = true := by decide +kernel
set_option maxRecDepth 100000 in
theorem wX7_measure : Cond.code mX7_measure.2.1 mX7_measure.2.2.1 mX7_measure.2.2.2.1 mX7_measure.2.2.2.2.1 ∈ am_T := List.mem_filter.mpr ⟨List.mem_of_getElem? (i := 716) rfl, rfl⟩
set_option maxHeartbeats 4000000 in
set_option maxRecDepth 100000 in
theorem tX7_measure (l : Launch) (d : Nat) {s0 : AS} {o0 : Nat} {o1 : Nat} {a2 : Int32} {sE : AS} {rE : Unit} (hf : fX7_measure s0 o0 o1 a2 = some (sE, rE)) : am_Ct l (d + 3) mX7_measure [.inr (.inr ((8, 0, 0), o0)), .inr (.inr ((4, 0, 0), o1)), .inl a2] s0 sE none := by
  refine am_sim l (d + 2) (code := kX7_measure) (by decide +kernel) wX7_measure qX7_measure (Nat.le_of_ble_eq_true rfl) ?_
  intro X hX
  show X 0 [(0, .inr (.inr ((8, 0, 0), o0))), (1, .inr (.inr ((4, 0, 0), o1))), (2, .inl a2)] [] s0
  unfold fX7_measure at hf
  refine am_blk hX 0 4 (And.intro rfl (And.intro rfl (am_nl (Z := fun s1 => X 8 [(0, .inr (.inr ((8, 0, 0), o0))), (1, .inr (.inr ((4, 0, 0), o1))), (2, .inl a2)] [] s1) hf (fun s1 hf => ?_))))
  refine am_jn hf (fun J35 => ∀ (s2 : AS), J35 s2 = some (sE, rE) → X 35 [(0, .inr (.inr ((8, 0, 0), o0))), (1, .inr (.inr ((4, 0, 0), o1))), (2, .inl a2)] [] s2) ?_ ?_
  · intro s2 hf
    have hL37 : ∀ (n37 : Nat) (s3 : AS) (x4 : Int32), fX7_measure_L37 o0 o1 a2 n37 s3 x4 = some (sE, rE) → X 37 [(0, .inr (.inr ((8, 0, 0), o0))), (1, .inr (.inr ((4, 0, 0), o1))), (2, .inl a2), (3, .inl x4)] [] s3 := by
      intro n37
      induction n37 with
      | zero => intro s3 x4 hf; exact am_no (show none = some _ from hf)
      | succ n37 ih37 =>
        intro s3 x4 hf
        refine am_blk hX 20 4 (And.intro rfl (And.intro (fun hb => ?_) (fun hb => ?_)))
        · have hf := am_it hf hb
          show X 69 [(0, .inr (.inr ((8, 0, 0), o0))), (1, .inr (.inr ((4, 0, 0), o1))), (2, .inl a2), (3, .inl x4)] [] s3
          obtain ⟨s6, v5, hcv5, hf⟩ := am_c_of hf
          obtain ⟨s8, v7, hcv7, hf⟩ := am_c_of hf
          refine am_blk hX 36 5 (And.intro rfl (And.intro rfl (Exists.intro s6 (Exists.intro none (And.intro (tX7_findLengths l (d + 1) hcv5) (And.intro rfl (And.intro rfl (Exists.intro s8 (Exists.intro none (And.intro (tX7_findFirsts l (d + 0) hcv7) (And.intro rfl (am_rv hf))))))))))))
        · have hf := am_if hf hb
          show X 45 [(0, .inr (.inr ((8, 0, 0), o0))), (1, .inr (.inr ((4, 0, 0), o1))), (2, .inl a2), (3, .inl x4)] [] s3
          obtain ⟨v9, hcv9, hf⟩ := am_r_of hf
          refine am_jn hf (fun J63 => ∀ (s10 : AS), J63 s10 = some (sE, rE) → X 63 [(0, .inr (.inr ((8, 0, 0), o0))), (1, .inr (.inr ((4, 0, 0), o1))), (2, .inl a2), (3, .inl x4)] [] s10) ?_ ?_
          · intro s10 hf
            refine am_blk hX 34 1 (am_nl (Z := fun x11 => X 66 [(3, .inl x11), (0, .inr (.inr ((8, 0, 0), o0))), (1, .inr (.inr ((4, 0, 0), o1))), (2, .inl a2)] [] s10) hf (fun x11 hf => ?_))
            refine am_blk hX 35 1 (?_)
            show X 37 [(3, .inl x11), (0, .inr (.inr ((8, 0, 0), o0))), (1, .inr (.inr ((4, 0, 0), o1))), (2, .inl a2)] [] s10
            exact am_wk hX [1, 2, 3, 0] (ih37 s10 x11 hf)
          · intro J63 hJ63 hf
            refine am_blk hX 24 4 (And.intro rfl (Exists.intro s3 (Exists.intro (some (.inl v9)) (And.intro (tX8_holds l (d + 1) hcv9) (And.intro (fun hb => ?_) (fun hb => ?_))))))
            · have hf := am_if hf hb
              show X 63 [(0, .inr (.inr ((8, 0, 0), o0))), (1, .inr (.inr ((4, 0, 0), o1))), (2, .inl a2), (3, .inl x4)] [] s3
              exact am_wk hX [0, 1, 2, 3] (hJ63 s3 hf)
            · have hf := am_it hf hb
              show X 53 [(0, .inr (.inr ((8, 0, 0), o0))), (1, .inr (.inr ((4, 0, 0), o1))), (2, .inl a2), (3, .inl x4)] [] s3
              obtain ⟨g12, hf⟩ := am_g_of hf
              obtain ⟨s14, v13, hcv13, hf⟩ := am_c_of hf
              refine am_blk hX 28 6 (And.intro rfl (And.intro g12 (And.intro rfl (And.intro rfl (Exists.intro s14 (Exists.intro none (And.intro (tX7_join l (d + 1) hcv13) (?_))))))))
              show X 63 [(0, .inr (.inr ((8, 0, 0), o0))), (1, .inr (.inr ((4, 0, 0), o1))), (2, .inl a2), (3, .inl x4)] [] s14
              exact am_wk hX [0, 1, 2, 3] (hJ63 s14 hf)
    refine am_blk hX 18 2 (?_)
    show X 37 [(3, .inl (0 : Int32)), (0, .inr (.inr ((8, 0, 0), o0))), (1, .inr (.inr ((4, 0, 0), o1))), (2, .inl a2)] [] s2
    exact am_wk hX [1, 2, 3, 0] (hL37 am_fu s2 (0 : Int32) hf)
  · intro J35 hJ35 hf
    have hL10 : ∀ (n10 : Nat) (s15 : AS) (x16 : Int32), fX7_measure_L10 o0 J35 n10 s15 x16 = some (sE, rE) → X 10 [(0, .inr (.inr ((8, 0, 0), o0))), (1, .inr (.inr ((4, 0, 0), o1))), (2, .inl a2), (3, .inl x16)] [] s15 := by
      intro n10
      induction n10 with
      | zero => intro s15 x16 hf; exact am_no (show none = some _ from hf)
      | succ n10 ih10 =>
        intro s15 x16 hf
        refine am_blk hX 6 4 (And.intro rfl (And.intro (fun hb => ?_) (fun hb => ?_)))
        · have hf := am_it hf hb
          show X 35 [(0, .inr (.inr ((8, 0, 0), o0))), (1, .inr (.inr ((4, 0, 0), o1))), (2, .inl a2), (3, .inl x16)] [] s15
          exact am_wk hX [0, 1, 2] (hJ35 s15 hf)
        · have hf := am_if hf hb
          show X 18 [(0, .inr (.inr ((8, 0, 0), o0))), (1, .inr (.inr ((4, 0, 0), o1))), (2, .inl a2), (3, .inl x16)] [] s15
          obtain ⟨g17, hf⟩ := am_g_of hf
          obtain ⟨s19, v18, hcv18, hf⟩ := am_c_of hf
          refine am_blk hX 10 7 (And.intro rfl (And.intro g17 (And.intro rfl (Exists.intro s19 (Exists.intro none (And.intro (tJ7_fill_53178 l (d + 1) hcv18) (am_nl (Z := fun x20 => X 32 [(3, .inl x20), (0, .inr (.inr ((8, 0, 0), o0))), (1, .inr (.inr ((4, 0, 0), o1))), (2, .inl a2)] [] s19) hf (fun x20 hf => ?_))))))))
          refine am_blk hX 17 1 (?_)
          show X 10 [(3, .inl x20), (0, .inr (.inr ((8, 0, 0), o0))), (1, .inr (.inr ((4, 0, 0), o1))), (2, .inl a2)] [] s19
          exact am_wk hX [1, 2, 3, 0] (ih10 s19 x20 hf)
    refine am_blk hX 4 2 (?_)
    show X 10 [(3, .inl (0 : Int32)), (0, .inr (.inr ((8, 0, 0), o0))), (1, .inr (.inr ((4, 0, 0), o1))), (2, .inl a2)] [] s1
    exact am_wk hX [1, 2, 3, 0] (hL10 am_fu s1 (0 : Int32) hf)
def fX8_isPerson (s0 : AS) (a1 : Int32) : Option Int32 :=
  am_let (fun (x1 : Int32) => am_g (x1 = 0 ∨ x1 = 1) (some x1)) (fun J20 => am_let (J20 (0 : Int32)) (fun J19 => if a1 < 0 then (J19) else (if (s0.1 25 6) ≤ a1 then (J19) else (J20 (1 : Int32)))))
def kX8_isPerson : List (Nat × Instr × Nat) := [(0, .iload_n 1, 1), (1, .ifCond .lt 18, 3), (4, .iload_n 1, 1), (5, .aload_n 0, 1), (6, .getfield 29, 3), (9, .getfield 123, 3), (12, .if_icmp .ge 7, 3), (15, .iconst 1, 1), (16, .goto 4, 3), (19, .iconst 0, 1), (20, .ireturn, 1)]
theorem qX8_isPerson : ∀ q ∈ kX8_isPerson, decode mX8_isPerson.2.2.1 q.1 = .ok (q.2.1, q.2.2) ∧ am_iok mX8_isPerson.2.2.2.1 q.1 q.2.1 q.2.2 = true := by decide +kernel
set_option maxRecDepth 100000 in
theorem wX8_isPerson : Cond.code mX8_isPerson.2.1 mX8_isPerson.2.2.1 mX8_isPerson.2.2.2.1 mX8_isPerson.2.2.2.2.1 ∈ am_T := List.mem_filter.mpr ⟨List.mem_of_getElem? (i := 688) rfl, rfl⟩
set_option maxHeartbeats 4000000 in
set_option maxRecDepth 100000 in
theorem tX8_isPerson (l : Launch) (d : Nat) {s0 : AS} {a1 : Int32} {rE : Int32} (hf : fX8_isPerson s0 a1 = some rE) : am_Ct l (d + 1) mX8_isPerson [.inr (.inr ((9, 0, 0), 0)), .inl a1] s0 s0 (some (.inl rE)) := by
  refine am_sim l (d + 0) (code := kX8_isPerson) (by decide +kernel) wX8_isPerson qX8_isPerson (Nat.le_of_ble_eq_true rfl) ?_
  intro X hX
  show X 0 [(0, .inr (.inr ((9, 0, 0), 0))), (1, .inl a1)] [] s0
  unfold fX8_isPerson at hf
  refine am_jn hf (fun J20 => ∀ (x1 : Int32), J20 x1 = some rE → X 20 [] [.inl x1] s0) ?_ ?_
  · intro x1 hf
    obtain ⟨g2, hf⟩ := am_g_of hf
    refine am_blk hX 10 1 (And.intro g2 (am_rpi hf))
  · intro J20 hJ20 hf
    refine am_jn hf (fun J19 => J19 = some rE → X 19 [] [] s0) ?_ ?_
    · intro hf
      refine am_blk hX 9 1 (?_)
      show X 20 [] [.inl (0 : Int32)] s0
      exact am_wk hX [] (hJ20 (0 : Int32) hf)
    · intro J19 hJ19 hf
      refine am_blk hX 0 2 (And.intro (fun hb => ?_) (fun hb => ?_))
      · have hf := am_it hf hb
        show X 19 [(0, .inr (.inr ((9, 0, 0), 0))), (1, .inl a1)] [] s0
        exact am_wk hX [] (hJ19 hf)
      · have hf := am_if hf hb
        show X 4 [(0, .inr (.inr ((9, 0, 0), 0))), (1, .inl a1)] [] s0
        refine am_blk hX 2 5 (And.intro rfl (And.intro rfl (And.intro (fun hb => ?_) (fun hb => ?_))))
        · have hf := am_it hf hb
          show X 19 [(0, .inr (.inr ((9, 0, 0), 0))), (1, .inl a1)] [] s0
          exact am_wk hX [] (hJ19 hf)
        · have hf := am_if hf hb
          show X 15 [(0, .inr (.inr ((9, 0, 0), 0))), (1, .inl a1)] [] s0
          refine am_blk hX 7 2 (?_)
          show X 20 [(0, .inr (.inr ((9, 0, 0), 0))), (1, .inl a1)] [.inl (1 : Int32)] s0
          exact am_wk hX [] (hJ20 (1 : Int32) hf)
def fX8_agreesOnFalls_L2 (o1 : Nat) (s0 : AS) (J50 : Option Int32) : Nat → Int32 → Option Int32
  | 0, _ => none
  | n2 + 1, x1 =>
    if (s0.1 o1 2) ≤ (x1 + (1 : Int32)) then (some (1 : Int32)) else (am_g (¬ (x1 < 0 ∨ 60 ≤ x1.toNatClampNeg)) (am_let ((s0.2 (o1 + 1) x1.toNatClampNeg).toInt32) (fun (x3 : Int32) => am_r (fX8_isPerson s0 x3) (fun (v4 : Int32) => if v4 = 0 then (J50) else (am_g (¬ (x3 < 0 ∨ 8 ≤ x3.toNatClampNeg)) (am_g (¬ ((x1 + (1 : Int32)) < 0 ∨ 60 ≤ (x1 + (1 : Int32)).toNatClampNeg)) (if (lg_cmp ((s0.1 202 x3.toNatClampNeg).toInt64) (s0.2 (o1 + 1) ((x1 + (1 : Int32)).toNatClampNeg))) = 0 then (am_let (x1 + (2 : Int32)) (fun (x7 : Int32) => fX8_agreesOnFalls_L2 o1 s0 J50 n2 x7)) else (J50))))))))
def fX8_agreesOnFalls (s0 : AS) (o1 : Nat) : Option Int32 :=
  am_let (some (0 : Int32)) (fun J50 => fX8_agreesOnFalls_L2 o1 s0 J50 am_fu (0 : Int32))
def kX8_agreesOnFalls : List (Nat × Instr × Nat) := [(0, .iconst 0, 1), (1, .istore_n 2, 1), (2, .iload_n 2, 1), (3, .iconst 1, 1), (4, .iadd, 1), (5, .aload_n 1, 1), (6, .getfield 315, 3), (9, .if_icmp .ge 49, 3), (12, .aload_n 1, 1), (13, .getfield 318, 3), (16, .iload_n 2, 1), (17, .laload, 1), (18, .l2i, 1), (19, .istore_n 3, 1), (20, .aload_n 0, 1), (21, .iload_n 3, 1), (22, .invokevirtual 137, 3), (25, .ifCond .eq 25, 3), (28, .aload_n 0, 1), (29, .getfield 75, 3), (32, .getfield 228, 3), (35, .iload_n 3, 1), (36, .iaload, 1), (37, .i2l, 1), (38, .aload_n 1, 1), (39, .getfield 318, 3), (42, .iload_n 2, 1), (43, .iconst 1, 1), (44, .iadd, 1), (45, .laload, 1), (46, .lcmp, 1), (47, .ifCond .eq 5, 3), (50, .iconst 0, 1), (51, .ireturn, 1), (52, .iinc 2 2, 3), (55, .goto (-53), 3), (58, .iconst 1, 1), (59, .ireturn, 1)]
theorem qX8_agreesOnFalls : ∀ q ∈ kX8_agreesOnFalls, decode mX8_agreesOnFalls.2.2.1 q.1 = .ok (q.2.1, q.2.2) ∧ am_iok mX8_agreesOnFalls.2.2.2.1 q.1 q.2.1 q.2.2 = true := by decide +kernel
set_option maxRecDepth 100000 in
theorem wX8_agreesOnFalls : Cond.code mX8_agreesOnFalls.2.1 mX8_agreesOnFalls.2.2.1 mX8_agreesOnFalls.2.2.2.1 mX8_agreesOnFalls.2.2.2.2.1 ∈ am_T := List.mem_filter.mpr ⟨List.mem_of_getElem? (i := 1099) rfl, rfl⟩
set_option maxHeartbeats 4000000 in
set_option maxRecDepth 100000 in
theorem tX8_agreesOnFalls (l : Launch) (d : Nat) {s0 : AS} {o1 : Nat} {rE : Int32} (hf : fX8_agreesOnFalls s0 o1 = some rE) : am_Ct l (d + 2) mX8_agreesOnFalls [.inr (.inr ((9, 0, 0), 0)), .inr (.inr ((6, 0, 0), o1))] s0 s0 (some (.inl rE)) := by
  refine am_sim l (d + 1) (code := kX8_agreesOnFalls) (by decide +kernel) wX8_agreesOnFalls qX8_agreesOnFalls (Nat.le_of_ble_eq_true rfl) ?_
  intro X hX
  show X 0 [(0, .inr (.inr ((9, 0, 0), 0))), (1, .inr (.inr ((6, 0, 0), o1)))] [] s0
  unfold fX8_agreesOnFalls at hf
  refine am_jn hf (fun J50 => J50 = some rE → X 50 [] [] s0) ?_ ?_
  · intro hf
    refine am_blk hX 32 2 (And.intro (Or.inl rfl) (am_rpi hf))
  · intro J50 hJ50 hf
    have hL2 : ∀ (n2 : Nat) (x1 : Int32), fX8_agreesOnFalls_L2 o1 s0 J50 n2 x1 = some rE → X 2 [(0, .inr (.inr ((9, 0, 0), 0))), (1, .inr (.inr ((6, 0, 0), o1))), (2, .inl x1)] [] s0 := by
      intro n2
      induction n2 with
      | zero => intro x1 hf; exact am_no (show none = some _ from hf)
      | succ n2 ih2 =>
        intro x1 hf
        refine am_blk hX 2 6 (And.intro rfl (And.intro (fun hb => ?_) (fun hb => ?_)))
        · have hf := am_it hf hb
          show X 58 [(0, .inr (.inr ((9, 0, 0), 0))), (1, .inr (.inr ((6, 0, 0), o1))), (2, .inl x1)] [] s0
          refine am_blk hX 36 2 (And.intro (Or.inr rfl) (am_rpi hf))
        · have hf := am_if hf hb
          show X 12 [(0, .inr (.inr ((9, 0, 0), 0))), (1, .inr (.inr ((6, 0, 0), o1))), (2, .inl x1)] [] s0
          obtain ⟨g2, hf⟩ := am_g_of hf
          refine am_blk hX 8 6 (And.intro rfl (And.intro rfl (And.intro g2 (am_nl (Z := fun x3 => X 20 [(3, .inl x3), (0, .inr (.inr ((9, 0, 0), 0))), (1, .inr (.inr ((6, 0, 0), o1))), (2, .inl x1)] [] s0) hf (fun x3 hf => ?_)))))
          obtain ⟨v4, hcv4, hf⟩ := am_r_of hf
          refine am_blk hX 14 4 (And.intro rfl (And.intro rfl (Exists.intro s0 (Exists.intro (some (.inl v4)) (And.intro (tX8_isPerson l (d + 0) hcv4) (And.intro (fun hb => ?_) (fun hb => ?_)))))))
          · have hf := am_it hf hb
            show X 50 [(3, .inl x3), (0, .inr (.inr ((9, 0, 0), 0))), (1, .inr (.inr ((6, 0, 0), o1))), (2, .inl x1)] [] s0
            exact am_wk hX [] (hJ50 hf)
          · have hf := am_if hf hb
            show X 28 [(3, .inl x3), (0, .inr (.inr ((9, 0, 0), 0))), (1, .inr (.inr ((6, 0, 0), o1))), (2, .inl x1)] [] s0
            obtain ⟨g5, hf⟩ := am_g_of hf
            obtain ⟨g6, hf⟩ := am_g_of hf
            refine am_blk hX 18 14 (And.intro rfl (And.intro rfl (And.intro rfl (And.intro g5 (And.intro rfl (And.intro rfl (And.intro g6 (And.intro (fun hb => ?_) (fun hb => ?_)))))))))
            · have hf := am_it hf hb
              show X 52 [(3, .inl x3), (0, .inr (.inr ((9, 0, 0), 0))), (1, .inr (.inr ((6, 0, 0), o1))), (2, .inl x1)] [] s0
              refine am_blk hX 34 1 (am_nl (Z := fun x7 => X 55 [(2, .inl x7), (3, .inl x3), (0, .inr (.inr ((9, 0, 0), 0))), (1, .inr (.inr ((6, 0, 0), o1)))] [] s0) hf (fun x7 hf => ?_))
              refine am_blk hX 35 1 (?_)
              show X 2 [(2, .inl x7), (3, .inl x3), (0, .inr (.inr ((9, 0, 0), 0))), (1, .inr (.inr ((6, 0, 0), o1)))] [] s0
              exact am_wk hX [2, 3, 0] (ih2 x7 hf)
            · have hf := am_if hf hb
              show X 50 [(3, .inl x3), (0, .inr (.inr ((9, 0, 0), 0))), (1, .inr (.inr ((6, 0, 0), o1))), (2, .inl x1)] [] s0
              exact am_wk hX [] (hJ50 hf)
    refine am_blk hX 0 2 (?_)
    show X 2 [(2, .inl (0 : Int32)), (0, .inr (.inr ((9, 0, 0), 0))), (1, .inr (.inr ((6, 0, 0), o1)))] [] s0
    exact am_wk hX [1, 2, 0] (hL2 am_fu (0 : Int32) hf)
def fX8_isMarch (s0 : AS) : Option Int32 :=
  am_let (fun (x1 : Int32) => am_g (x1 = 0 ∨ x1 = 1) (some x1)) (fun J15 => if (s0.1 25 0) ≤ 0 then (J15 (0 : Int32)) else (J15 (1 : Int32)))
def kX8_isMarch : List (Nat × Instr × Nat) := [(0, .aload_n 0, 1), (1, .getfield 29, 3), (4, .getfield 111, 3), (7, .ifCond .le 7, 3), (10, .iconst 1, 1), (11, .goto 4, 3), (14, .iconst 0, 1), (15, .ireturn, 1)]
theorem qX8_isMarch : ∀ q ∈ kX8_isMarch, decode mX8_isMarch.2.2.1 q.1 = .ok (q.2.1, q.2.2) ∧ am_iok mX8_isMarch.2.2.2.1 q.1 q.2.1 q.2.2 = true := by decide +kernel
set_option maxRecDepth 100000 in
theorem wX8_isMarch : Cond.code mX8_isMarch.2.1 mX8_isMarch.2.2.1 mX8_isMarch.2.2.2.1 mX8_isMarch.2.2.2.2.1 ∈ am_T := List.mem_filter.mpr ⟨List.mem_of_getElem? (i := 846) rfl, rfl⟩
set_option maxHeartbeats 4000000 in
set_option maxRecDepth 100000 in
theorem tX8_isMarch (l : Launch) (d : Nat) {s0 : AS} {rE : Int32} (hf : fX8_isMarch s0 = some rE) : am_Ct l (d + 1) mX8_isMarch [.inr (.inr ((9, 0, 0), 0))] s0 s0 (some (.inl rE)) := by
  refine am_sim l (d + 0) (code := kX8_isMarch) (by decide +kernel) wX8_isMarch qX8_isMarch (Nat.le_of_ble_eq_true rfl) ?_
  intro X hX
  show X 0 [(0, .inr (.inr ((9, 0, 0), 0)))] [] s0
  unfold fX8_isMarch at hf
  refine am_jn hf (fun J15 => ∀ (x1 : Int32), J15 x1 = some rE → X 15 [] [.inl x1] s0) ?_ ?_
  · intro x1 hf
    obtain ⟨g2, hf⟩ := am_g_of hf
    refine am_blk hX 7 1 (And.intro g2 (am_rpi hf))
  · intro J15 hJ15 hf
    refine am_blk hX 0 4 (And.intro rfl (And.intro rfl (And.intro (fun hb => ?_) (fun hb => ?_))))
    · have hf := am_it hf hb
      show X 14 [(0, .inr (.inr ((9, 0, 0), 0)))] [] s0
      refine am_blk hX 6 1 (?_)
      show X 15 [(0, .inr (.inr ((9, 0, 0), 0)))] [.inl (0 : Int32)] s0
      exact am_wk hX [] (hJ15 (0 : Int32) hf)
    · have hf := am_if hf hb
      show X 10 [(0, .inr (.inr ((9, 0, 0), 0)))] [] s0
      refine am_blk hX 4 2 (?_)
      show X 15 [(0, .inr (.inr ((9, 0, 0), 0)))] [.inl (1 : Int32)] s0
      exact am_wk hX [] (hJ15 (1 : Int32) hf)
def fX8_isStep (s0 : AS) (a1 : Int32) : Option Int32 :=
  am_r (fX8_isMarch s0) (fun (v1 : Int32) => am_let (fun (x2 : Int32) => am_g (x2 = 0 ∨ x2 = 1) (some x2)) (fun J22 => am_let (J22 (0 : Int32)) (fun J21 => if v1 = 0 then (J21) else (if a1 < 0 then (J21) else (if (60 : Int32) < a1 then (J21) else (J22 (1 : Int32)))))))
def kX8_isStep : List (Nat × Instr × Nat) := [(0, .aload_n 0, 1), (1, .invokevirtual 126, 3), (4, .ifCond .eq 17, 3), (7, .iload_n 1, 1), (8, .ifCond .lt 13, 3), (11, .iload_n 1, 1), (12, .bipush 60, 2), (14, .if_icmp .gt 7, 3), (17, .iconst 1, 1), (18, .goto 4, 3), (21, .iconst 0, 1), (22, .ireturn, 1)]
theorem qX8_isStep : ∀ q ∈ kX8_isStep, decode mX8_isStep.2.2.1 q.1 = .ok (q.2.1, q.2.2) ∧ am_iok mX8_isStep.2.2.2.1 q.1 q.2.1 q.2.2 = true := by decide +kernel
set_option maxRecDepth 100000 in
theorem wX8_isStep : Cond.code mX8_isStep.2.1 mX8_isStep.2.2.1 mX8_isStep.2.2.2.1 mX8_isStep.2.2.2.2.1 ∈ am_T := List.mem_filter.mpr ⟨List.mem_of_getElem? (i := 842) rfl, rfl⟩
set_option maxHeartbeats 4000000 in
set_option maxRecDepth 100000 in
theorem tX8_isStep (l : Launch) (d : Nat) {s0 : AS} {a1 : Int32} {rE : Int32} (hf : fX8_isStep s0 a1 = some rE) : am_Ct l (d + 2) mX8_isStep [.inr (.inr ((9, 0, 0), 0)), .inl a1] s0 s0 (some (.inl rE)) := by
  refine am_sim l (d + 1) (code := kX8_isStep) (by decide +kernel) wX8_isStep qX8_isStep (Nat.le_of_ble_eq_true rfl) ?_
  intro X hX
  show X 0 [(0, .inr (.inr ((9, 0, 0), 0))), (1, .inl a1)] [] s0
  unfold fX8_isStep at hf
  obtain ⟨v1, hcv1, hf⟩ := am_r_of hf
  refine am_jn hf (fun J22 => ∀ (x2 : Int32), J22 x2 = some rE → X 22 [] [.inl x2] s0) ?_ ?_
  · intro x2 hf
    obtain ⟨g3, hf⟩ := am_g_of hf
    refine am_blk hX 11 1 (And.intro g3 (am_rpi hf))
  · intro J22 hJ22 hf
    refine am_jn hf (fun J21 => J21 = some rE → X 21 [] [] s0) ?_ ?_
    · intro hf
      refine am_blk hX 10 1 (?_)
      show X 22 [] [.inl (0 : Int32)] s0
      exact am_wk hX [] (hJ22 (0 : Int32) hf)
    · intro J21 hJ21 hf
      refine am_blk hX 0 3 (And.intro rfl (And.intro rfl (Exists.intro s0 (Exists.intro (some (.inl v1)) (And.intro (tX8_isMarch l (d + 0) hcv1) (And.intro (fun hb => ?_) (fun hb => ?_)))))))
      · have hf := am_it hf hb
        show X 21 [(0, .inr (.inr ((9, 0, 0), 0))), (1, .inl a1)] [] s0
        exact am_wk hX [] (hJ21 hf)
      · have hf := am_if hf hb
        show X 7 [(0, .inr (.inr ((9, 0, 0), 0))), (1, .inl a1)] [] s0
        refine am_blk hX 3 2 (And.intro (fun hb => ?_) (fun hb => ?_))
        · have hf := am_it hf hb
          show X 21 [(0, .inr (.inr ((9, 0, 0), 0))), (1, .inl a1)] [] s0
          exact am_wk hX [] (hJ21 hf)
        · have hf := am_if hf hb
          show X 11 [(0, .inr (.inr ((9, 0, 0), 0))), (1, .inl a1)] [] s0
          refine am_blk hX 5 3 (And.intro (fun hb => ?_) (fun hb => ?_))
          · have hf := am_it hf hb
            show X 21 [(0, .inr (.inr ((9, 0, 0), 0))), (1, .inl a1)] [] s0
            exact am_wk hX [] (hJ21 hf)
          · have hf := am_if hf hb
            show X 17 [(0, .inr (.inr ((9, 0, 0), 0))), (1, .inl a1)] [] s0
            refine am_blk hX 8 2 (?_)
            show X 22 [(0, .inr (.inr ((9, 0, 0), 0))), (1, .inl a1)] [.inl (1 : Int32)] s0
            exact am_wk hX [] (hJ22 (1 : Int32) hf)
def fX8_agreesOnPlaces_L2 (o1 : Nat) (s0 : AS) (J50 : Option Int32) : Nat → Int32 → Option Int32
  | 0, _ => none
  | n2 + 1, x1 =>
    if (s0.1 o1 2) ≤ (x1 + (1 : Int32)) then (some (1 : Int32)) else (am_g (¬ (x1 < 0 ∨ 60 ≤ x1.toNatClampNeg)) (am_let ((s0.2 (o1 + 1) x1.toNatClampNeg).toInt32) (fun (x3 : Int32) => am_r (fX8_isStep s0 x3) (fun (v4 : Int32) => if v4 = 0 then (J50) else (am_g (¬ (x3 < 0 ∨ 61 ≤ x3.toNatClampNeg)) (am_g (¬ ((x1 + (1 : Int32)) < 0 ∨ 60 ≤ (x1 + (1 : Int32)).toNatClampNeg)) (if (lg_cmp ((s0.1 199 x3.toNatClampNeg).toInt64) (s0.2 (o1 + 1) ((x1 + (1 : Int32)).toNatClampNeg))) = 0 then (am_let (x1 + (2 : Int32)) (fun (x7 : Int32) => fX8_agreesOnPlaces_L2 o1 s0 J50 n2 x7)) else (J50))))))))
def fX8_agreesOnPlaces (s0 : AS) (o1 : Nat) : Option Int32 :=
  am_let (some (0 : Int32)) (fun J50 => fX8_agreesOnPlaces_L2 o1 s0 J50 am_fu (0 : Int32))
def kX8_agreesOnPlaces : List (Nat × Instr × Nat) := [(0, .iconst 0, 1), (1, .istore_n 2, 1), (2, .iload_n 2, 1), (3, .iconst 1, 1), (4, .iadd, 1), (5, .aload_n 1, 1), (6, .getfield 315, 3), (9, .if_icmp .ge 49, 3), (12, .aload_n 1, 1), (13, .getfield 318, 3), (16, .iload_n 2, 1), (17, .laload, 1), (18, .l2i, 1), (19, .istore_n 3, 1), (20, .aload_n 0, 1), (21, .iload_n 3, 1), (22, .invokevirtual 209, 3), (25, .ifCond .eq 25, 3), (28, .aload_n 0, 1), (29, .getfield 75, 3), (32, .getfield 212, 3), (35, .iload_n 3, 1), (36, .iaload, 1), (37, .i2l, 1), (38, .aload_n 1, 1), (39, .getfield 318, 3), (42, .iload_n 2, 1), (43, .iconst 1, 1), (44, .iadd, 1), (45, .laload, 1), (46, .lcmp, 1), (47, .ifCond .eq 5, 3), (50, .iconst 0, 1), (51, .ireturn, 1), (52, .iinc 2 2, 3), (55, .goto (-53), 3), (58, .iconst 1, 1), (59, .ireturn, 1)]
theorem qX8_agreesOnPlaces : ∀ q ∈ kX8_agreesOnPlaces, decode mX8_agreesOnPlaces.2.2.1 q.1 = .ok (q.2.1, q.2.2) ∧ am_iok mX8_agreesOnPlaces.2.2.2.1 q.1 q.2.1 q.2.2 = true := by decide +kernel
set_option maxRecDepth 100000 in
theorem wX8_agreesOnPlaces : Cond.code mX8_agreesOnPlaces.2.1 mX8_agreesOnPlaces.2.2.1 mX8_agreesOnPlaces.2.2.2.1 mX8_agreesOnPlaces.2.2.2.2.1 ∈ am_T := List.mem_filter.mpr ⟨List.mem_of_getElem? (i := 1131) rfl, rfl⟩
set_option maxHeartbeats 4000000 in
set_option maxRecDepth 100000 in
theorem tX8_agreesOnPlaces (l : Launch) (d : Nat) {s0 : AS} {o1 : Nat} {rE : Int32} (hf : fX8_agreesOnPlaces s0 o1 = some rE) : am_Ct l (d + 3) mX8_agreesOnPlaces [.inr (.inr ((9, 0, 0), 0)), .inr (.inr ((6, 0, 0), o1))] s0 s0 (some (.inl rE)) := by
  refine am_sim l (d + 2) (code := kX8_agreesOnPlaces) (by decide +kernel) wX8_agreesOnPlaces qX8_agreesOnPlaces (Nat.le_of_ble_eq_true rfl) ?_
  intro X hX
  show X 0 [(0, .inr (.inr ((9, 0, 0), 0))), (1, .inr (.inr ((6, 0, 0), o1)))] [] s0
  unfold fX8_agreesOnPlaces at hf
  refine am_jn hf (fun J50 => J50 = some rE → X 50 [] [] s0) ?_ ?_
  · intro hf
    refine am_blk hX 32 2 (And.intro (Or.inl rfl) (am_rpi hf))
  · intro J50 hJ50 hf
    have hL2 : ∀ (n2 : Nat) (x1 : Int32), fX8_agreesOnPlaces_L2 o1 s0 J50 n2 x1 = some rE → X 2 [(0, .inr (.inr ((9, 0, 0), 0))), (1, .inr (.inr ((6, 0, 0), o1))), (2, .inl x1)] [] s0 := by
      intro n2
      induction n2 with
      | zero => intro x1 hf; exact am_no (show none = some _ from hf)
      | succ n2 ih2 =>
        intro x1 hf
        refine am_blk hX 2 6 (And.intro rfl (And.intro (fun hb => ?_) (fun hb => ?_)))
        · have hf := am_it hf hb
          show X 58 [(0, .inr (.inr ((9, 0, 0), 0))), (1, .inr (.inr ((6, 0, 0), o1))), (2, .inl x1)] [] s0
          refine am_blk hX 36 2 (And.intro (Or.inr rfl) (am_rpi hf))
        · have hf := am_if hf hb
          show X 12 [(0, .inr (.inr ((9, 0, 0), 0))), (1, .inr (.inr ((6, 0, 0), o1))), (2, .inl x1)] [] s0
          obtain ⟨g2, hf⟩ := am_g_of hf
          refine am_blk hX 8 6 (And.intro rfl (And.intro rfl (And.intro g2 (am_nl (Z := fun x3 => X 20 [(3, .inl x3), (0, .inr (.inr ((9, 0, 0), 0))), (1, .inr (.inr ((6, 0, 0), o1))), (2, .inl x1)] [] s0) hf (fun x3 hf => ?_)))))
          obtain ⟨v4, hcv4, hf⟩ := am_r_of hf
          refine am_blk hX 14 4 (And.intro rfl (And.intro rfl (Exists.intro s0 (Exists.intro (some (.inl v4)) (And.intro (tX8_isStep l (d + 0) hcv4) (And.intro (fun hb => ?_) (fun hb => ?_)))))))
          · have hf := am_it hf hb
            show X 50 [(3, .inl x3), (0, .inr (.inr ((9, 0, 0), 0))), (1, .inr (.inr ((6, 0, 0), o1))), (2, .inl x1)] [] s0
            exact am_wk hX [] (hJ50 hf)
          · have hf := am_if hf hb
            show X 28 [(3, .inl x3), (0, .inr (.inr ((9, 0, 0), 0))), (1, .inr (.inr ((6, 0, 0), o1))), (2, .inl x1)] [] s0
            obtain ⟨g5, hf⟩ := am_g_of hf
            obtain ⟨g6, hf⟩ := am_g_of hf
            refine am_blk hX 18 14 (And.intro rfl (And.intro rfl (And.intro rfl (And.intro g5 (And.intro rfl (And.intro rfl (And.intro g6 (And.intro (fun hb => ?_) (fun hb => ?_)))))))))
            · have hf := am_it hf hb
              show X 52 [(3, .inl x3), (0, .inr (.inr ((9, 0, 0), 0))), (1, .inr (.inr ((6, 0, 0), o1))), (2, .inl x1)] [] s0
              refine am_blk hX 34 1 (am_nl (Z := fun x7 => X 55 [(2, .inl x7), (3, .inl x3), (0, .inr (.inr ((9, 0, 0), 0))), (1, .inr (.inr ((6, 0, 0), o1)))] [] s0) hf (fun x7 hf => ?_))
              refine am_blk hX 35 1 (?_)
              show X 2 [(2, .inl x7), (3, .inl x3), (0, .inr (.inr ((9, 0, 0), 0))), (1, .inr (.inr ((6, 0, 0), o1)))] [] s0
              exact am_wk hX [2, 3, 0] (ih2 x7 hf)
            · have hf := am_if hf hb
              show X 50 [(3, .inl x3), (0, .inr (.inr ((9, 0, 0), 0))), (1, .inr (.inr ((6, 0, 0), o1))), (2, .inl x1)] [] s0
              exact am_wk hX [] (hJ50 hf)
    refine am_blk hX 0 2 (?_)
    show X 2 [(2, .inl (0 : Int32)), (0, .inr (.inr ((9, 0, 0), 0))), (1, .inr (.inr ((6, 0, 0), o1)))] [] s0
    exact am_wk hX [1, 2, 0] (hL2 am_fu (0 : Int32) hf)
def fX8_anew (s0 : AS) : Option (AS × Int32) :=
  am_r (fX8_isMarch s0) (fun (v1 : Int32) => if v1 = 0 then (some (s0, (-2 : Int32))) else (am_let (s0.1 47 0) (fun (x2 : Int32) => am_c (fX0_clear s0 47) (fun (s4 : AS) (v3 : Unit) => am_let (am_si s4 0 8 (0 : Int32)) (fun (s5 : AS) => some (s5, x2))))))
def kX8_anew : List (Nat × Instr × Nat) := [(0, .aload_n 0, 1), (1, .invokevirtual 126, 3), (4, .ifCond .ne 6, 3), (7, .bipush (-2), 2), (9, .ireturn, 1), (10, .aload_n 0, 1), (11, .getfield 35, 3), (14, .getfield 152, 3), (17, .istore_n 1, 1), (18, .aload_n 0, 1), (19, .getfield 35, 3), (22, .invokevirtual 104, 3), (25, .aload_n 0, 1), (26, .iconst 0, 1), (27, .putfield 107, 3), (30, .iload_n 1, 1), (31, .ireturn, 1)]
theorem qX8_anew : ∀ q ∈ kX8_anew, decode mX8_anew.2.2.1 q.1 = .ok (q.2.1, q.2.2) ∧ am_iok mX8_anew.2.2.2.1 q.1 q.2.1 q.2.2 = true := by decide +kernel
set_option maxRecDepth 100000 in
theorem wX8_anew : Cond.code mX8_anew.2.1 mX8_anew.2.2.1 mX8_anew.2.2.2.1 mX8_anew.2.2.2.2.1 ∈ am_T := List.mem_filter.mpr ⟨List.mem_of_getElem? (i := 1244) rfl, rfl⟩
set_option maxHeartbeats 4000000 in
set_option maxRecDepth 100000 in
theorem tX8_anew (l : Launch) (d : Nat) {s0 : AS} {sE : AS} {rE : Int32} (hf : fX8_anew s0 = some (sE, rE)) : am_Ct l (d + 2) mX8_anew [.inr (.inr ((9, 0, 0), 0))] s0 sE (some (.inl rE)) := by
  refine am_sim l (d + 1) (code := kX8_anew) (by decide +kernel) wX8_anew qX8_anew (Nat.le_of_ble_eq_true rfl) ?_
  intro X hX
  show X 0 [(0, .inr (.inr ((9, 0, 0), 0)))] [] s0
  unfold fX8_anew at hf
  obtain ⟨v1, hcv1, hf⟩ := am_r_of hf
  refine am_blk hX 0 3 (And.intro rfl (And.intro rfl (Exists.intro s0 (Exists.intro (some (.inl v1)) (And.intro (tX8_isMarch l (d + 0) hcv1) (And.intro (fun hb => ?_) (fun hb => ?_)))))))
  · have hf := am_if hf hb
    show X 10 [(0, .inr (.inr ((9, 0, 0), 0)))] [] s0
    refine am_blk hX 5 4 (And.intro rfl (And.intro rfl (am_nl (Z := fun x2 => X 18 [(1, .inl x2), (0, .inr (.inr ((9, 0, 0), 0)))] [] s0) hf (fun x2 hf => ?_))))
    obtain ⟨s4, v3, hcv3, hf⟩ := am_c_of hf
    refine am_blk hX 9 6 (And.intro rfl (And.intro rfl (And.intro rfl (Exists.intro s4 (Exists.intro none (And.intro (tX0_clear l (d + 0) hcv3) (And.intro rfl (And.intro (Or.inl rfl) (am_nl (Z := fun s5 => X 30 [(1, .inl x2), (0, .inr (.inr ((9, 0, 0), 0)))] [] s5) hf (fun s5 hf => ?_))))))))))
    refine am_blk hX 15 2 (am_ri hf)
  · have hf := am_it hf hb
    show X 7 [(0, .inr (.inr ((9, 0, 0), 0)))] [] s0
    refine am_blk hX 3 2 (am_ri hf)
