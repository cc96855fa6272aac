/-! METHODS, printed by gen.py. -/
def fX9_ask_L74 (v3 : Int32) (x9 : Int32) (J171 : AS → Int32 → Option (AS × Int32)) : Nat → AS → Int32 → Int32 → Option (AS × Int32)
  | 0, _, _, _ => none
  | n74 + 1, s17, x18, x19 =>
    am_g (¬ ((0 : Int32) < 0 ∨ 35 ≤ (0 : Int32).toNatClampNeg)) (if (s17.1 222 ((0 : Int32).toNatClampNeg)) ≤ x19 then (J171 s17 x18) else (am_r (fX9_isBit v3 x19) (fun (v21 : Int32) => am_let (fun (s22 : AS) (x23 : Int32) => am_let (x19 + (1 : Int32)) (fun (x24 : Int32) => fX9_ask_L74 v3 x9 J171 n74 s22 x23 x24)) (fun J165 => if v21 = 0 then (J165 s17 x18) else (am_let (am_si s17 215 25 x19) (fun (s25 : AS) => am_c (fX9_runs s25) (fun (s27 : AS) (v26 : Unit) => am_g (¬ (x9 < 0 ∨ 8 ≤ x9.toNatClampNeg)) (am_g (¬ (((1 : Int32) + (s27.1 233 x9.toNatClampNeg)) < 0 ∨ 62 ≤ ((1 : Int32) + (s27.1 233 x9.toNatClampNeg)).toNatClampNeg)) (am_g (¬ (((1 : Int32) + (s27.1 233 x9.toNatClampNeg)) < 0 ∨ 62 ≤ ((1 : Int32) + (s27.1 233 x9.toNatClampNeg)).toNatClampNeg)) (am_let (am_si s27 236 (((1 : Int32) + (s27.1 233 x9.toNatClampNeg)).toNatClampNeg) ((s27.1 236 (((1 : Int32) + (s27.1 233 x9.toNatClampNeg)).toNatClampNeg)) + (1 : Int32))) (fun (s31 : AS) => am_g (¬ (x9 < 0 ∨ 8 ≤ x9.toNatClampNeg)) (am_g (¬ (((1 : Int32) + (s31.1 233 x9.toNatClampNeg)) < 0 ∨ 62 ≤ ((1 : Int32) + (s31.1 233 x9.toNatClampNeg)).toNatClampNeg)) (am_let (fun (x34 : Int32) => J165 s31 x34) (fun J163 => if (s31.1 236 (((1 : Int32) + (s31.1 233 x9.toNatClampNeg)).toNatClampNeg)) ≤ x18 then (J163 x18) else (am_g (¬ (x9 < 0 ∨ 8 ≤ x9.toNatClampNeg)) (am_g (¬ (((1 : Int32) + (s31.1 233 x9.toNatClampNeg)) < 0 ∨ 62 ≤ ((1 : Int32) + (s31.1 233 x9.toNatClampNeg)).toNatClampNeg)) (J163 (s31.1 236 (((1 : Int32) + (s31.1 233 x9.toNatClampNeg)).toNatClampNeg)))))))))))))))))))
def fX9_ask_L47 (J68 : AS → Option (AS × Int32)) : Nat → AS → Int32 → Option (AS × Int32)
  | 0, _, _ => none
  | n47 + 1, s37, x38 =>
    if (62 : Int32) ≤ x38 then (J68 s37) else (am_g (¬ (x38 < 0 ∨ 62 ≤ x38.toNatClampNeg)) (am_let (am_si s37 236 (x38.toNatClampNeg) (0 : Int32)) (fun (s40 : AS) => am_let (x38 + (1 : Int32)) (fun (x41 : Int32) => fX9_ask_L47 J68 n47 s40 x41))))
def fX9_ask_L35 (v3 : Int32) : Nat → AS → Int32 → Int32 → Int32 → Option (AS × Int32)
  | 0, _, _, _, _ => none
  | n35 + 1, s6, x7, x8, x9 =>
    am_r (fX9_people s6) (fun (v10 : Int32) => if v10 ≤ x9 then (some (s6, x7)) else (am_let (fun (s11 : AS) => am_let (fun (s12 : AS) (x13 : Int32) => am_let (fun (x14 : Int32) (x15 : Int32) => am_let (x9 + (1 : Int32)) (fun (x16 : Int32) => fX9_ask_L35 v3 n35 s12 x14 x15 x16)) (fun J189 => if x13 < x8 then (J189 x9 x13) else (J189 x7 x8))) (fun J171 => fX9_ask_L74 v3 x9 J171 am_fu s11 (0 : Int32) (0 : Int32))) (fun J68 => fX9_ask_L47 J68 am_fu s6 (0 : Int32))))
def fX9_ask (s0 : AS) (a1 : Int32) : Option (AS × Int32) :=
  am_let (am_si s0 215 0 (0 : Int32)) (fun (s1 : AS) => am_r (fX9_whyNotStarts s1 a1) (fun (v2 : Int32) => if v2 = 0 then (am_c (fX9_startsOf s1 a1) (fun (s4 : AS) (v3 : Int32) => am_r (fX9_sizeOf v3) (fun (v5 : Int32) => fX9_ask_L35 v3 am_fu s4 (-1 : Int32) v5 (0 : Int32)))) else (some (s1, v2))))
def kX9_ask : List (Nat × Instr × Nat) := [(0, .aload_n 0, 1), (1, .iconst 0, 1), (2, .putfield 80, 3), (5, .aload_n 0, 1), (6, .iload_n 1, 1), (7, .invokevirtual 392, 3), (10, .istore_n 2, 1), (11, .iload_n 2, 1), (12, .ifCond .eq 5, 3), (15, .iload_n 2, 1), (16, .ireturn, 1), (17, .aload_n 0, 1), (18, .iload_n 1, 1), (19, .invokevirtual 395, 3), (22, .istore_n 3, 1), (23, .iconst (-1), 1), (24, .istore 4, 2), (26, .iload_n 3, 1), (27, .invokestatic 293, 3), (30, .istore 5, 2), (32, .iconst 0, 1), (33, .istore 6, 2), (35, .iload 6, 2), (37, .aload_n 0, 1), (38, .invokevirtual 248, 3), (41, .if_icmp .ge 154, 3), (44, .iconst 0, 1), (45, .istore 7, 2), (47, .iload 7, 2), (49, .bipush 62, 2), (51, .if_icmp .ge 17, 3), (54, .aload_n 0, 1), (55, .getfield 77, 3), (58, .iload 7, 2), (60, .iconst 0, 1), (61, .iastore, 1), (62, .iinc 7 1, 3), (65, .goto (-18), 3), (68, .iconst 0, 1), (69, .istore 7, 2), (71, .iconst 0, 1), (72, .istore 8, 2), (74, .iload 8, 2), (76, .aload_n 0, 1), (77, .getfield 34, 3), (80, .iconst 0, 1), (81, .iaload, 1), (82, .if_icmp .ge 89, 3), (85, .iload_n 3, 1), (86, .iload 8, 2), (88, .invokestatic 280, 3), (91, .ifCond .ne 6, 3), (94, .goto 71, 3), (97, .aload_n 0, 1), (98, .iload 8, 2), (100, .putfield 262, 3), (103, .aload_n 0, 1), (104, .invokevirtual 339, 3), (107, .aload_n 0, 1), (108, .getfield 77, 3), (111, .iconst 1, 1), (112, .aload_n 0, 1), (113, .getfield 68, 3), (116, .iload 6, 2), (118, .iaload, 1), (119, .iadd, 1), (120, .dup2, 1), (121, .iaload, 1), (122, .iconst 1, 1), (123, .iadd, 1), (124, .iastore, 1), (125, .aload_n 0, 1), (126, .getfield 77, 3), (129, .iconst 1, 1), (130, .aload_n 0, 1), (131, .getfield 68, 3), (134, .iload 6, 2), (136, .iaload, 1), (137, .iadd, 1), (138, .iaload, 1), (139, .iload 7, 2), (141, .if_icmp .le 20, 3), (144, .aload_n 0, 1), (145, .getfield 77, 3), (148, .iconst 1, 1), (149, .aload_n 0, 1), (150, .getfield 68, 3), (153, .iload 6, 2), (155, .iaload, 1), (156, .iadd, 1), (157, .iaload, 1), (158, .goto 5, 3), (161, .iload 7, 2), (163, .istore 7, 2), (165, .iinc 8 1, 3), (168, .goto (-94), 3), (171, .iload 7, 2), (173, .iload 5, 2), (175, .if_icmp .lt 6, 3), (178, .goto 11, 3), (181, .iload 6, 2), (183, .istore 4, 2), (185, .iload 7, 2), (187, .istore 5, 2), (189, .iinc 6 1, 3), (192, .goto (-157), 3), (195, .iload 4, 2), (197, .ireturn, 1)]
theorem qX9_ask : ∀ q ∈ kX9_ask, decode mX9_ask.2.2.1 q.1 = .ok (q.2.1, q.2.2) ∧ am_iok mX9_ask.2.2.2.1 q.1 q.2.1 q.2.2 = true := by decide +kernel
set_option maxRecDepth 100000 in
theorem wX9_ask : Cond.code mX9_ask.2.1 mX9_ask.2.2.1 mX9_ask.2.2.2.1 mX9_ask.2.2.2.2.1 ∈ am_T := List.mem_filter.mpr ⟨List.mem_of_getElem? (i := 1891) rfl, rfl⟩
set_option maxHeartbeats 4000000 in
set_option maxRecDepth 100000 in
theorem tX9_ask (l : Launch) (d : Nat) {s0 : AS} {a1 : Int32} {sE : AS} {rE : Int32} (hf : fX9_ask s0 a1 = some (sE, rE)) : am_Ct l (d + 6) mX9_ask [.inr (.inr ((10, 0, 0), 215)), .inl a1] s0 sE (some (.inl rE)) := by
  refine am_sim l (d + 5) (code := kX9_ask) (by decide +kernel) wX9_ask qX9_ask (Nat.le_of_ble_eq_true rfl) ?_
  intro X hX
  show X 0 [(0, .inr (.inr ((10, 0, 0), 215))), (1, .inl a1)] [] s0
  unfold fX9_ask at hf
  refine am_blk hX 0 3 (And.intro rfl (am_nl (Z := fun s1 => X 5 [(0, .inr (.inr ((10, 0, 0), 215))), (1, .inl a1)] [] s1) hf (fun s1 hf => ?_)))
  obtain ⟨v2, hcv2, hf⟩ := am_r_of hf
  refine am_blk hX 3 6 (And.intro rfl (And.intro rfl (Exists.intro s1 (Exists.intro (some (.inl v2)) (And.intro (tX9_whyNotStarts l (d + 2) hcv2) (And.intro (fun hb => ?_) (fun hb => ?_)))))))
  · have hf := am_it hf hb
    show X 17 [(2, .inl v2), (0, .inr (.inr ((10, 0, 0), 215))), (1, .inl a1)] [] s1
    obtain ⟨s4, v3, hcv3, hf⟩ := am_c_of hf
    obtain ⟨v5, hcv5, hf⟩ := am_r_of hf
    have hL35 : ∀ (n35 : Nat) (s6 : AS) (x7 : Int32) (x8 : Int32) (x9 : Int32), fX9_ask_L35 v3 n35 s6 x7 x8 x9 = some (sE, rE) → X 35 [(0, .inr (.inr ((10, 0, 0), 215))), (3, .inl v3), (4, .inl x7), (5, .inl x8), (6, .inl x9)] [] s6 := by
      intro n35
      induction n35 with
      | zero => intro s6 x7 x8 x9 hf; exact am_no (show none = some _ from hf)
      | succ n35 ih35 =>
        intro s6 x7 x8 x9 hf
        obtain ⟨v10, hcv10, hf⟩ := am_r_of hf
        refine am_blk hX 22 4 (And.intro rfl (And.intro rfl (Exists.intro s6 (Exists.intro (some (.inl v10)) (And.intro (tX9_people l (d + 4) hcv10) (And.intro (fun hb => ?_) (fun hb => ?_)))))))
        · have hf := am_it hf hb
          show X 195 [(0, .inr (.inr ((10, 0, 0), 215))), (3, .inl v3), (4, .inl x7), (5, .inl x8), (6, .inl x9)] [] s6
          refine am_blk hX 106 2 (am_ri hf)
        · have hf := am_if hf hb
          show X 44 [(0, .inr (.inr ((10, 0, 0), 215))), (3, .inl v3), (4, .inl x7), (5, .inl x8), (6, .inl x9)] [] s6
          refine am_jn hf (fun J68 => ∀ (s11 : AS), J68 s11 = some (sE, rE) → X 68 [(0, .inr (.inr ((10, 0, 0), 215))), (3, .inl v3), (4, .inl x7), (5, .inl x8), (6, .inl x9)] [] s11) ?_ ?_
          · intro s11 hf
            refine am_jn hf (fun J171 => ∀ (s12 : AS) (x13 : Int32), J171 s12 x13 = some (sE, rE) → X 171 [(0, .inr (.inr ((10, 0, 0), 215))), (3, .inl v3), (4, .inl x7), (5, .inl x8), (6, .inl x9), (7, .inl x13)] [] s12) ?_ ?_
            · intro s12 x13 hf
              refine am_jn hf (fun J189 => ∀ (x14 : Int32) (x15 : Int32), J189 x14 x15 = some (sE, rE) → X 189 [(0, .inr (.inr ((10, 0, 0), 215))), (3, .inl v3), (4, .inl x14), (5, .inl x15), (6, .inl x9)] [] s12) ?_ ?_
              · intro x14 x15 hf
                refine am_blk hX 104 1 (am_nl (Z := fun x16 => X 192 [(6, .inl x16), (0, .inr (.inr ((10, 0, 0), 215))), (3, .inl v3), (4, .inl x14), (5, .inl x15)] [] s12) hf (fun x16 hf => ?_))
                refine am_blk hX 105 1 (?_)
                show X 35 [(6, .inl x16), (0, .inr (.inr ((10, 0, 0), 215))), (3, .inl v3), (4, .inl x14), (5, .inl x15)] [] s12
                exact am_wk hX [1, 2, 3, 4, 0] (ih35 s12 x14 x15 x16 hf)
              · intro J189 hJ189 hf
                refine am_blk hX 96 3 (And.intro (fun hb => ?_) (fun hb => ?_))
                · have hf := am_it hf hb
                  show X 181 [(0, .inr (.inr ((10, 0, 0), 215))), (3, .inl v3), (4, .inl x7), (5, .inl x8), (6, .inl x9), (7, .inl x13)] [] s12
                  refine am_blk hX 100 4 (?_)
                  show X 189 [(5, .inl x13), (4, .inl x9), (0, .inr (.inr ((10, 0, 0), 215))), (3, .inl v3), (6, .inl x9), (7, .inl x13)] [] s12
                  exact am_wk hX [2, 3, 1, 0, 4] (hJ189 x9 x13 hf)
                · have hf := am_if hf hb
                  show X 178 [(0, .inr (.inr ((10, 0, 0), 215))), (3, .inl v3), (4, .inl x7), (5, .inl x8), (6, .inl x9), (7, .inl x13)] [] s12
                  refine am_blk hX 99 1 (?_)
                  show X 189 [(0, .inr (.inr ((10, 0, 0), 215))), (3, .inl v3), (4, .inl x7), (5, .inl x8), (6, .inl x9), (7, .inl x13)] [] s12
                  exact am_wk hX [0, 1, 2, 3, 4] (hJ189 x7 x8 hf)
            · intro J171 hJ171 hf
              have hL74 : ∀ (n74 : Nat) (s17 : AS) (x18 : Int32) (x19 : Int32), fX9_ask_L74 v3 x9 J171 n74 s17 x18 x19 = some (sE, rE) → X 74 [(0, .inr (.inr ((10, 0, 0), 215))), (3, .inl v3), (4, .inl x7), (5, .inl x8), (6, .inl x9), (7, .inl x18), (8, .inl x19)] [] s17 := by
                intro n74
                induction n74 with
                | zero => intro s17 x18 x19 hf; exact am_no (show none = some _ from hf)
                | succ n74 ih74 =>
                  intro s17 x18 x19 hf
                  obtain ⟨g20, hf⟩ := am_g_of hf
                  refine am_blk hX 42 6 (And.intro rfl (And.intro rfl (And.intro g20 (And.intro (fun hb => ?_) (fun hb => ?_)))))
                  · have hf := am_it hf hb
                    show X 171 [(0, .inr (.inr ((10, 0, 0), 215))), (3, .inl v3), (4, .inl x7), (5, .inl x8), (6, .inl x9), (7, .inl x18), (8, .inl x19)] [] s17
                    exact am_wk hX [0, 1, 2, 3, 4, 5] (hJ171 s17 x18 hf)
                  · have hf := am_if hf hb
                    show X 85 [(0, .inr (.inr ((10, 0, 0), 215))), (3, .inl v3), (4, .inl x7), (5, .inl x8), (6, .inl x9), (7, .inl x18), (8, .inl x19)] [] s17
                    obtain ⟨v21, hcv21, hf⟩ := am_r_of hf
                    refine am_jn hf (fun J165 => ∀ (s22 : AS) (x23 : Int32), J165 s22 x23 = some (sE, rE) → X 165 [(0, .inr (.inr ((10, 0, 0), 215))), (3, .inl v3), (4, .inl x7), (5, .inl x8), (6, .inl x9), (7, .inl x23), (8, .inl x19)] [] s22) ?_ ?_
                    · intro s22 x23 hf
                      refine am_blk hX 94 1 (am_nl (Z := fun x24 => X 168 [(8, .inl x24), (0, .inr (.inr ((10, 0, 0), 215))), (3, .inl v3), (4, .inl x7), (5, .inl x8), (6, .inl x9), (7, .inl x23)] [] s22) hf (fun x24 hf => ?_))
                      refine am_blk hX 95 1 (?_)
                      show X 74 [(8, .inl x24), (0, .inr (.inr ((10, 0, 0), 215))), (3, .inl v3), (4, .inl x7), (5, .inl x8), (6, .inl x9), (7, .inl x23)] [] s22
                      exact am_wk hX [1, 2, 3, 4, 5, 6, 0] (ih74 s22 x23 x24 hf)
                    · intro J165 hJ165 hf
                      refine am_blk hX 48 4 (And.intro rfl (Exists.intro s17 (Exists.intro (some (.inl v21)) (And.intro (tX9_isBit l (d + 4) hcv21) (And.intro (fun hb => ?_) (fun hb => ?_))))))
                      · have hf := am_if hf hb
                        show X 97 [(0, .inr (.inr ((10, 0, 0), 215))), (3, .inl v3), (4, .inl x7), (5, .inl x8), (6, .inl x9), (7, .inl x18), (8, .inl x19)] [] s17
                        refine am_blk hX 53 3 (And.intro rfl (am_nl (Z := fun s25 => X 103 [(0, .inr (.inr ((10, 0, 0), 215))), (3, .inl v3), (4, .inl x7), (5, .inl x8), (6, .inl x9), (7, .inl x18), (8, .inl x19)] [] s25) hf (fun s25 hf => ?_)))
                        obtain ⟨s27, v26, hcv26, hf⟩ := am_c_of hf
                        obtain ⟨g28, hf⟩ := am_g_of hf
                        obtain ⟨g29, hf⟩ := am_g_of hf
                        obtain ⟨g30, hf⟩ := am_g_of hf
                        refine am_blk hX 56 15 (And.intro rfl (And.intro rfl (Exists.intro s27 (Exists.intro none (And.intro (tX9_runs l (d + 1) hcv26) (And.intro rfl (And.intro rfl (And.intro rfl (And.intro g28 (And.intro rfl (And.intro g29 (And.intro rfl (And.intro g30 (am_nl (Z := fun s31 => X 125 [(0, .inr (.inr ((10, 0, 0), 215))), (3, .inl v3), (4, .inl x7), (5, .inl x8), (6, .inl x9), (7, .inl x18), (8, .inl x19)] [] s31) hf (fun s31 hf => ?_)))))))))))))))
                        obtain ⟨g32, hf⟩ := am_g_of hf
                        obtain ⟨g33, hf⟩ := am_g_of hf
                        refine am_jn hf (fun J163 => ∀ (x34 : Int32), J163 x34 = some (sE, rE) → X 163 [(0, .inr (.inr ((10, 0, 0), 215))), (3, .inl v3), (4, .inl x7), (5, .inl x8), (6, .inl x9), (8, .inl x19)] [.inl x34] s31) ?_ ?_
                        · intro x34 hf
                          refine am_blk hX 93 1 (?_)
                          show X 165 [(7, .inl x34), (0, .inr (.inr ((10, 0, 0), 215))), (3, .inl v3), (4, .inl x7), (5, .inl x8), (6, .inl x9), (8, .inl x19)] [] s31
                          exact am_wk hX [1, 2, 3, 4, 5, 0, 6] (hJ165 s31 x34 hf)
                        · intro J163 hJ163 hf
                          refine am_blk hX 71 11 (And.intro rfl (And.intro rfl (And.intro rfl (And.intro g32 (And.intro rfl (And.intro g33 (And.intro (fun hb => ?_) (fun hb => ?_))))))))
                          · have hf := am_it hf hb
                            show X 161 [(0, .inr (.inr ((10, 0, 0), 215))), (3, .inl v3), (4, .inl x7), (5, .inl x8), (6, .inl x9), (7, .inl x18), (8, .inl x19)] [] s31
                            refine am_blk hX 92 1 (?_)
                            show X 163 [(0, .inr (.inr ((10, 0, 0), 215))), (3, .inl v3), (4, .inl x7), (5, .inl x8), (6, .inl x9), (7, .inl x18), (8, .inl x19)] [.inl x18] s31
                            exact am_wk hX [0, 1, 2, 3, 4, 6] (hJ163 x18 hf)
                          · have hf := am_if hf hb
                            show X 144 [(0, .inr (.inr ((10, 0, 0), 215))), (3, .inl v3), (4, .inl x7), (5, .inl x8), (6, .inl x9), (7, .inl x18), (8, .inl x19)] [] s31
                            obtain ⟨g35, hf⟩ := am_g_of hf
                            obtain ⟨g36, hf⟩ := am_g_of hf
                            refine am_blk hX 82 10 (And.intro rfl (And.intro rfl (And.intro rfl (And.intro g35 (And.intro rfl (And.intro g36 (?_)))))))
                            show X 163 [(0, .inr (.inr ((10, 0, 0), 215))), (3, .inl v3), (4, .inl x7), (5, .inl x8), (6, .inl x9), (7, .inl x18), (8, .inl x19)] [.inl (s31.1 236 (((1 : Int32) + (s31.1 233 x9.toNatClampNeg)).toNatClampNeg))] s31
                            exact am_wk hX [0, 1, 2, 3, 4, 6] (hJ163 (s31.1 236 (((1 : Int32) + (s31.1 233 x9.toNatClampNeg)).toNatClampNeg)) hf)
                      · have hf := am_it hf hb
                        show X 94 [(0, .inr (.inr ((10, 0, 0), 215))), (3, .inl v3), (4, .inl x7), (5, .inl x8), (6, .inl x9), (7, .inl x18), (8, .inl x19)] [] s17
                        refine am_blk hX 52 1 (?_)
                        show X 165 [(0, .inr (.inr ((10, 0, 0), 215))), (3, .inl v3), (4, .inl x7), (5, .inl x8), (6, .inl x9), (7, .inl x18), (8, .inl x19)] [] s17
                        exact am_wk hX [0, 1, 2, 3, 4, 5, 6] (hJ165 s17 x18 hf)
              refine am_blk hX 38 4 (?_)
              show X 74 [(8, .inl (0 : Int32)), (7, .inl (0 : Int32)), (0, .inr (.inr ((10, 0, 0), 215))), (3, .inl v3), (4, .inl x7), (5, .inl x8), (6, .inl x9)] [] s11
              exact am_wk hX [2, 3, 4, 5, 6, 1, 0] (hL74 am_fu s11 (0 : Int32) (0 : Int32) hf)
          · intro J68 hJ68 hf
            have hL47 : ∀ (n47 : Nat) (s37 : AS) (x38 : Int32), fX9_ask_L47 J68 n47 s37 x38 = some (sE, rE) → X 47 [(0, .inr (.inr ((10, 0, 0), 215))), (3, .inl v3), (4, .inl x7), (5, .inl x8), (6, .inl x9), (7, .inl x38)] [] s37 := by
              intro n47
              induction n47 with
              | zero => intro s37 x38 hf; exact am_no (show none = some _ from hf)
              | succ n47 ih47 =>
                intro s37 x38 hf
                refine am_blk hX 28 3 (And.intro (fun hb => ?_) (fun hb => ?_))
                · have hf := am_it hf hb
                  show X 68 [(0, .inr (.inr ((10, 0, 0), 215))), (3, .inl v3), (4, .inl x7), (5, .inl x8), (6, .inl x9), (7, .inl x38)] [] s37
                  exact am_wk hX [0, 1, 2, 3, 4] (hJ68 s37 hf)
                · have hf := am_if hf hb
                  show X 54 [(0, .inr (.inr ((10, 0, 0), 215))), (3, .inl v3), (4, .inl x7), (5, .inl x8), (6, .inl x9), (7, .inl x38)] [] s37
                  obtain ⟨g39, hf⟩ := am_g_of hf
                  refine am_blk hX 31 5 (And.intro rfl (And.intro rfl (And.intro g39 (am_nl (Z := fun s40 => X 62 [(0, .inr (.inr ((10, 0, 0), 215))), (3, .inl v3), (4, .inl x7), (5, .inl x8), (6, .inl x9), (7, .inl x38)] [] s40) hf (fun s40 hf => ?_)))))
                  refine am_blk hX 36 1 (am_nl (Z := fun x41 => X 65 [(7, .inl x41), (0, .inr (.inr ((10, 0, 0), 215))), (3, .inl v3), (4, .inl x7), (5, .inl x8), (6, .inl x9)] [] s40) hf (fun x41 hf => ?_))
                  refine am_blk hX 37 1 (?_)
                  show X 47 [(7, .inl x41), (0, .inr (.inr ((10, 0, 0), 215))), (3, .inl v3), (4, .inl x7), (5, .inl x8), (6, .inl x9)] [] s40
                  exact am_wk hX [1, 2, 3, 4, 5, 0] (ih47 s40 x41 hf)
            refine am_blk hX 26 2 (?_)
            show X 47 [(7, .inl (0 : Int32)), (0, .inr (.inr ((10, 0, 0), 215))), (3, .inl v3), (4, .inl x7), (5, .inl x8), (6, .inl x9)] [] s6
            exact am_wk hX [1, 2, 3, 4, 5, 0] (hL47 am_fu s6 (0 : Int32) hf)
    refine am_blk hX 11 11 (And.intro rfl (And.intro rfl (Exists.intro s4 (Exists.intro (some (.inl v3)) (And.intro (tX9_startsOf l (d + 0) hcv3) (And.intro rfl (Exists.intro s4 (Exists.intro (some (.inl v5)) (And.intro (tX9_sizeOf l (d + 4) hcv5) (?_))))))))))
    show X 35 [(6, .inl (0 : Int32)), (5, .inl v5), (4, .inl (-1 : Int32)), (3, .inl v3), (2, .inl v2), (0, .inr (.inr ((10, 0, 0), 215))), (1, .inl a1)] [] s4
    exact am_wk hX [5, 3, 2, 1, 0] (hL35 am_fu s4 (-1 : Int32) v5 (0 : Int32) hf)
  · have hf := am_if hf hb
    show X 15 [(2, .inl v2), (0, .inr (.inr ((10, 0, 0), 215))), (1, .inl a1)] [] s1
    refine am_blk hX 9 2 (am_ri hf)
def fX9_is (s0 : AS) (a1 : Int64) : Option Int32 :=
  am_let (fun (x1 : Int32) => am_g (x1 = 0 ∨ x1 = 1) (some x1)) (fun J29 => am_let (J29 (0 : Int32)) (fun J28 => if (s0.1 215 12) = 0 then (if (s0.1 215 8) = (1 : Int32) then (if (lg_cmp (s0.2 215 11) a1) = 0 then (J29 (1 : Int32)) else (J28)) else (J28)) else (J28)))
def kX9_is : List (Nat × Instr × Nat) := [(0, .aload_n 0, 1), (1, .getfield 132, 3), (4, .ifCond .ne 24, 3), (7, .aload_n 0, 1), (8, .getfield 121, 3), (11, .iconst 1, 1), (12, .if_icmp .ne 16, 3), (15, .aload_n 0, 1), (16, .getfield 117, 3), (19, .lload_n 1, 1), (20, .lcmp, 1), (21, .ifCond .ne 7, 3), (24, .iconst 1, 1), (25, .goto 4, 3), (28, .iconst 0, 1), (29, .ireturn, 1)]
theorem qX9_is : ∀ q ∈ kX9_is, decode mX9_is.2.2.1 q.1 = .ok (q.2.1, q.2.2) ∧ am_iok mX9_is.2.2.2.1 q.1 q.2.1 q.2.2 = true := by decide +kernel
set_option maxRecDepth 100000 in
theorem wX9_is : Cond.code mX9_is.2.1 mX9_is.2.2.1 mX9_is.2.2.2.1 mX9_is.2.2.2.2.1 ∈ am_T := List.mem_filter.mpr ⟨List.mem_of_getElem? (i := 1526) rfl, rfl⟩
set_option maxHeartbeats 4000000 in
set_option maxRecDepth 100000 in
theorem tX9_is (l : Launch) (d : Nat) {s0 : AS} {a1 : Int64} {rE : Int32} (hf : fX9_is s0 a1 = some rE) : am_Ct l (d + 1) mX9_is [.inr (.inr ((10, 0, 0), 215)), .inr (.inl a1)] s0 s0 (some (.inl rE)) := by
  refine am_sim l (d + 0) (code := kX9_is) (by decide +kernel) wX9_is qX9_is (Nat.le_of_ble_eq_true rfl) ?_
  intro X hX
  show X 0 [(0, .inr (.inr ((10, 0, 0), 215))), (1, .inr (.inl a1))] [] s0
  unfold fX9_is at hf
  refine am_jn hf (fun J29 => ∀ (x1 : Int32), J29 x1 = some rE → X 29 [] [.inl x1] s0) ?_ ?_
  · intro x1 hf
    obtain ⟨g2, hf⟩ := am_g_of hf
    refine am_blk hX 15 1 (And.intro g2 (am_rpi hf))
  · intro J29 hJ29 hf
    refine am_jn hf (fun J28 => J28 = some rE → X 28 [] [] s0) ?_ ?_
    · intro hf
      refine am_blk hX 14 1 (?_)
      show X 29 [] [.inl (0 : Int32)] s0
      exact am_wk hX [] (hJ29 (0 : Int32) hf)
    · intro J28 hJ28 hf
      refine am_blk hX 0 3 (And.intro rfl (And.intro (fun hb => ?_) (fun hb => ?_)))
      · have hf := am_if hf hb
        show X 28 [(0, .inr (.inr ((10, 0, 0), 215))), (1, .inr (.inl a1))] [] s0
        exact am_wk hX [] (hJ28 hf)
      · have hf := am_it hf hb
        show X 7 [(0, .inr (.inr ((10, 0, 0), 215))), (1, .inr (.inl a1))] [] s0
        refine am_blk hX 3 4 (And.intro rfl (And.intro (fun hb => ?_) (fun hb => ?_)))
        · have hf := am_if hf hb
          show X 28 [(0, .inr (.inr ((10, 0, 0), 215))), (1, .inr (.inl a1))] [] s0
          exact am_wk hX [] (hJ28 hf)
        · have hf := am_it hf hb
          show X 15 [(0, .inr (.inr ((10, 0, 0), 215))), (1, .inr (.inl a1))] [] s0
          refine am_blk hX 7 5 (And.intro rfl (And.intro (fun hb => ?_) (fun hb => ?_)))
          · have hf := am_if hf hb
            show X 28 [(0, .inr (.inr ((10, 0, 0), 215))), (1, .inr (.inl a1))] [] s0
            exact am_wk hX [] (hJ28 hf)
          · have hf := am_it hf hb
            show X 24 [(0, .inr (.inr ((10, 0, 0), 215))), (1, .inr (.inl a1))] [] s0
            refine am_blk hX 12 2 (?_)
            show X 29 [(0, .inr (.inr ((10, 0, 0), 215))), (1, .inr (.inl a1))] [.inl (1 : Int32)] s0
            exact am_wk hX [] (hJ29 (1 : Int32) hf)
def fX9_isByte (s0 : AS) (a1 : Int32) (a2 : Int32) (a3 : Int32) : Option Int32 :=
  am_let (fun (x1 : Int32) => am_g (x1 = 0 ∨ x1 = 1) (some x1)) (fun J33 => am_let (J33 (0 : Int32)) (fun J32 => if (s0.1 215 6) ≤ a1 then (J32) else (am_g (¬ (a1 < 0 ∨ 800 ≤ a1.toNatClampNeg)) (if (s0.1 220 a1.toNatClampNeg) < a2 then (J32) else (am_g (¬ (a1 < 0 ∨ 800 ≤ a1.toNatClampNeg)) (if a3 < (s0.1 220 a1.toNatClampNeg) then (J32) else (J33 (1 : Int32))))))))
def kX9_isByte : List (Nat × Instr × Nat) := [(0, .iload_n 1, 1), (1, .aload_n 0, 1), (2, .getfield 97, 3), (5, .if_icmp .ge 27, 3), (8, .aload_n 0, 1), (9, .getfield 23, 3), (12, .iload_n 1, 1), (13, .baload, 1), (14, .iload_n 2, 1), (15, .if_icmp .lt 17, 3), (18, .aload_n 0, 1), (19, .getfield 23, 3), (22, .iload_n 1, 1), (23, .baload, 1), (24, .iload_n 3, 1), (25, .if_icmp .gt 7, 3), (28, .iconst 1, 1), (29, .goto 4, 3), (32, .iconst 0, 1), (33, .ireturn, 1)]
theorem qX9_isByte : ∀ q ∈ kX9_isByte, decode mX9_isByte.2.2.1 q.1 = .ok (q.2.1, q.2.2) ∧ am_iok mX9_isByte.2.2.2.1 q.1 q.2.1 q.2.2 = true := by decide +kernel
set_option maxRecDepth 100000 in
theorem wX9_isByte : Cond.code mX9_isByte.2.1 mX9_isByte.2.2.1 mX9_isByte.2.2.2.1 mX9_isByte.2.2.2.2.1 ∈ am_T := List.mem_filter.mpr ⟨List.mem_of_getElem? (i := 1500) rfl, rfl⟩
set_option maxHeartbeats 4000000 in
set_option maxRecDepth 100000 in
theorem tX9_isByte (l : Launch) (d : Nat) {s0 : AS} {a1 : Int32} {a2 : Int32} {a3 : Int32} {rE : Int32} (hf : fX9_isByte s0 a1 a2 a3 = some rE) : am_Ct l (d + 1) mX9_isByte [.inr (.inr ((10, 0, 0), 215)), .inl a1, .inl a2, .inl a3] s0 s0 (some (.inl rE)) := by
  refine am_sim l (d + 0) (code := kX9_isByte) (by decide +kernel) wX9_isByte qX9_isByte (Nat.le_of_ble_eq_true rfl) ?_
  intro X hX
  show X 0 [(0, .inr (.inr ((10, 0, 0), 215))), (1, .inl a1), (2, .inl a2), (3, .inl a3)] [] s0
  unfold fX9_isByte at hf
  refine am_jn hf (fun J33 => ∀ (x1 : Int32), J33 x1 = some rE → X 33 [] [.inl x1] s0) ?_ ?_
  · intro x1 hf
    obtain ⟨g2, hf⟩ := am_g_of hf
    refine am_blk hX 19 1 (And.intro g2 (am_rpi hf))
  · intro J33 hJ33 hf
    refine am_jn hf (fun J32 => J32 = some rE → X 32 [] [] s0) ?_ ?_
    · intro hf
      refine am_blk hX 18 1 (?_)
      show X 33 [] [.inl (0 : Int32)] s0
      exact am_wk hX [] (hJ33 (0 : Int32) hf)
    · intro J32 hJ32 hf
      refine am_blk hX 0 4 (And.intro rfl (And.intro (fun hb => ?_) (fun hb => ?_)))
      · have hf := am_it hf hb
        show X 32 [(0, .inr (.inr ((10, 0, 0), 215))), (1, .inl a1), (2, .inl a2), (3, .inl a3)] [] s0
        exact am_wk hX [] (hJ32 hf)
      · have hf := am_if hf hb
        show X 8 [(0, .inr (.inr ((10, 0, 0), 215))), (1, .inl a1), (2, .inl a2), (3, .inl a3)] [] s0
        obtain ⟨g3, hf⟩ := am_g_of hf
        refine am_blk hX 4 6 (And.intro rfl (And.intro (Or.inl rfl) (And.intro g3 (And.intro (fun hb => ?_) (fun hb => ?_)))))
        · have hf := am_it hf hb
          show X 32 [(0, .inr (.inr ((10, 0, 0), 215))), (1, .inl a1), (2, .inl a2), (3, .inl a3)] [] s0
          exact am_wk hX [] (hJ32 hf)
        · have hf := am_if hf hb
          show X 18 [(0, .inr (.inr ((10, 0, 0), 215))), (1, .inl a1), (2, .inl a2), (3, .inl a3)] [] s0
          obtain ⟨g4, hf⟩ := am_g_of hf
          refine am_blk hX 10 6 (And.intro rfl (And.intro (Or.inl rfl) (And.intro g4 (And.intro (fun hb => ?_) (fun hb => ?_)))))
          · have hf := am_it hf hb
            show X 32 [(0, .inr (.inr ((10, 0, 0), 215))), (1, .inl a1), (2, .inl a2), (3, .inl a3)] [] s0
            exact am_wk hX [] (hJ32 hf)
          · have hf := am_if hf hb
            show X 28 [(0, .inr (.inr ((10, 0, 0), 215))), (1, .inl a1), (2, .inl a2), (3, .inl a3)] [] s0
            refine am_blk hX 16 2 (?_)
            show X 33 [(0, .inr (.inr ((10, 0, 0), 215))), (1, .inl a1), (2, .inl a2), (3, .inl a3)] [.inl (1 : Int32)] s0
            exact am_wk hX [] (hJ33 (1 : Int32) hf)
def fX9_goesOn_L208 (J307 : AS → Option (AS × Unit)) : Nat → AS → Option (AS × Unit)
  | 0, _ => none
  | n208 + 1, s13 =>
    am_r (fX9_isByte s13 (s13.1 215 7) (48 : Int32) (57 : Int32)) (fun (v14 : Int32) => if v14 = 0 then (J307 s13) else (am_let (fun (x15 : Int32) => am_let (am_si s13 215 10 x15) (fun (s16 : AS) => am_let (am_si s16 215 7 ((s16.1 215 7) + (1 : Int32))) (fun (s17 : AS) => fX9_goesOn_L208 J307 n208 s17))) (fun J258 => if (s13.1 215 10) ≤ (100000 : Int32) then (am_g (¬ ((s13.1 215 7) < 0 ∨ 800 ≤ (s13.1 215 7).toNatClampNeg)) (J258 ((((10 : Int32) * (s13.1 215 10)) + (s13.1 220 ((s13.1 215 7).toNatClampNeg))) - (48 : Int32)))) else (J258 (1000000 : Int32)))))
def fX9_goesOn_L102 (J185 : AS → Option (AS × Unit)) : Nat → AS → Int32 → Option (AS × Unit)
  | 0, _, _ => none
  | n102 + 1, s21, x22 =>
    am_r (fX9_isByte s21 (s21.1 215 7) (97 : Int32) (122 : Int32)) (fun (v23 : Int32) => if v23 = 0 then (J185 s21) else (am_let (fun (x24 : Int64) => am_let (am_sj s21 215 11 x24) (fun (s25 : AS) => am_let (fun (s26 : AS) => am_let (am_si s26 215 7 ((s26.1 215 7) + (1 : Int32))) (fun (s27 : AS) => am_let (x22 + (1 : Int32)) (fun (x28 : Int32) => fX9_goesOn_L102 J185 n102 s27 x28))) (fun J169 => if x22 ≤ (11 : Int32) then (J169 s25) else (am_let (am_sj s25 215 11 (-1 : Int64)) (fun (s29 : AS) => J169 s29))))) (fun J153 => if x22 ≤ (11 : Int32) then (am_g (¬ ((s21.1 215 7) < 0 ∨ 800 ≤ (s21.1 215 7).toNatClampNeg)) (J153 ((((27 : Int64) * (s21.2 215 11)) + ((s21.1 220 ((s21.1 215 7).toNatClampNeg)).toInt64)) - (96 : Int64)))) else (J153 (-1 : Int64)))))
def fX9_goesOn_L0 (J43 : AS → Option (AS × Unit)) : Nat → AS → Option (AS × Unit)
  | 0, _ => none
  | n0 + 1, s32 =>
    am_r (fX9_isByte s32 (s32.1 215 7) (32 : Int32) (32 : Int32)) (fun (v33 : Int32) => am_let (am_let (am_si s32 215 7 ((s32.1 215 7) + (1 : Int32))) (fun (s34 : AS) => fX9_goesOn_L0 J43 n0 s34)) (fun J30 => if v33 = 0 then (am_r (fX9_isByte s32 (s32.1 215 7) (10 : Int32) (10 : Int32)) (fun (v35 : Int32) => if v35 = 0 then (J43 s32) else (J30))) else (J30)))
def fX9_goesOn (s0 : AS) : Option (AS × Unit) :=
  am_let (fun (s1 : AS) => am_let (am_si s1 215 9 (s1.1 215 7)) (fun (s2 : AS) => am_let (am_si s2 215 10 (0 : Int32)) (fun (s3 : AS) => am_let (am_sj s3 215 11 (0 : Int64)) (fun (s4 : AS) => am_let (fun (s5 : AS) => some (s5, ())) (fun J307 => if (s4.1 215 7) = (s4.1 215 6) then (am_let (am_si s4 215 8 (0 : Int32)) (fun (s31 : AS) => J307 s31)) else (am_r (fX9_isByte s4 (s4.1 215 7) (97 : Int32) (122 : Int32)) (fun (v6 : Int32) => if v6 = 0 then (am_r (fX9_isByte s4 (s4.1 215 7) (48 : Int32) (57 : Int32)) (fun (v7 : Int32) => if v7 = 0 then (am_g (¬ ((s4.1 215 7) < 0 ∨ 800 ≤ (s4.1 215 7).toNatClampNeg)) (am_let (fun (x9 : Int32) => am_let (am_si s4 215 8 x9) (fun (s10 : AS) => am_let (am_si s10 215 7 ((s10.1 215 7) + (1 : Int32))) (fun (s11 : AS) => J307 s11))) (fun J294 => if (s4.1 220 ((s4.1 215 7).toNatClampNeg)) = (59 : Int32) then (J294 (3 : Int32)) else (J294 (4 : Int32))))) else (am_let (am_si s4 215 8 (2 : Int32)) (fun (s12 : AS) => fX9_goesOn_L208 J307 am_fu s12)))) else (am_let (am_si s4 215 8 (1 : Int32)) (fun (s19 : AS) => am_let (fun (s20 : AS) => J307 s20) (fun J185 => fX9_goesOn_L102 J185 am_fu s19 (0 : Int32))))))))))) (fun J43 => fX9_goesOn_L0 J43 am_fu s0)
def kX9_goesOn : List (Nat × Instr × Nat) := [(0, .aload_n 0, 1), (1, .aload_n 0, 1), (2, .getfield 104, 3), (5, .bipush 32, 2), (7, .bipush 32, 2), (9, .invokevirtual 107, 3), (12, .ifCond .ne 18, 3), (15, .aload_n 0, 1), (16, .aload_n 0, 1), (17, .getfield 104, 3), (20, .bipush 10, 2), (22, .bipush 10, 2), (24, .invokevirtual 107, 3), (27, .ifCond .eq 16, 3), (30, .aload_n 0, 1), (31, .dup, 1), (32, .getfield 104, 3), (35, .iconst 1, 1), (36, .iadd, 1), (37, .putfield 104, 3), (40, .goto (-40), 3), (43, .aload_n 0, 1), (44, .aload_n 0, 1), (45, .getfield 104, 3), (48, .putfield 111, 3), (51, .aload_n 0, 1), (52, .iconst 0, 1), (53, .putfield 114, 3), (56, .aload_n 0, 1), (57, .lconst 0, 1), (58, .putfield 117, 3), (61, .aload_n 0, 1), (62, .getfield 104, 3), (65, .aload_n 0, 1), (66, .getfield 97, 3), (69, .if_icmp .ne 11, 3), (72, .aload_n 0, 1), (73, .iconst 0, 1), (74, .putfield 121, 3), (77, .goto 230, 3), (80, .aload_n 0, 1), (81, .aload_n 0, 1), (82, .getfield 104, 3), (85, .bipush 97, 2), (87, .bipush 122, 2), (89, .invokevirtual 107, 3), (92, .ifCond .eq 96, 3), (95, .aload_n 0, 1), (96, .iconst 1, 1), (97, .putfield 121, 3), (100, .iconst 0, 1), (101, .istore_n 1, 1), (102, .aload_n 0, 1), (103, .aload_n 0, 1), (104, .getfield 104, 3), (107, .bipush 97, 2), (109, .bipush 122, 2), (111, .invokevirtual 107, 3), (114, .ifCond .eq 71, 3), (117, .aload_n 0, 1), (118, .iload_n 1, 1), (119, .bipush 11, 2), (121, .if_icmp .le 9, 3), (124, .ldc2_w 124, 3), (127, .goto 26, 3), (130, .ldc2_w 126, 3), (133, .aload_n 0, 1), (134, .getfield 117, 3), (137, .lmul, 1), (138, .aload_n 0, 1), (139, .getfield 23, 3), (142, .aload_n 0, 1), (143, .getfield 104, 3), (146, .baload, 1), (147, .i2l, 1), (148, .ladd, 1), (149, .ldc2_w 128, 3), (152, .lsub, 1), (153, .putfield 117, 3), (156, .iload_n 1, 1), (157, .bipush 11, 2), (159, .if_icmp .le 10, 3), (162, .aload_n 0, 1), (163, .ldc2_w 124, 3), (166, .putfield 117, 3), (169, .aload_n 0, 1), (170, .dup, 1), (171, .getfield 104, 3), (174, .iconst 1, 1), (175, .iadd, 1), (176, .putfield 104, 3), (179, .iinc 1 1, 3), (182, .goto (-80), 3), (185, .goto 122, 3), (188, .aload_n 0, 1), (189, .aload_n 0, 1), (190, .getfield 104, 3), (193, .bipush 48, 2), (195, .bipush 57, 2), (197, .invokevirtual 107, 3), (200, .ifCond .eq 74, 3), (203, .aload_n 0, 1), (204, .iconst 2, 1), (205, .putfield 121, 3), (208, .aload_n 0, 1), (209, .aload_n 0, 1), (210, .getfield 104, 3), (213, .bipush 48, 2), (215, .bipush 57, 2), (217, .invokevirtual 107, 3), (220, .ifCond .eq 87, 3), (223, .aload_n 0, 1), (224, .aload_n 0, 1), (225, .getfield 114, 3), (228, .ldc 130, 2), (230, .if_icmp .le 8, 3), (233, .ldc 131, 2), (235, .goto 23, 3), (238, .bipush 10, 2), (240, .aload_n 0, 1), (241, .getfield 114, 3), (244, .imul, 1), (245, .aload_n 0, 1), (246, .getfield 23, 3), (249, .aload_n 0, 1), (250, .getfield 104, 3), (253, .baload, 1), (254, .iadd, 1), (255, .bipush 48, 2), (257, .isub, 1), (258, .putfield 114, 3), (261, .aload_n 0, 1), (262, .dup, 1), (263, .getfield 104, 3), (266, .iconst 1, 1), (267, .iadd, 1), (268, .putfield 104, 3), (271, .goto (-63), 3), (274, .aload_n 0, 1), (275, .aload_n 0, 1), (276, .getfield 23, 3), (279, .aload_n 0, 1), (280, .getfield 104, 3), (283, .baload, 1), (284, .bipush 59, 2), (286, .if_icmp .ne 7, 3), (289, .iconst 3, 1), (290, .goto 4, 3), (293, .iconst 4, 1), (294, .putfield 121, 3), (297, .aload_n 0, 1), (298, .dup, 1), (299, .getfield 104, 3), (302, .iconst 1, 1), (303, .iadd, 1), (304, .putfield 104, 3), (307, .return_, 1)]
theorem qX9_goesOn : ∀ q ∈ kX9_goesOn, decode mX9_goesOn.2.2.1 q.1 = .ok (q.2.1, q.2.2) ∧ am_iok mX9_goesOn.2.2.2.1 q.1 q.2.1 q.2.2 = true := by decide +kernel
set_option maxRecDepth 100000 in
theorem wX9_goesOn : Cond.code mX9_goesOn.2.1 mX9_goesOn.2.2.1 mX9_goesOn.2.2.2.1 mX9_goesOn.2.2.2.2.1 ∈ am_T := List.mem_filter.mpr ⟨List.mem_of_getElem? (i := 1496) rfl, rfl⟩
set_option maxHeartbeats 4000000 in
set_option maxRecDepth 100000 in
theorem tX9_goesOn (l : Launch) (d : Nat) {s0 : AS} {sE : AS} {rE : Unit} (hf : fX9_goesOn s0 = some (sE, rE)) : am_Ct l (d + 2) mX9_goesOn [.inr (.inr ((10, 0, 0), 215))] s0 sE none := by
  refine am_sim l (d + 1) (code := kX9_goesOn) (by decide +kernel) wX9_goesOn qX9_goesOn (Nat.le_of_ble_eq_true rfl) ?_
  intro X hX
  show X 0 [(0, .inr (.inr ((10, 0, 0), 215)))] [] s0
  unfold fX9_goesOn at hf
  refine am_jn hf (fun J43 => ∀ (s1 : AS), J43 s1 = some (sE, rE) → X 43 [(0, .inr (.inr ((10, 0, 0), 215)))] [] s1) ?_ ?_
  · intro s1 hf
    refine am_blk hX 21 4 (And.intro rfl (And.intro rfl (am_nl (Z := fun s2 => X 51 [(0, .inr (.inr ((10, 0, 0), 215)))] [] s2) hf (fun s2 hf => ?_))))
    refine am_blk hX 25 3 (And.intro rfl (am_nl (Z := fun s3 => X 56 [(0, .inr (.inr ((10, 0, 0), 215)))] [] s3) hf (fun s3 hf => ?_)))
    refine am_blk hX 28 3 (And.intro rfl (am_nl (Z := fun s4 => X 61 [(0, .inr (.inr ((10, 0, 0), 215)))] [] s4) hf (fun s4 hf => ?_)))
    refine am_jn hf (fun J307 => ∀ (s5 : AS), J307 s5 = some (sE, rE) → X 307 [] [] s5) ?_ ?_
    · intro s5 hf
      refine am_blk hX 156 1 (And.intro rfl (am_rv hf))
    · intro J307 hJ307 hf
      refine am_blk hX 31 5 (And.intro rfl (And.intro rfl (And.intro (fun hb => ?_) (fun hb => ?_))))
      · have hf := am_if hf hb
        show X 80 [(0, .inr (.inr ((10, 0, 0), 215)))] [] s4
        obtain ⟨v6, hcv6, hf⟩ := am_r_of hf
        refine am_blk hX 40 7 (And.intro rfl (And.intro rfl (And.intro rfl (Exists.intro s4 (Exists.intro (some (.inl v6)) (And.intro (tX9_isByte l (d + 0) hcv6) (And.intro (fun hb => ?_) (fun hb => ?_))))))))
        · have hf := am_it hf hb
          show X 188 [(0, .inr (.inr ((10, 0, 0), 215)))] [] s4
          obtain ⟨v7, hcv7, hf⟩ := am_r_of hf
          refine am_blk hX 94 7 (And.intro rfl (And.intro rfl (And.intro rfl (Exists.intro s4 (Exists.intro (some (.inl v7)) (And.intro (tX9_isByte l (d + 0) hcv7) (And.intro (fun hb => ?_) (fun hb => ?_))))))))
          · have hf := am_it hf hb
            show X 274 [(0, .inr (.inr ((10, 0, 0), 215)))] [] s4
            obtain ⟨g8, hf⟩ := am_g_of hf
            refine am_jn hf (fun J294 => ∀ (x9 : Int32), J294 x9 = some (sE, rE) → X 294 [(0, .inr (.inr ((10, 0, 0), 215)))] [.inl x9, .inr (.inr ((10, 0, 0), 215))] s4) ?_ ?_
            · intro x9 hf
              refine am_blk hX 149 1 (And.intro rfl (am_nl (Z := fun s10 => X 297 [(0, .inr (.inr ((10, 0, 0), 215)))] [] s10) hf (fun s10 hf => ?_)))
              refine am_blk hX 150 6 (And.intro rfl (And.intro rfl (am_nl (Z := fun s11 => X 307 [(0, .inr (.inr ((10, 0, 0), 215)))] [] s11) hf (fun s11 hf => ?_))))
              exact am_wk hX [] (hJ307 s11 hf)
            · intro J294 hJ294 hf
              refine am_blk hX 138 8 (And.intro rfl (And.intro rfl (And.intro (Or.inl rfl) (And.intro g8 (And.intro (fun hb => ?_) (fun hb => ?_))))))
              · have hf := am_if hf hb
                show X 293 [(0, .inr (.inr ((10, 0, 0), 215)))] [.inr (.inr ((10, 0, 0), 215))] s4
                refine am_blk hX 148 1 (?_)
                show X 294 [(0, .inr (.inr ((10, 0, 0), 215)))] [.inl (4 : Int32), .inr (.inr ((10, 0, 0), 215))] s4
                exact am_wk hX [0] (hJ294 (4 : Int32) hf)
              · have hf := am_it hf hb
                show X 289 [(0, .inr (.inr ((10, 0, 0), 215)))] [.inr (.inr ((10, 0, 0), 215))] s4
                refine am_blk hX 146 2 (?_)
                show X 294 [(0, .inr (.inr ((10, 0, 0), 215)))] [.inl (3 : Int32), .inr (.inr ((10, 0, 0), 215))] s4
                exact am_wk hX [0] (hJ294 (3 : Int32) hf)
          · have hf := am_if hf hb
            show X 203 [(0, .inr (.inr ((10, 0, 0), 215)))] [] s4
            refine am_blk hX 101 3 (And.intro rfl (am_nl (Z := fun s12 => X 208 [(0, .inr (.inr ((10, 0, 0), 215)))] [] s12) hf (fun s12 hf => ?_)))
            have hL208 : ∀ (n208 : Nat) (s13 : AS), fX9_goesOn_L208 J307 n208 s13 = some (sE, rE) → X 208 [(0, .inr (.inr ((10, 0, 0), 215)))] [] s13 := by
              intro n208
              induction n208 with
              | zero => intro s13 hf; exact am_no (show none = some _ from hf)
              | succ n208 ih208 =>
                intro s13 hf
                obtain ⟨v14, hcv14, hf⟩ := am_r_of hf
                refine am_blk hX 104 7 (And.intro rfl (And.intro rfl (And.intro rfl (Exists.intro s13 (Exists.intro (some (.inl v14)) (And.intro (tX9_isByte l (d + 0) hcv14) (And.intro (fun hb => ?_) (fun hb => ?_))))))))
                · have hf := am_it hf hb
                  show X 307 [(0, .inr (.inr ((10, 0, 0), 215)))] [] s13
                  exact am_wk hX [] (hJ307 s13 hf)
                · have hf := am_if hf hb
                  show X 223 [(0, .inr (.inr ((10, 0, 0), 215)))] [] s13
                  refine am_jn hf (fun J258 => ∀ (x15 : Int32), J258 x15 = some (sE, rE) → X 258 [(0, .inr (.inr ((10, 0, 0), 215)))] [.inl x15, .inr (.inr ((10, 0, 0), 215))] s13) ?_ ?_
                  · intro x15 hf
                    refine am_blk hX 130 1 (And.intro rfl (am_nl (Z := fun s16 => X 261 [(0, .inr (.inr ((10, 0, 0), 215)))] [] s16) hf (fun s16 hf => ?_)))
                    refine am_blk hX 131 6 (And.intro rfl (And.intro rfl (am_nl (Z := fun s17 => X 271 [(0, .inr (.inr ((10, 0, 0), 215)))] [] s17) hf (fun s17 hf => ?_))))
                    refine am_blk hX 137 1 (?_)
                    show X 208 [(0, .inr (.inr ((10, 0, 0), 215)))] [] s17
                    exact am_wk hX [0] (ih208 s17 hf)
                  · intro J258 hJ258 hf
                    refine am_blk hX 111 5 (And.intro rfl (And.intro (fun hb => ?_) (fun hb => ?_)))
                    · have hf := am_it hf hb
                      show X 238 [(0, .inr (.inr ((10, 0, 0), 215)))] [.inr (.inr ((10, 0, 0), 215))] s13
                      obtain ⟨g18, hf⟩ := am_g_of hf
                      refine am_blk hX 118 12 (And.intro rfl (And.intro rfl (And.intro rfl (And.intro (Or.inl rfl) (And.intro g18 (?_))))))
                      show X 258 [(0, .inr (.inr ((10, 0, 0), 215)))] [.inl ((((10 : Int32) * (s13.1 215 10)) + (s13.1 220 ((s13.1 215 7).toNatClampNeg))) - (48 : Int32)), .inr (.inr ((10, 0, 0), 215))] s13
                      exact am_wk hX [0] (hJ258 ((((10 : Int32) * (s13.1 215 10)) + (s13.1 220 ((s13.1 215 7).toNatClampNeg))) - (48 : Int32)) hf)
                    · have hf := am_if hf hb
                      show X 233 [(0, .inr (.inr ((10, 0, 0), 215)))] [.inr (.inr ((10, 0, 0), 215))] s13
                      refine am_blk hX 116 2 (?_)
                      show X 258 [(0, .inr (.inr ((10, 0, 0), 215)))] [.inl (1000000 : Int32), .inr (.inr ((10, 0, 0), 215))] s13
                      exact am_wk hX [0] (hJ258 (1000000 : Int32) hf)
            exact am_wk hX [0] (hL208 am_fu s12 hf)
        · have hf := am_if hf hb
          show X 95 [(0, .inr (.inr ((10, 0, 0), 215)))] [] s4
          refine am_blk hX 47 3 (And.intro rfl (am_nl (Z := fun s19 => X 100 [(0, .inr (.inr ((10, 0, 0), 215)))] [] s19) hf (fun s19 hf => ?_)))
          refine am_jn hf (fun J185 => ∀ (s20 : AS), J185 s20 = some (sE, rE) → X 185 [] [] s20) ?_ ?_
          · intro s20 hf
            refine am_blk hX 93 1 (?_)
            show X 307 [] [] s20
            exact am_wk hX [] (hJ307 s20 hf)
          · intro J185 hJ185 hf
            have hL102 : ∀ (n102 : Nat) (s21 : AS) (x22 : Int32), fX9_goesOn_L102 J185 n102 s21 x22 = some (sE, rE) → X 102 [(0, .inr (.inr ((10, 0, 0), 215))), (1, .inl x22)] [] s21 := by
              intro n102
              induction n102 with
              | zero => intro s21 x22 hf; exact am_no (show none = some _ from hf)
              | succ n102 ih102 =>
                intro s21 x22 hf
                obtain ⟨v23, hcv23, hf⟩ := am_r_of hf
                refine am_blk hX 52 7 (And.intro rfl (And.intro rfl (And.intro rfl (Exists.intro s21 (Exists.intro (some (.inl v23)) (And.intro (tX9_isByte l (d + 0) hcv23) (And.intro (fun hb => ?_) (fun hb => ?_))))))))
                · have hf := am_it hf hb
                  show X 185 [(0, .inr (.inr ((10, 0, 0), 215))), (1, .inl x22)] [] s21
                  exact am_wk hX [] (hJ185 s21 hf)
                · have hf := am_if hf hb
                  show X 117 [(0, .inr (.inr ((10, 0, 0), 215))), (1, .inl x22)] [] s21
                  refine am_jn hf (fun J153 => ∀ (x24 : Int64), J153 x24 = some (sE, rE) → X 153 [(0, .inr (.inr ((10, 0, 0), 215))), (1, .inl x22)] [.inr (.inl x24), .inr (.inr ((10, 0, 0), 215))] s21) ?_ ?_
                  · intro x24 hf
                    refine am_blk hX 78 1 (And.intro rfl (am_nl (Z := fun s25 => X 156 [(0, .inr (.inr ((10, 0, 0), 215))), (1, .inl x22)] [] s25) hf (fun s25 hf => ?_)))
                    refine am_jn hf (fun J169 => ∀ (s26 : AS), J169 s26 = some (sE, rE) → X 169 [(0, .inr (.inr ((10, 0, 0), 215))), (1, .inl x22)] [] s26) ?_ ?_
                    · intro s26 hf
                      refine am_blk hX 85 6 (And.intro rfl (And.intro rfl (am_nl (Z := fun s27 => X 179 [(0, .inr (.inr ((10, 0, 0), 215))), (1, .inl x22)] [] s27) hf (fun s27 hf => ?_))))
                      refine am_blk hX 91 1 (am_nl (Z := fun x28 => X 182 [(1, .inl x28), (0, .inr (.inr ((10, 0, 0), 215)))] [] s27) hf (fun x28 hf => ?_))
                      refine am_blk hX 92 1 (?_)
                      show X 102 [(1, .inl x28), (0, .inr (.inr ((10, 0, 0), 215)))] [] s27
                      exact am_wk hX [1, 0] (ih102 s27 x28 hf)
                    · intro J169 hJ169 hf
                      refine am_blk hX 79 3 (And.intro (fun hb => ?_) (fun hb => ?_))
                      · have hf := am_it hf hb
                        show X 169 [(0, .inr (.inr ((10, 0, 0), 215))), (1, .inl x22)] [] s25
                        exact am_wk hX [0, 1] (hJ169 s25 hf)
                      · have hf := am_if hf hb
                        show X 162 [(0, .inr (.inr ((10, 0, 0), 215))), (1, .inl x22)] [] s25
                        refine am_blk hX 82 3 (And.intro rfl (am_nl (Z := fun s29 => X 169 [(0, .inr (.inr ((10, 0, 0), 215))), (1, .inl x22)] [] s29) hf (fun s29 hf => ?_)))
                        exact am_wk hX [0, 1] (hJ169 s29 hf)
                  · intro J153 hJ153 hf
                    refine am_blk hX 59 4 (And.intro (fun hb => ?_) (fun hb => ?_))
                    · have hf := am_it hf hb
                      show X 130 [(0, .inr (.inr ((10, 0, 0), 215))), (1, .inl x22)] [.inr (.inr ((10, 0, 0), 215))] s21
                      obtain ⟨g30, hf⟩ := am_g_of hf
                      refine am_blk hX 65 13 (And.intro rfl (And.intro rfl (And.intro rfl (And.intro (Or.inl rfl) (And.intro g30 (?_))))))
                      show X 153 [(0, .inr (.inr ((10, 0, 0), 215))), (1, .inl x22)] [.inr (.inl ((((27 : Int64) * (s21.2 215 11)) + ((s21.1 220 ((s21.1 215 7).toNatClampNeg)).toInt64)) - (96 : Int64))), .inr (.inr ((10, 0, 0), 215))] s21
                      exact am_wk hX [0, 1] (hJ153 ((((27 : Int64) * (s21.2 215 11)) + ((s21.1 220 ((s21.1 215 7).toNatClampNeg)).toInt64)) - (96 : Int64)) hf)
                    · have hf := am_if hf hb
                      show X 124 [(0, .inr (.inr ((10, 0, 0), 215))), (1, .inl x22)] [.inr (.inr ((10, 0, 0), 215))] s21
                      refine am_blk hX 63 2 (?_)
                      show X 153 [(0, .inr (.inr ((10, 0, 0), 215))), (1, .inl x22)] [.inr (.inl (-1 : Int64)), .inr (.inr ((10, 0, 0), 215))] s21
                      exact am_wk hX [0, 1] (hJ153 (-1 : Int64) hf)
            refine am_blk hX 50 2 (?_)
            show X 102 [(1, .inl (0 : Int32)), (0, .inr (.inr ((10, 0, 0), 215)))] [] s19
            exact am_wk hX [1, 0] (hL102 am_fu s19 (0 : Int32) hf)
      · have hf := am_it hf hb
        show X 72 [(0, .inr (.inr ((10, 0, 0), 215)))] [] s4
        refine am_blk hX 36 3 (And.intro rfl (am_nl (Z := fun s31 => X 77 [(0, .inr (.inr ((10, 0, 0), 215)))] [] s31) hf (fun s31 hf => ?_)))
        refine am_blk hX 39 1 (?_)
        show X 307 [(0, .inr (.inr ((10, 0, 0), 215)))] [] s31
        exact am_wk hX [] (hJ307 s31 hf)
  · intro J43 hJ43 hf
    have hL0 : ∀ (n0 : Nat) (s32 : AS), fX9_goesOn_L0 J43 n0 s32 = some (sE, rE) → X 0 [(0, .inr (.inr ((10, 0, 0), 215)))] [] s32 := by
      intro n0
      induction n0 with
      | zero => intro s32 hf; exact am_no (show none = some _ from hf)
      | succ n0 ih0 =>
        intro s32 hf
        obtain ⟨v33, hcv33, hf⟩ := am_r_of hf
        refine am_jn hf (fun J30 => J30 = some (sE, rE) → X 30 [(0, .inr (.inr ((10, 0, 0), 215)))] [] s32) ?_ ?_
        · intro hf
          refine am_blk hX 14 6 (And.intro rfl (And.intro rfl (am_nl (Z := fun s34 => X 40 [(0, .inr (.inr ((10, 0, 0), 215)))] [] s34) hf (fun s34 hf => ?_))))
          refine am_blk hX 20 1 (?_)
          show X 0 [(0, .inr (.inr ((10, 0, 0), 215)))] [] s34
          exact am_wk hX [0] (ih0 s34 hf)
        · intro J30 hJ30 hf
          refine am_blk hX 0 7 (And.intro rfl (And.intro rfl (And.intro rfl (Exists.intro s32 (Exists.intro (some (.inl v33)) (And.intro (tX9_isByte l (d + 0) hcv33) (And.intro (fun hb => ?_) (fun hb => ?_))))))))
          · have hf := am_if hf hb
            show X 30 [(0, .inr (.inr ((10, 0, 0), 215)))] [] s32
            exact am_wk hX [0] (hJ30 hf)
          · have hf := am_it hf hb
            show X 15 [(0, .inr (.inr ((10, 0, 0), 215)))] [] s32
            obtain ⟨v35, hcv35, hf⟩ := am_r_of hf
            refine am_blk hX 7 7 (And.intro rfl (And.intro rfl (And.intro rfl (Exists.intro s32 (Exists.intro (some (.inl v35)) (And.intro (tX9_isByte l (d + 0) hcv35) (And.intro (fun hb => ?_) (fun hb => ?_))))))))
            · have hf := am_it hf hb
              show X 43 [(0, .inr (.inr ((10, 0, 0), 215)))] [] s32
              exact am_wk hX [0] (hJ43 s32 hf)
            · have hf := am_if hf hb
              show X 30 [(0, .inr (.inr ((10, 0, 0), 215)))] [] s32
              exact am_wk hX [0] (hJ30 hf)
    exact am_wk hX [0] (hL0 am_fu s0 hf)
def fX9_takes (s0 : AS) (a1 : Int64) : Option (AS × Int32) :=
  am_r (fX9_is s0 a1) (fun (v1 : Int32) => if v1 = 0 then (some (s0, (0 : Int32))) else (am_c (fX9_goesOn s0) (fun (s3 : AS) (v2 : Unit) => some (s3, (1 : Int32)))))
def kX9_takes : List (Nat × Instr × Nat) := [(0, .aload_n 0, 1), (1, .lload_n 1, 1), (2, .invokevirtual 138, 3), (5, .ifCond .ne 5, 3), (8, .iconst 0, 1), (9, .ireturn, 1), (10, .aload_n 0, 1), (11, .invokevirtual 142, 3), (14, .iconst 1, 1), (15, .ireturn, 1)]
theorem qX9_takes : ∀ q ∈ kX9_takes, decode mX9_takes.2.2.1 q.1 = .ok (q.2.1, q.2.2) ∧ am_iok mX9_takes.2.2.2.1 q.1 q.2.1 q.2.2 = true := by decide +kernel
set_option maxRecDepth 100000 in
theorem wX9_takes : Cond.code mX9_takes.2.1 mX9_takes.2.2.1 mX9_takes.2.2.2.1 mX9_takes.2.2.2.2.1 ∈ am_T := List.mem_filter.mpr ⟨List.mem_of_getElem? (i := 1522) rfl, rfl⟩
set_option maxHeartbeats 4000000 in
set_option maxRecDepth 100000 in
theorem tX9_takes (l : Launch) (d : Nat) {s0 : AS} {a1 : Int64} {sE : AS} {rE : Int32} (hf : fX9_takes s0 a1 = some (sE, rE)) : am_Ct l (d + 3) mX9_takes [.inr (.inr ((10, 0, 0), 215)), .inr (.inl a1)] s0 sE (some (.inl rE)) := by
  refine am_sim l (d + 2) (code := kX9_takes) (by decide +kernel) wX9_takes qX9_takes (Nat.le_of_ble_eq_true rfl) ?_
  intro X hX
  show X 0 [(0, .inr (.inr ((10, 0, 0), 215))), (1, .inr (.inl a1))] [] s0
  unfold fX9_takes at hf
  obtain ⟨v1, hcv1, hf⟩ := am_r_of hf
  refine am_blk hX 0 4 (And.intro rfl (And.intro rfl (Exists.intro s0 (Exists.intro (some (.inl v1)) (And.intro (tX9_is l (d + 1) hcv1) (And.intro (fun hb => ?_) (fun hb => ?_)))))))
  · have hf := am_if hf hb
    show X 10 [(0, .inr (.inr ((10, 0, 0), 215))), (1, .inr (.inl a1))] [] s0
    obtain ⟨s3, v2, hcv2, hf⟩ := am_c_of hf
    refine am_blk hX 6 4 (And.intro rfl (And.intro rfl (Exists.intro s3 (Exists.intro none (And.intro (tX9_goesOn l (d + 0) hcv2) (And.intro (Or.inr rfl) (am_ri hf)))))))
  · have hf := am_it hf hb
    show X 8 [(0, .inr (.inr ((10, 0, 0), 215))), (1, .inr (.inl a1))] [] s0
    refine am_blk hX 4 2 (And.intro (Or.inl rfl) (am_ri hf))
def fX9_fails (s0 : AS) (a1 : Int32) : Option (AS × Unit) :=
  if (s0.1 215 12) = 0 then (am_let (am_si s0 215 12 a1) (fun (s1 : AS) => am_let (am_si s1 215 13 (s1.1 215 9)) (fun (s2 : AS) => some (s2, ())))) else (some (s0, ()))
def kX9_fails : List (Nat × Instr × Nat) := [(0, .aload_n 0, 1), (1, .getfield 132, 3), (4, .ifCond .eq 4, 3), (7, .return_, 1), (8, .aload_n 0, 1), (9, .iload_n 1, 1), (10, .putfield 132, 3), (13, .aload_n 0, 1), (14, .aload_n 0, 1), (15, .getfield 111, 3), (18, .putfield 135, 3), (21, .return_, 1)]
theorem qX9_fails : ∀ q ∈ kX9_fails, decode mX9_fails.2.2.1 q.1 = .ok (q.2.1, q.2.2) ∧ am_iok mX9_fails.2.2.2.1 q.1 q.2.1 q.2.2 = true := by decide +kernel
set_option maxRecDepth 100000 in
theorem wX9_fails : Cond.code mX9_fails.2.1 mX9_fails.2.2.1 mX9_fails.2.2.2.1 mX9_fails.2.2.2.2.1 ∈ am_T := List.mem_filter.mpr ⟨List.mem_of_getElem? (i := 1530) rfl, rfl⟩
set_option maxHeartbeats 4000000 in
set_option maxRecDepth 100000 in
theorem tX9_fails (l : Launch) (d : Nat) {s0 : AS} {a1 : Int32} {sE : AS} {rE : Unit} (hf : fX9_fails s0 a1 = some (sE, rE)) : am_Ct l (d + 1) mX9_fails [.inr (.inr ((10, 0, 0), 215)), .inl a1] s0 sE none := by
  refine am_sim l (d + 0) (code := kX9_fails) (by decide +kernel) wX9_fails qX9_fails (Nat.le_of_ble_eq_true rfl) ?_
  intro X hX
  show X 0 [(0, .inr (.inr ((10, 0, 0), 215))), (1, .inl a1)] [] s0
  unfold fX9_fails at hf
  refine am_blk hX 0 3 (And.intro rfl (And.intro (fun hb => ?_) (fun hb => ?_)))
  · have hf := am_it hf hb
    show X 8 [(0, .inr (.inr ((10, 0, 0), 215))), (1, .inl a1)] [] s0
    refine am_blk hX 4 3 (And.intro rfl (am_nl (Z := fun s1 => X 13 [(0, .inr (.inr ((10, 0, 0), 215))), (1, .inl a1)] [] s1) hf (fun s1 hf => ?_)))
    refine am_blk hX 7 4 (And.intro rfl (And.intro rfl (am_nl (Z := fun s2 => X 21 [(0, .inr (.inr ((10, 0, 0), 215))), (1, .inl a1)] [] s2) hf (fun s2 hf => ?_))))
    refine am_blk hX 11 1 (And.intro rfl (am_rv hf))
  · have hf := am_if hf hb
    show X 7 [(0, .inr (.inr ((10, 0, 0), 215))), (1, .inl a1)] [] s0
    refine am_blk hX 3 1 (And.intro rfl (am_rv hf))
def fX9_asks (s0 : AS) (a1 : Int64) : Option (AS × Unit) :=
  am_c (fX9_takes s0 a1) (fun (s2 : AS) (v1 : Int32) => am_let (fun (s3 : AS) => some (s3, ())) (fun J13 => if v1 = 0 then (am_c (fX9_fails s2 (1 : Int32)) (fun (s5 : AS) (v4 : Unit) => J13 s5)) else (J13 s2)))
def kX9_asks : List (Nat × Instr × Nat) := [(0, .aload_n 0, 1), (1, .lload_n 1, 1), (2, .invokevirtual 145, 3), (5, .ifCond .ne 8, 3), (8, .aload_n 0, 1), (9, .iconst 1, 1), (10, .invokevirtual 148, 3), (13, .return_, 1)]
theorem qX9_asks : ∀ q ∈ kX9_asks, decode mX9_asks.2.2.1 q.1 = .ok (q.2.1, q.2.2) ∧ am_iok mX9_asks.2.2.2.1 q.1 q.2.1 q.2.2 = true := by decide +kernel
set_option maxRecDepth 100000 in
theorem wX9_asks : Cond.code mX9_asks.2.1 mX9_asks.2.2.1 mX9_asks.2.2.2.1 mX9_asks.2.2.2.2.1 ∈ am_T := List.mem_filter.mpr ⟨List.mem_of_getElem? (i := 1518) rfl, rfl⟩
set_option maxHeartbeats 4000000 in
set_option maxRecDepth 100000 in
theorem tX9_asks (l : Launch) (d : Nat) {s0 : AS} {a1 : Int64} {sE : AS} {rE : Unit} (hf : fX9_asks s0 a1 = some (sE, rE)) : am_Ct l (d + 4) mX9_asks [.inr (.inr ((10, 0, 0), 215)), .inr (.inl a1)] s0 sE none := by
  refine am_sim l (d + 3) (code := kX9_asks) (by decide +kernel) wX9_asks qX9_asks (Nat.le_of_ble_eq_true rfl) ?_
  intro X hX
  show X 0 [(0, .inr (.inr ((10, 0, 0), 215))), (1, .inr (.inl a1))] [] s0
  unfold fX9_asks at hf
  obtain ⟨s2, v1, hcv1, hf⟩ := am_c_of hf
  refine am_jn hf (fun J13 => ∀ (s3 : AS), J13 s3 = some (sE, rE) → X 13 [] [] s3) ?_ ?_
  · intro s3 hf
    refine am_blk hX 7 1 (And.intro rfl (am_rv hf))
  · intro J13 hJ13 hf
    refine am_blk hX 0 4 (And.intro rfl (And.intro rfl (Exists.intro s2 (Exists.intro (some (.inl v1)) (And.intro (tX9_takes l (d + 0) hcv1) (And.intro (fun hb => ?_) (fun hb => ?_)))))))
    · have hf := am_if hf hb
      show X 13 [(0, .inr (.inr ((10, 0, 0), 215))), (1, .inr (.inl a1))] [] s2
      exact am_wk hX [] (hJ13 s2 hf)
    · have hf := am_it hf hb
      show X 8 [(0, .inr (.inr ((10, 0, 0), 215))), (1, .inr (.inl a1))] [] s2
      obtain ⟨s5, v4, hcv4, hf⟩ := am_c_of hf
      refine am_blk hX 4 3 (And.intro rfl (And.intro rfl (Exists.intro s5 (Exists.intro none (And.intro (tX9_fails l (d + 2) hcv4) (?_))))))
      show X 13 [(0, .inr (.inr ((10, 0, 0), 215))), (1, .inr (.inl a1))] [] s5
      exact am_wk hX [] (hJ13 s5 hf)
def fX9_isStep (s0 : AS) (a1 : Int32) : Option Int32 :=
  am_r (fX9_isMarch s0) (fun (v1 : Int32) => am_let (fun (x2 : Int32) => am_g (x2 = 0 ∨ x2 = 1) (some x2)) (fun J24 => am_let (J24 (0 : Int32)) (fun J23 => if v1 = 0 then (J23) else (am_r (fX9_in a1.toInt64 (0 : Int64) (60 : Int64)) (fun (v4 : Int32) => if v4 = 0 then (J23) else (J24 (1 : Int32)))))))
def kX9_isStep : List (Nat × Instr × Nat) := [(0, .aload_n 0, 1), (1, .invokevirtual 251, 3), (4, .ifCond .eq 19, 3), (7, .iload_n 1, 1), (8, .i2l, 1), (9, .lconst 0, 1), (10, .ldc2_w 254, 3), (13, .invokestatic 85, 3), (16, .ifCond .eq 7, 3), (19, .iconst 1, 1), (20, .goto 4, 3), (23, .iconst 0, 1), (24, .ireturn, 1)]
theorem qX9_isStep : ∀ q ∈ kX9_isStep, decode mX9_isStep.2.2.1 q.1 = .ok (q.2.1, q.2.2) ∧ am_iok mX9_isStep.2.2.2.1 q.1 q.2.1 q.2.2 = true := by decide +kernel
set_option maxRecDepth 100000 in
theorem wX9_isStep : Cond.code mX9_isStep.2.1 mX9_isStep.2.2.1 mX9_isStep.2.2.2.1 mX9_isStep.2.2.2.2.1 ∈ am_T := List.mem_filter.mpr ⟨List.mem_of_getElem? (i := 1653) rfl, rfl⟩
set_option maxHeartbeats 4000000 in
set_option maxRecDepth 100000 in
theorem tX9_isStep (l : Launch) (d : Nat) {s0 : AS} {a1 : Int32} {rE : Int32} (hf : fX9_isStep s0 a1 = some rE) : am_Ct l (d + 2) mX9_isStep [.inr (.inr ((10, 0, 0), 215)), .inl a1] s0 s0 (some (.inl rE)) := by
  refine am_sim l (d + 1) (code := kX9_isStep) (by decide +kernel) wX9_isStep qX9_isStep (Nat.le_of_ble_eq_true rfl) ?_
  intro X hX
  show X 0 [(0, .inr (.inr ((10, 0, 0), 215))), (1, .inl a1)] [] s0
  unfold fX9_isStep at hf
  obtain ⟨v1, hcv1, hf⟩ := am_r_of hf
  refine am_jn hf (fun J24 => ∀ (x2 : Int32), J24 x2 = some rE → X 24 [] [.inl x2] s0) ?_ ?_
  · intro x2 hf
    obtain ⟨g3, hf⟩ := am_g_of hf
    refine am_blk hX 12 1 (And.intro g3 (am_rpi hf))
  · intro J24 hJ24 hf
    refine am_jn hf (fun J23 => J23 = some rE → X 23 [] [] s0) ?_ ?_
    · intro hf
      refine am_blk hX 11 1 (?_)
      show X 24 [] [.inl (0 : Int32)] s0
      exact am_wk hX [] (hJ24 (0 : Int32) hf)
    · intro J23 hJ23 hf
      refine am_blk hX 0 3 (And.intro rfl (And.intro rfl (Exists.intro s0 (Exists.intro (some (.inl v1)) (And.intro (tX9_isMarch l (d + 0) hcv1) (And.intro (fun hb => ?_) (fun hb => ?_)))))))
      · have hf := am_it hf hb
        show X 23 [(0, .inr (.inr ((10, 0, 0), 215))), (1, .inl a1)] [] s0
        exact am_wk hX [] (hJ23 hf)
      · have hf := am_if hf hb
        show X 7 [(0, .inr (.inr ((10, 0, 0), 215))), (1, .inl a1)] [] s0
        obtain ⟨v4, hcv4, hf⟩ := am_r_of hf
        refine am_blk hX 3 6 (And.intro rfl (Exists.intro s0 (Exists.intro (some (.inl v4)) (And.intro (tX9_in l (d + 0) hcv4) (And.intro (fun hb => ?_) (fun hb => ?_))))))
        · have hf := am_it hf hb
          show X 23 [(0, .inr (.inr ((10, 0, 0), 215))), (1, .inl a1)] [] s0
          exact am_wk hX [] (hJ23 hf)
        · have hf := am_if hf hb
          show X 19 [(0, .inr (.inr ((10, 0, 0), 215))), (1, .inl a1)] [] s0
          refine am_blk hX 9 2 (?_)
          show X 24 [(0, .inr (.inr ((10, 0, 0), 215))), (1, .inl a1)] [.inl (1 : Int32)] s0
          exact am_wk hX [] (hJ24 (1 : Int32) hf)
def fX9_laysNow (s0 : AS) : Option (AS × Unit) :=
  am_c (fX9_lays s0) (fun (s2 : AS) (v1 : Unit) => am_c (fX9_runs s2) (fun (s4 : AS) (v3 : Unit) => some (s4, ())))
def kX9_laysNow : List (Nat × Instr × Nat) := [(0, .aload_n 0, 1), (1, .invokevirtual 336, 3), (4, .aload_n 0, 1), (5, .invokevirtual 339, 3), (8, .return_, 1)]
theorem qX9_laysNow : ∀ q ∈ kX9_laysNow, decode mX9_laysNow.2.2.1 q.1 = .ok (q.2.1, q.2.2) ∧ am_iok mX9_laysNow.2.2.2.1 q.1 q.2.1 q.2.2 = true := by decide +kernel
set_option maxRecDepth 100000 in
theorem wX9_laysNow : Cond.code mX9_laysNow.2.1 mX9_laysNow.2.2.1 mX9_laysNow.2.2.2.1 mX9_laysNow.2.2.2.2.1 ∈ am_T := List.mem_filter.mpr ⟨List.mem_of_getElem? (i := 1662) rfl, rfl⟩
set_option maxHeartbeats 4000000 in
set_option maxRecDepth 100000 in
theorem tX9_laysNow (l : Launch) (d : Nat) {s0 : AS} {sE : AS} {rE : Unit} (hf : fX9_laysNow s0 = some (sE, rE)) : am_Ct l (d + 5) mX9_laysNow [.inr (.inr ((10, 0, 0), 215))] s0 sE none := by
  refine am_sim l (d + 4) (code := kX9_laysNow) (by decide +kernel) wX9_laysNow qX9_laysNow (Nat.le_of_ble_eq_true rfl) ?_
  intro X hX
  show X 0 [(0, .inr (.inr ((10, 0, 0), 215)))] [] s0
  unfold fX9_laysNow at hf
  obtain ⟨s2, v1, hcv1, hf⟩ := am_c_of hf
  obtain ⟨s4, v3, hcv3, hf⟩ := am_c_of hf
  refine am_blk hX 0 5 (And.intro rfl (And.intro rfl (Exists.intro s2 (Exists.intro none (And.intro (tX9_lays l (d + 3) hcv1) (And.intro rfl (And.intro rfl (Exists.intro s4 (Exists.intro none (And.intro (tX9_runs l (d + 0) hcv3) (And.intro rfl (am_rv hf))))))))))))
def fX9_at (s0 : AS) (a1 : Int32) : Option (AS × Int32) :=
  am_let (am_si s0 215 0 (0 : Int32)) (fun (s1 : AS) => am_r (fX9_isStep s1 a1) (fun (v2 : Int32) => if v2 = 0 then (some (s1, (-2 : Int32))) else (am_c (fX9_laysNow s1) (fun (s4 : AS) (v3 : Unit) => am_g (¬ (a1 < 0 ∨ 61 ≤ a1.toNatClampNeg)) (some (s4, s4.1 229 a1.toNatClampNeg))))))
def kX9_at : List (Nat × Instr × Nat) := [(0, .aload_n 0, 1), (1, .iconst 0, 1), (2, .putfield 80, 3), (5, .aload_n 0, 1), (6, .iload_n 1, 1), (7, .invokevirtual 355, 3), (10, .ifCond .ne 6, 3), (13, .bipush (-2), 2), (15, .ireturn, 1), (16, .aload_n 0, 1), (17, .invokevirtual 358, 3), (20, .aload_n 0, 1), (21, .getfield 56, 3), (24, .iload_n 1, 1), (25, .iaload, 1), (26, .ireturn, 1)]
theorem qX9_at : ∀ q ∈ kX9_at, decode mX9_at.2.2.1 q.1 = .ok (q.2.1, q.2.2) ∧ am_iok mX9_at.2.2.2.1 q.1 q.2.1 q.2.2 = true := by decide +kernel
set_option maxRecDepth 100000 in
theorem wX9_at : Cond.code mX9_at.2.1 mX9_at.2.2.1 mX9_at.2.2.2.1 mX9_at.2.2.2.2.1 ∈ am_T := List.mem_filter.mpr ⟨List.mem_of_getElem? (i := 1649) rfl, rfl⟩
set_option maxHeartbeats 4000000 in
set_option maxRecDepth 100000 in
theorem tX9_at (l : Launch) (d : Nat) {s0 : AS} {a1 : Int32} {sE : AS} {rE : Int32} (hf : fX9_at s0 a1 = some (sE, rE)) : am_Ct l (d + 6) mX9_at [.inr (.inr ((10, 0, 0), 215)), .inl a1] s0 sE (some (.inl rE)) := by
  refine am_sim l (d + 5) (code := kX9_at) (by decide +kernel) wX9_at qX9_at (Nat.le_of_ble_eq_true rfl) ?_
  intro X hX
  show X 0 [(0, .inr (.inr ((10, 0, 0), 215))), (1, .inl a1)] [] s0
  unfold fX9_at at hf
  refine am_blk hX 0 3 (And.intro rfl (am_nl (Z := fun s1 => X 5 [(0, .inr (.inr ((10, 0, 0), 215))), (1, .inl a1)] [] s1) hf (fun s1 hf => ?_)))
  obtain ⟨v2, hcv2, hf⟩ := am_r_of hf
  refine am_blk hX 3 4 (And.intro rfl (And.intro rfl (Exists.intro s1 (Exists.intro (some (.inl v2)) (And.intro (tX9_isStep l (d + 3) hcv2) (And.intro (fun hb => ?_) (fun hb => ?_)))))))
  · have hf := am_if hf hb
    show X 16 [(0, .inr (.inr ((10, 0, 0), 215))), (1, .inl a1)] [] s1
    obtain ⟨s4, v3, hcv3, hf⟩ := am_c_of hf
    obtain ⟨g5, hf⟩ := am_g_of hf
    refine am_blk hX 9 7 (And.intro rfl (And.intro rfl (Exists.intro s4 (Exists.intro none (And.intro (tX9_laysNow l (d + 0) hcv3) (And.intro rfl (And.intro rfl (And.intro g5 (am_ri hf)))))))))
  · have hf := am_it hf hb
    show X 13 [(0, .inr (.inr ((10, 0, 0), 215))), (1, .inl a1)] [] s1
    refine am_blk hX 7 2 (am_ri hf)
def fX9_copyRow_L3 (o0 : Nat) (n0 : Nat) (a1 : Int32) (a2 : Int32) (a3 : Int32) : Nat → AS → Int32 → Option (AS × Unit)
  | 0, _, _ => none
  | n3 + 1, s1, x2 =>
    if a1 ≤ x2 then (some (s1, ())) else (am_g (¬ (((a1 * a2) + x2) < 0 ∨ n0 ≤ ((a1 * a2) + x2).toNatClampNeg)) (am_g (¬ (((a1 * a3) + x2) < 0 ∨ n0 ≤ ((a1 * a3) + x2).toNatClampNeg)) (am_let (am_si s1 o0 (((a1 * a3) + x2).toNatClampNeg) (s1.1 o0 (((a1 * a2) + x2).toNatClampNeg))) (fun (s5 : AS) => am_let (x2 + (1 : Int32)) (fun (x6 : Int32) => fX9_copyRow_L3 o0 n0 a1 a2 a3 n3 s5 x6)))))
def fX9_copyRow (s0 : AS) (o0 : Nat) (n0 : Nat) (a1 : Int32) (a2 : Int32) (a3 : Int32) : Option (AS × Unit) :=
  fX9_copyRow_L3 o0 n0 a1 a2 a3 am_fu s0 (0 : Int32)
def kX9_copyRow : List (Nat × Instr × Nat) := [(0, .iconst 0, 1), (1, .istore 4, 2), (3, .iload 4, 2), (5, .iload_n 1, 1), (6, .if_icmp .ge 25, 3), (9, .aload_n 0, 1), (10, .iload_n 1, 1), (11, .iload_n 3, 1), (12, .imul, 1), (13, .iload 4, 2), (15, .iadd, 1), (16, .aload_n 0, 1), (17, .iload_n 1, 1), (18, .iload_n 2, 1), (19, .imul, 1), (20, .iload 4, 2), (22, .iadd, 1), (23, .iaload, 1), (24, .iastore, 1), (25, .iinc 4 1, 3), (28, .goto (-25), 3), (31, .return_, 1)]
theorem qX9_copyRow : ∀ q ∈ kX9_copyRow, decode mX9_copyRow.2.2.1 q.1 = .ok (q.2.1, q.2.2) ∧ am_iok mX9_copyRow.2.2.2.1 q.1 q.2.1 q.2.2 = true := by decide +kernel
set_option maxRecDepth 100000 in
theorem wX9_copyRow : Cond.code mX9_copyRow.2.1 mX9_copyRow.2.2.1 mX9_copyRow.2.2.2.1 mX9_copyRow.2.2.2.2.1 ∈ am_T := List.mem_filter.mpr ⟨List.mem_of_getElem? (i := 1592) rfl, rfl⟩
set_option maxHeartbeats 4000000 in
set_option maxRecDepth 100000 in
theorem tX9_copyRow (l : Launch) (d : Nat) {s0 : AS} {o0 : Nat} {n0 : Nat} {a1 : Int32} {a2 : Int32} {a3 : Int32} {sE : AS} {rE : Unit} (hf : fX9_copyRow s0 o0 n0 a1 a2 a3 = some (sE, rE)) : am_Ct l (d + 1) mX9_copyRow [.inr (.inr ((21, n0, 0), o0)), .inl a1, .inl a2, .inl a3] s0 sE none := by
  refine am_sim l (d + 0) (code := kX9_copyRow) (by decide +kernel) wX9_copyRow qX9_copyRow (Nat.le_of_ble_eq_true rfl) ?_
  intro X hX
  show X 0 [(0, .inr (.inr ((21, n0, 0), o0))), (1, .inl a1), (2, .inl a2), (3, .inl a3)] [] s0
  unfold fX9_copyRow at hf
  have hL3 : ∀ (n3 : Nat) (s1 : AS) (x2 : Int32), fX9_copyRow_L3 o0 n0 a1 a2 a3 n3 s1 x2 = some (sE, rE) → X 3 [(0, .inr (.inr ((21, n0, 0), o0))), (1, .inl a1), (2, .inl a2), (3, .inl a3), (4, .inl x2)] [] s1 := by
    intro n3
    induction n3 with
    | zero => intro s1 x2 hf; exact am_no (show none = some _ from hf)
    | succ n3 ih3 =>
      intro s1 x2 hf
      refine am_blk hX 2 3 (And.intro (fun hb => ?_) (fun hb => ?_))
      · have hf := am_it hf hb
        show X 31 [(0, .inr (.inr ((21, n0, 0), o0))), (1, .inl a1), (2, .inl a2), (3, .inl a3), (4, .inl x2)] [] s1
        refine am_blk hX 21 1 (And.intro rfl (am_rv hf))
      · have hf := am_if hf hb
        show X 9 [(0, .inr (.inr ((21, n0, 0), o0))), (1, .inl a1), (2, .inl a2), (3, .inl a3), (4, .inl x2)] [] s1
        obtain ⟨g3, hf⟩ := am_g_of hf
        obtain ⟨g4, hf⟩ := am_g_of hf
        refine am_blk hX 5 14 (And.intro rfl (And.intro g3 (And.intro rfl (And.intro g4 (am_nl (Z := fun s5 => X 25 [(0, .inr (.inr ((21, n0, 0), o0))), (1, .inl a1), (2, .inl a2), (3, .inl a3), (4, .inl x2)] [] s5) hf (fun s5 hf => ?_))))))
        refine am_blk hX 19 1 (am_nl (Z := fun x6 => X 28 [(4, .inl x6), (0, .inr (.inr ((21, n0, 0), o0))), (1, .inl a1), (2, .inl a2), (3, .inl a3)] [] s5) hf (fun x6 hf => ?_))
        refine am_blk hX 20 1 (?_)
        show X 3 [(4, .inl x6), (0, .inr (.inr ((21, n0, 0), o0))), (1, .inl a1), (2, .inl a2), (3, .inl a3)] [] s5
        exact am_wk hX [1, 2, 3, 4, 0] (ih3 s5 x6 hf)
  refine am_blk hX 0 2 (?_)
  show X 3 [(4, .inl (0 : Int32)), (0, .inr (.inr ((21, n0, 0), o0))), (1, .inl a1), (2, .inl a2), (3, .inl a3)] [] s0
  exact am_wk hX [1, 2, 3, 4, 0] (hL3 am_fu s0 (0 : Int32) hf)
def fX9_copyMarch (s0 : AS) (a1 : Int32) (a2 : Int32) : Option (AS × Unit) :=
  am_c (fX9_copyRow s0 221 5 (1 : Int32) a1 a2) (fun (s2 : AS) (v1 : Unit) => am_c (fX9_copyRow s2 222 35 (7 : Int32) a1 a2) (fun (s4 : AS) (v3 : Unit) => am_c (fX9_copyRow s4 223 150 (30 : Int32) a1 a2) (fun (s6 : AS) (v5 : Unit) => am_c (fX9_copyRow s6 224 200 (40 : Int32) a1 a2) (fun (s8 : AS) (v7 : Unit) => am_c (fX9_copyRow s8 225 30 (6 : Int32) a1 a2) (fun (s10 : AS) (v9 : Unit) => am_c (fX9_copyRow s10 226 600 (120 : Int32) a1 a2) (fun (s12 : AS) (v11 : Unit) => some (s12, ())))))))
def kX9_copyMarch : List (Nat × Instr × Nat) := [(0, .aload_n 0, 1), (1, .getfield 31, 3), (4, .iconst 1, 1), (5, .iload_n 1, 1), (6, .iload_n 2, 1), (7, .invokestatic 244, 3), (10, .aload_n 0, 1), (11, .getfield 34, 3), (14, .bipush 7, 2), (16, .iload_n 1, 1), (17, .iload_n 2, 1), (18, .invokestatic 244, 3), (21, .aload_n 0, 1), (22, .getfield 37, 3), (25, .bipush 30, 2), (27, .iload_n 1, 1), (28, .iload_n 2, 1), (29, .invokestatic 244, 3), (32, .aload_n 0, 1), (33, .getfield 40, 3), (36, .bipush 40, 2), (38, .iload_n 1, 1), (39, .iload_n 2, 1), (40, .invokestatic 244, 3), (43, .aload_n 0, 1), (44, .getfield 43, 3), (47, .bipush 6, 2), (49, .iload_n 1, 1), (50, .iload_n 2, 1), (51, .invokestatic 244, 3), (54, .aload_n 0, 1), (55, .getfield 46, 3), (58, .bipush 120, 2), (60, .iload_n 1, 1), (61, .iload_n 2, 1), (62, .invokestatic 244, 3), (65, .return_, 1)]
theorem qX9_copyMarch : ∀ q ∈ kX9_copyMarch, decode mX9_copyMarch.2.2.1 q.1 = .ok (q.2.1, q.2.2) ∧ am_iok mX9_copyMarch.2.2.2.1 q.1 q.2.1 q.2.2 = true := by decide +kernel
set_option maxRecDepth 100000 in
theorem wX9_copyMarch : Cond.code mX9_copyMarch.2.1 mX9_copyMarch.2.2.1 mX9_copyMarch.2.2.2.1 mX9_copyMarch.2.2.2.2.1 ∈ am_T := List.mem_filter.mpr ⟨List.mem_of_getElem? (i := 1589) rfl, rfl⟩
set_option maxHeartbeats 4000000 in
set_option maxRecDepth 100000 in
theorem tX9_copyMarch (l : Launch) (d : Nat) {s0 : AS} {a1 : Int32} {a2 : Int32} {sE : AS} {rE : Unit} (hf : fX9_copyMarch s0 a1 a2 = some (sE, rE)) : am_Ct l (d + 2) mX9_copyMarch [.inr (.inr ((10, 0, 0), 215)), .inl a1, .inl a2] s0 sE none := by
  refine am_sim l (d + 1) (code := kX9_copyMarch) (by decide +kernel) wX9_copyMarch qX9_copyMarch (Nat.le_of_ble_eq_true rfl) ?_
  intro X hX
  show X 0 [(0, .inr (.inr ((10, 0, 0), 215))), (1, .inl a1), (2, .inl a2)] [] s0
  unfold fX9_copyMarch at hf
  obtain ⟨s2, v1, hcv1, hf⟩ := am_c_of hf
  obtain ⟨s4, v3, hcv3, hf⟩ := am_c_of hf
  obtain ⟨s6, v5, hcv5, hf⟩ := am_c_of hf
  obtain ⟨s8, v7, hcv7, hf⟩ := am_c_of hf
  obtain ⟨s10, v9, hcv9, hf⟩ := am_c_of hf
  obtain ⟨s12, v11, hcv11, hf⟩ := am_c_of hf
  refine am_blk hX 0 37 (And.intro rfl (And.intro rfl (Exists.intro s2 (Exists.intro none (And.intro (tX9_copyRow l (d + 0) hcv1) (And.intro rfl (And.intro rfl (Exists.intro s4 (Exists.intro none (And.intro (tX9_copyRow l (d + 0) hcv3) (And.intro rfl (And.intro rfl (Exists.intro s6 (Exists.intro none (And.intro (tX9_copyRow l (d + 0) hcv5) (And.intro rfl (And.intro rfl (Exists.intro s8 (Exists.intro none (And.intro (tX9_copyRow l (d + 0) hcv7) (And.intro rfl (And.intro rfl (Exists.intro s10 (Exists.intro none (And.intro (tX9_copyRow l (d + 0) hcv9) (And.intro rfl (And.intro rfl (Exists.intro s12 (Exists.intro none (And.intro (tX9_copyRow l (d + 0) hcv11) (And.intro rfl (am_rv hf))))))))))))))))))))))))))))))))
def fX9_back (s0 : AS) (a1 : Int32) : Option (AS × Int32) :=
  am_let (am_si s0 215 0 (0 : Int32)) (fun (s1 : AS) => am_r (fX9_in a1.toInt64 (0 : Int64) (2 : Int64)) (fun (v2 : Int32) => if v2 = 0 then (some (s1, (-2 : Int32))) else (am_g (¬ (a1 < 0 ∨ 3 ≤ a1.toNatClampNeg)) (if (s1.1 227 a1.toNatClampNeg) = 0 then (some (s1, (-6 : Int32))) else (am_c (fX9_copyMarch s1 ((1 : Int32) + a1) (0 : Int32)) (fun (s5 : AS) (v4 : Unit) => some (s5, (0 : Int32))))))))
def kX9_back : List (Nat × Instr × Nat) := [(0, .aload_n 0, 1), (1, .iconst 0, 1), (2, .putfield 80, 3), (5, .iload_n 1, 1), (6, .i2l, 1), (7, .lconst 0, 1), (8, .ldc2_w 342, 3), (11, .invokestatic 85, 3), (14, .ifCond .ne 6, 3), (17, .bipush (-2), 2), (19, .ireturn, 1), (20, .aload_n 0, 1), (21, .getfield 49, 3), (24, .iload_n 1, 1), (25, .baload, 1), (26, .ifCond .ne 6, 3), (29, .bipush (-6), 2), (31, .ireturn, 1), (32, .aload_n 0, 1), (33, .iconst 1, 1), (34, .iload_n 1, 1), (35, .iadd, 1), (36, .iconst 0, 1), (37, .invokevirtual 241, 3), (40, .iconst 0, 1), (41, .ireturn, 1)]
theorem qX9_back : ∀ q ∈ kX9_back, decode mX9_back.2.2.1 q.1 = .ok (q.2.1, q.2.2) ∧ am_iok mX9_back.2.2.2.1 q.1 q.2.1 q.2.2 = true := by decide +kernel
set_option maxRecDepth 100000 in
theorem wX9_back : Cond.code mX9_back.2.1 mX9_back.2.2.1 mX9_back.2.2.2.1 mX9_back.2.2.2.2.1 ∈ am_T := List.mem_filter.mpr ⟨List.mem_of_getElem? (i := 2016) rfl, rfl⟩
set_option maxHeartbeats 4000000 in
set_option maxRecDepth 100000 in
theorem tX9_back (l : Launch) (d : Nat) {s0 : AS} {a1 : Int32} {sE : AS} {rE : Int32} (hf : fX9_back s0 a1 = some (sE, rE)) : am_Ct l (d + 3) mX9_back [.inr (.inr ((10, 0, 0), 215)), .inl a1] s0 sE (some (.inl rE)) := by
  refine am_sim l (d + 2) (code := kX9_back) (by decide +kernel) wX9_back qX9_back (Nat.le_of_ble_eq_true rfl) ?_
  intro X hX
  show X 0 [(0, .inr (.inr ((10, 0, 0), 215))), (1, .inl a1)] [] s0
  unfold fX9_back at hf
  refine am_blk hX 0 3 (And.intro rfl (am_nl (Z := fun s1 => X 5 [(0, .inr (.inr ((10, 0, 0), 215))), (1, .inl a1)] [] s1) hf (fun s1 hf => ?_)))
  obtain ⟨v2, hcv2, hf⟩ := am_r_of hf
  refine am_blk hX 3 6 (And.intro rfl (Exists.intro s1 (Exists.intro (some (.inl v2)) (And.intro (tX9_in l (d + 1) hcv2) (And.intro (fun hb => ?_) (fun hb => ?_))))))
  · have hf := am_if hf hb
    show X 20 [(0, .inr (.inr ((10, 0, 0), 215))), (1, .inl a1)] [] s1
    obtain ⟨g3, hf⟩ := am_g_of hf
    refine am_blk hX 11 5 (And.intro rfl (And.intro (Or.inr rfl) (And.intro g3 (And.intro (fun hb => ?_) (fun hb => ?_)))))
    · have hf := am_if hf hb
      show X 32 [(0, .inr (.inr ((10, 0, 0), 215))), (1, .inl a1)] [] s1
      obtain ⟨s5, v4, hcv4, hf⟩ := am_c_of hf
      refine am_blk hX 18 8 (And.intro rfl (And.intro rfl (Exists.intro s5 (Exists.intro none (And.intro (tX9_copyMarch l (d + 0) hcv4) (am_ri hf))))))
    · have hf := am_it hf hb
      show X 29 [(0, .inr (.inr ((10, 0, 0), 215))), (1, .inl a1)] [] s1
      refine am_blk hX 16 2 (am_ri hf)
  · have hf := am_it hf hb
    show X 17 [(0, .inr (.inr ((10, 0, 0), 215))), (1, .inl a1)] [] s1
    refine am_blk hX 9 2 (am_ri hf)
def fX9_bar (s0 : AS) (a1 : Int32) (a2 : Int32) : Option (AS × Int32) :=
  am_let (am_si s0 215 0 (0 : Int32)) (fun (s1 : AS) => am_g (¬ ((4 : Int32) < 0 ∨ 35 ≤ (4 : Int32).toNatClampNeg)) (am_r (fX9_in a1.toInt64 (0 : Int64) (((s1.1 222 ((4 : Int32).toNatClampNeg)) - (1 : Int32)).toInt64)) (fun (v3 : Int32) => am_let (some (s1, (-2 : Int32))) (fun J30 => if v3 = 0 then (J30) else (am_r (fX9_isHalf a2) (fun (v4 : Int32) => if v4 = 0 then (J30) else (am_g (¬ ((6 : Int32) < 0 ∨ 35 ≤ (6 : Int32).toNatClampNeg)) (if (s1.1 222 ((6 : Int32).toNatClampNeg)) = (40 : Int32) then (some (s1, (-5 : Int32))) else (am_c (fX9_lays s1) (fun (s7 : AS) (v6 : Unit) => am_c (fX9_acts s7 (1 : Int32) a1 a2) (fun (s9 : AS) (v8 : Unit) => am_r (fX9_isBit (s9.1 215 24) a1) (fun (v10 : Int32) => am_let (fun (x11 : Int32) => some (s9, x11)) (fun J75 => if v10 = 0 then (J75 (0 : Int32)) else (J75 (1 : Int32)))))))))))))))
def kX9_bar : List (Nat × Instr × Nat) := [(0, .aload_n 0, 1), (1, .iconst 0, 1), (2, .putfield 80, 3), (5, .iload_n 1, 1), (6, .i2l, 1), (7, .lconst 0, 1), (8, .aload_n 0, 1), (9, .getfield 34, 3), (12, .iconst 4, 1), (13, .iaload, 1), (14, .iconst 1, 1), (15, .isub, 1), (16, .i2l, 1), (17, .invokestatic 85, 3), (20, .ifCond .eq 10, 3), (23, .iload_n 2, 1), (24, .invokestatic 419, 3), (27, .ifCond .ne 6, 3), (30, .bipush (-2), 2), (32, .ireturn, 1), (33, .aload_n 0, 1), (34, .getfield 34, 3), (37, .bipush 6, 2), (39, .iaload, 1), (40, .bipush 40, 2), (42, .if_icmp .ne 6, 3), (45, .bipush (-5), 2), (47, .ireturn, 1), (48, .aload_n 0, 1), (49, .invokevirtual 336, 3), (52, .aload_n 0, 1), (53, .iconst 1, 1), (54, .iload_n 1, 1), (55, .iload_n 2, 1), (56, .invokevirtual 452, 3), (59, .aload_n 0, 1), (60, .getfield 259, 3), (63, .iload_n 1, 1), (64, .invokestatic 280, 3), (67, .ifCond .eq 7, 3), (70, .iconst 1, 1), (71, .goto 4, 3), (74, .iconst 0, 1), (75, .ireturn, 1)]
theorem qX9_bar : ∀ q ∈ kX9_bar, decode mX9_bar.2.2.1 q.1 = .ok (q.2.1, q.2.2) ∧ am_iok mX9_bar.2.2.2.1 q.1 q.2.1 q.2.2 = true := by decide +kernel
set_option maxRecDepth 100000 in
theorem wX9_bar : Cond.code mX9_bar.2.1 mX9_bar.2.2.1 mX9_bar.2.2.2.1 mX9_bar.2.2.2.2.1 ∈ am_T := List.mem_filter.mpr ⟨List.mem_of_getElem? (i := 1978) rfl, rfl⟩
set_option maxHeartbeats 4000000 in
set_option maxRecDepth 100000 in
theorem tX9_bar (l : Launch) (d : Nat) {s0 : AS} {a1 : Int32} {a2 : Int32} {sE : AS} {rE : Int32} (hf : fX9_bar s0 a1 a2 = some (sE, rE)) : am_Ct l (d + 3) mX9_bar [.inr (.inr ((10, 0, 0), 215)), .inl a1, .inl a2] s0 sE (some (.inl rE)) := by
  refine am_sim l (d + 2) (code := kX9_bar) (by decide +kernel) wX9_bar qX9_bar (Nat.le_of_ble_eq_true rfl) ?_
  intro X hX
  show X 0 [(0, .inr (.inr ((10, 0, 0), 215))), (1, .inl a1), (2, .inl a2)] [] s0
  unfold fX9_bar at hf
  refine am_blk hX 0 3 (And.intro rfl (am_nl (Z := fun s1 => X 5 [(0, .inr (.inr ((10, 0, 0), 215))), (1, .inl a1), (2, .inl a2)] [] s1) hf (fun s1 hf => ?_)))
  obtain ⟨g2, hf⟩ := am_g_of hf
  obtain ⟨v3, hcv3, hf⟩ := am_r_of hf
  refine am_jn hf (fun J30 => J30 = some (sE, rE) → X 30 [] [] s1) ?_ ?_
  · intro hf
    refine am_blk hX 18 2 (am_ri hf)
  · intro J30 hJ30 hf
    refine am_blk hX 3 12 (And.intro rfl (And.intro rfl (And.intro g2 (And.intro rfl (Exists.intro s1 (Exists.intro (some (.inl v3)) (And.intro (tX9_in l (d + 1) hcv3) (And.intro (fun hb => ?_) (fun hb => ?_)))))))))
    · have hf := am_it hf hb
      show X 30 [(0, .inr (.inr ((10, 0, 0), 215))), (1, .inl a1), (2, .inl a2)] [] s1
      exact am_wk hX [] (hJ30 hf)
    · have hf := am_if hf hb
      show X 23 [(0, .inr (.inr ((10, 0, 0), 215))), (1, .inl a1), (2, .inl a2)] [] s1
      obtain ⟨v4, hcv4, hf⟩ := am_r_of hf
      refine am_blk hX 15 3 (And.intro rfl (Exists.intro s1 (Exists.intro (some (.inl v4)) (And.intro (tX9_isHalf l (d + 0) hcv4) (And.intro (fun hb => ?_) (fun hb => ?_))))))
      · have hf := am_if hf hb
        show X 33 [(0, .inr (.inr ((10, 0, 0), 215))), (1, .inl a1), (2, .inl a2)] [] s1
        obtain ⟨g5, hf⟩ := am_g_of hf
        refine am_blk hX 20 6 (And.intro rfl (And.intro rfl (And.intro g5 (And.intro (fun hb => ?_) (fun hb => ?_)))))
        · have hf := am_if hf hb
          show X 48 [(0, .inr (.inr ((10, 0, 0), 215))), (1, .inl a1), (2, .inl a2)] [] s1
          obtain ⟨s7, v6, hcv6, hf⟩ := am_c_of hf
          obtain ⟨s9, v8, hcv8, hf⟩ := am_c_of hf
          obtain ⟨v10, hcv10, hf⟩ := am_r_of hf
          refine am_jn hf (fun J75 => ∀ (x11 : Int32), J75 x11 = some (sE, rE) → X 75 [] [.inl x11] s9) ?_ ?_
          · intro x11 hf
            refine am_blk hX 43 1 (am_ri hf)
          · intro J75 hJ75 hf
            refine am_blk hX 28 12 (And.intro rfl (And.intro rfl (Exists.intro s7 (Exists.intro none (And.intro (tX9_lays l (d + 1) hcv6) (And.intro rfl (And.intro rfl (Exists.intro s9 (Exists.intro none (And.intro (tX9_acts l (d + 1) hcv8) (And.intro rfl (And.intro rfl (Exists.intro s9 (Exists.intro (some (.inl v10)) (And.intro (tX9_isBit l (d + 1) hcv10) (And.intro (fun hb => ?_) (fun hb => ?_)))))))))))))))))
            · have hf := am_it hf hb
              show X 74 [(0, .inr (.inr ((10, 0, 0), 215))), (1, .inl a1), (2, .inl a2)] [] s9
              refine am_blk hX 42 1 (?_)
              show X 75 [(0, .inr (.inr ((10, 0, 0), 215))), (1, .inl a1), (2, .inl a2)] [.inl (0 : Int32)] s9
              exact am_wk hX [] (hJ75 (0 : Int32) hf)
            · have hf := am_if hf hb
              show X 70 [(0, .inr (.inr ((10, 0, 0), 215))), (1, .inl a1), (2, .inl a2)] [] s9
              refine am_blk hX 40 2 (?_)
              show X 75 [(0, .inr (.inr ((10, 0, 0), 215))), (1, .inl a1), (2, .inl a2)] [.inl (1 : Int32)] s9
              exact am_wk hX [] (hJ75 (1 : Int32) hf)
        · have hf := am_it hf hb
          show X 45 [(0, .inr (.inr ((10, 0, 0), 215))), (1, .inl a1), (2, .inl a2)] [] s1
          refine am_blk hX 26 2 (am_ri hf)
      · have hf := am_it hf hb
        show X 30 [(0, .inr (.inr ((10, 0, 0), 215))), (1, .inl a1), (2, .inl a2)] [] s1
        exact am_wk hX [] (hJ30 hf)
def fX9_barred (s0 : AS) : Option (AS × Int32) :=
  am_let (am_si s0 215 0 (0 : Int32)) (fun (s1 : AS) => am_r (fX9_isMarch s1) (fun (v2 : Int32) => if v2 = 0 then (some (s1, (-2 : Int32))) else (am_c (fX9_lays s1) (fun (s4 : AS) (v3 : Unit) => some (s4, s4.1 215 24)))))
def kX9_barred : List (Nat × Instr × Nat) := [(0, .aload_n 0, 1), (1, .iconst 0, 1), (2, .putfield 80, 3), (5, .aload_n 0, 1), (6, .invokevirtual 251, 3), (9, .ifCond .ne 6, 3), (12, .bipush (-2), 2), (14, .ireturn, 1), (15, .aload_n 0, 1), (16, .invokevirtual 336, 3), (19, .aload_n 0, 1), (20, .getfield 259, 3), (23, .ireturn, 1)]
theorem qX9_barred : ∀ q ∈ kX9_barred, decode mX9_barred.2.2.1 q.1 = .ok (q.2.1, q.2.2) ∧ am_iok mX9_barred.2.2.2.1 q.1 q.2.1 q.2.2 = true := by decide +kernel
set_option maxRecDepth 100000 in
theorem wX9_barred : Cond.code mX9_barred.2.1 mX9_barred.2.2.1 mX9_barred.2.2.2.1 mX9_barred.2.2.2.2.1 ∈ am_T := List.mem_filter.mpr ⟨List.mem_of_getElem? (i := 1986) rfl, rfl⟩
set_option maxHeartbeats 4000000 in
set_option maxRecDepth 100000 in
theorem tX9_barred (l : Launch) (d : Nat) {s0 : AS} {sE : AS} {rE : Int32} (hf : fX9_barred s0 = some (sE, rE)) : am_Ct l (d + 2) mX9_barred [.inr (.inr ((10, 0, 0), 215))] s0 sE (some (.inl rE)) := by
  refine am_sim l (d + 1) (code := kX9_barred) (by decide +kernel) wX9_barred qX9_barred (Nat.le_of_ble_eq_true rfl) ?_
  intro X hX
  show X 0 [(0, .inr (.inr ((10, 0, 0), 215)))] [] s0
  unfold fX9_barred at hf
  refine am_blk hX 0 3 (And.intro rfl (am_nl (Z := fun s1 => X 5 [(0, .inr (.inr ((10, 0, 0), 215)))] [] s1) hf (fun s1 hf => ?_)))
  obtain ⟨v2, hcv2, hf⟩ := am_r_of hf
  refine am_blk hX 3 3 (And.intro rfl (And.intro rfl (Exists.intro s1 (Exists.intro (some (.inl v2)) (And.intro (tX9_isMarch l (d + 0) hcv2) (And.intro (fun hb => ?_) (fun hb => ?_)))))))
  · have hf := am_if hf hb
    show X 15 [(0, .inr (.inr ((10, 0, 0), 215)))] [] s1
    obtain ⟨s4, v3, hcv3, hf⟩ := am_c_of hf
    refine am_blk hX 8 5 (And.intro rfl (And.intro rfl (Exists.intro s4 (Exists.intro none (And.intro (tX9_lays l (d + 0) hcv3) (And.intro rfl (am_ri hf)))))))
  · have hf := am_it hf hb
    show X 12 [(0, .inr (.inr ((10, 0, 0), 215)))] [] s1
    refine am_blk hX 6 2 (am_ri hf)
def fX9_begins (s0 : AS) : Option (AS × Unit) :=
  am_let (am_si s0 215 12 (0 : Int32)) (fun (s1 : AS) => am_let (am_si s1 215 13 (-1 : Int32)) (fun (s2 : AS) => am_let (am_si s2 215 7 (0 : Int32)) (fun (s3 : AS) => am_c (fX9_goesOn s3) (fun (s5 : AS) (v4 : Unit) => some (s5, ())))))
def kX9_begins : List (Nat × Instr × Nat) := [(0, .aload_n 0, 1), (1, .iconst 0, 1), (2, .putfield 132, 3), (5, .aload_n 0, 1), (6, .iconst (-1), 1), (7, .putfield 135, 3), (10, .aload_n 0, 1), (11, .iconst 0, 1), (12, .putfield 104, 3), (15, .aload_n 0, 1), (16, .invokevirtual 142, 3), (19, .return_, 1)]
theorem qX9_begins : ∀ q ∈ kX9_begins, decode mX9_begins.2.2.1 q.1 = .ok (q.2.1, q.2.2) ∧ am_iok mX9_begins.2.2.2.1 q.1 q.2.1 q.2.2 = true := by decide +kernel
set_option maxRecDepth 100000 in
theorem wX9_begins : Cond.code mX9_begins.2.1 mX9_begins.2.2.1 mX9_begins.2.2.2.1 mX9_begins.2.2.2.2.1 ∈ am_T := List.mem_filter.mpr ⟨List.mem_of_getElem? (i := 1492) rfl, rfl⟩
set_option maxHeartbeats 4000000 in
set_option maxRecDepth 100000 in
theorem tX9_begins (l : Launch) (d : Nat) {s0 : AS} {sE : AS} {rE : Unit} (hf : fX9_begins s0 = some (sE, rE)) : am_Ct l (d + 3) mX9_begins [.inr (.inr ((10, 0, 0), 215))] s0 sE none := by
  refine am_sim l (d + 2) (code := kX9_begins) (by decide +kernel) wX9_begins qX9_begins (Nat.le_of_ble_eq_true rfl) ?_
  intro X hX
  show X 0 [(0, .inr (.inr ((10, 0, 0), 215)))] [] s0
  unfold fX9_begins at hf
  refine am_blk hX 0 3 (And.intro rfl (am_nl (Z := fun s1 => X 5 [(0, .inr (.inr ((10, 0, 0), 215)))] [] s1) hf (fun s1 hf => ?_)))
  refine am_blk hX 3 3 (And.intro rfl (am_nl (Z := fun s2 => X 10 [(0, .inr (.inr ((10, 0, 0), 215)))] [] s2) hf (fun s2 hf => ?_)))
  refine am_blk hX 6 3 (And.intro rfl (am_nl (Z := fun s3 => X 15 [(0, .inr (.inr ((10, 0, 0), 215)))] [] s3) hf (fun s3 hf => ?_)))
  obtain ⟨s5, v4, hcv4, hf⟩ := am_c_of hf
  refine am_blk hX 9 3 (And.intro rfl (And.intro rfl (Exists.intro s5 (Exists.intro none (And.intro (tX9_goesOn l (d + 0) hcv4) (And.intro rfl (am_rv hf)))))))
def fX9_boards_L24 (a1 : Int32) (s4 : AS) : Nat → Int32 → Int32 → Option (AS × Int32)
  | 0, _, _ => none
  | n24 + 1, x5, x6 =>
    am_r (fX9_people s4) (fun (v7 : Int32) => if v7 ≤ x6 then (some (s4, x5)) else (am_g (¬ (a1 < 0 ∨ 61 ≤ a1.toNatClampNeg)) (am_r (fX9_isBit (s4.1 230 a1.toNatClampNeg) x6) (fun (v9 : Int32) => am_let (fun (x10 : Int32) => am_let (x5 ||| x10) (fun (x11 : Int32) => am_let (x6 + (1 : Int32)) (fun (x12 : Int32) => fX9_boards_L24 a1 s4 n24 x11 x12))) (fun J57 => if v9 = 0 then (J57 (0 : Int32)) else (am_r (fX9_reasonOf s4 x6) (fun (v13 : Int32) => J57 ((1 : Int32) <<< (v13 &&& 31)))))))))
def fX9_boards (s0 : AS) (a1 : Int32) : Option (AS × Int32) :=
  am_let (am_si s0 215 0 (0 : Int32)) (fun (s1 : AS) => am_r (fX9_isStep s1 a1) (fun (v2 : Int32) => if v2 = 0 then (some (s1, (-2 : Int32))) else (am_c (fX9_laysNow s1) (fun (s4 : AS) (v3 : Unit) => fX9_boards_L24 a1 s4 am_fu (0 : Int32) (0 : Int32)))))
def kX9_boards : List (Nat × Instr × Nat) := [(0, .aload_n 0, 1), (1, .iconst 0, 1), (2, .putfield 80, 3), (5, .aload_n 0, 1), (6, .iload_n 1, 1), (7, .invokevirtual 355, 3), (10, .ifCond .ne 6, 3), (13, .bipush (-2), 2), (15, .ireturn, 1), (16, .aload_n 0, 1), (17, .invokevirtual 358, 3), (20, .iconst 0, 1), (21, .istore_n 2, 1), (22, .iconst 0, 1), (23, .istore_n 3, 1), (24, .iload_n 3, 1), (25, .aload_n 0, 1), (26, .invokevirtual 248, 3), (29, .if_icmp .ge 36, 3), (32, .iload_n 2, 1), (33, .aload_n 0, 1), (34, .getfield 59, 3), (37, .iload_n 1, 1), (38, .iaload, 1), (39, .iload_n 3, 1), (40, .invokestatic 280, 3), (43, .ifCond .eq 13, 3), (46, .iconst 1, 1), (47, .aload_n 0, 1), (48, .iload_n 3, 1), (49, .invokevirtual 287, 3), (52, .ishl, 1), (53, .goto 4, 3), (56, .iconst 0, 1), (57, .ior, 1), (58, .istore_n 2, 1), (59, .iinc 3 1, 3), (62, .goto (-38), 3), (65, .iload_n 2, 1), (66, .ireturn, 1)]
theorem qX9_boards : ∀ q ∈ kX9_boards, decode mX9_boards.2.2.1 q.1 = .ok (q.2.1, q.2.2) ∧ am_iok mX9_boards.2.2.2.1 q.1 q.2.1 q.2.2 = true := by decide +kernel
set_option maxRecDepth 100000 in
theorem wX9_boards : Cond.code mX9_boards.2.1 mX9_boards.2.2.1 mX9_boards.2.2.2.1 mX9_boards.2.2.2.2.1 ∈ am_T := List.mem_filter.mpr ⟨List.mem_of_getElem? (i := 1753) rfl, rfl⟩
set_option maxHeartbeats 4000000 in
set_option maxRecDepth 100000 in
theorem tX9_boards (l : Launch) (d : Nat) {s0 : AS} {a1 : Int32} {sE : AS} {rE : Int32} (hf : fX9_boards s0 a1 = some (sE, rE)) : am_Ct l (d + 6) mX9_boards [.inr (.inr ((10, 0, 0), 215)), .inl a1] s0 sE (some (.inl rE)) := by
  refine am_sim l (d + 5) (code := kX9_boards) (by decide +kernel) wX9_boards qX9_boards (Nat.le_of_ble_eq_true rfl) ?_
  intro X hX
  show X 0 [(0, .inr (.inr ((10, 0, 0), 215))), (1, .inl a1)] [] s0
  unfold fX9_boards at hf
  refine am_blk hX 0 3 (And.intro rfl (am_nl (Z := fun s1 => X 5 [(0, .inr (.inr ((10, 0, 0), 215))), (1, .inl a1)] [] s1) hf (fun s1 hf => ?_)))
  obtain ⟨v2, hcv2, hf⟩ := am_r_of hf
  refine am_blk hX 3 4 (And.intro rfl (And.intro rfl (Exists.intro s1 (Exists.intro (some (.inl v2)) (And.intro (tX9_isStep l (d + 3) hcv2) (And.intro (fun hb => ?_) (fun hb => ?_)))))))
  · have hf := am_if hf hb
    show X 16 [(0, .inr (.inr ((10, 0, 0), 215))), (1, .inl a1)] [] s1
    obtain ⟨s4, v3, hcv3, hf⟩ := am_c_of hf
    have hL24 : ∀ (n24 : Nat) (x5 : Int32) (x6 : Int32), fX9_boards_L24 a1 s4 n24 x5 x6 = some (sE, rE) → X 24 [(0, .inr (.inr ((10, 0, 0), 215))), (1, .inl a1), (2, .inl x5), (3, .inl x6)] [] s4 := by
      intro n24
      induction n24 with
      | zero => intro x5 x6 hf; exact am_no (show none = some _ from hf)
      | succ n24 ih24 =>
        intro x5 x6 hf
        obtain ⟨v7, hcv7, hf⟩ := am_r_of hf
        refine am_blk hX 15 4 (And.intro rfl (And.intro rfl (Exists.intro s4 (Exists.intro (some (.inl v7)) (And.intro (tX9_people l (d + 4) hcv7) (And.intro (fun hb => ?_) (fun hb => ?_)))))))
        · have hf := am_it hf hb
          show X 65 [(0, .inr (.inr ((10, 0, 0), 215))), (1, .inl a1), (2, .inl x5), (3, .inl x6)] [] s4
          refine am_blk hX 38 2 (am_ri hf)
        · have hf := am_if hf hb
          show X 32 [(0, .inr (.inr ((10, 0, 0), 215))), (1, .inl a1), (2, .inl x5), (3, .inl x6)] [] s4
          obtain ⟨g8, hf⟩ := am_g_of hf
          obtain ⟨v9, hcv9, hf⟩ := am_r_of hf
          refine am_jn hf (fun J57 => ∀ (x10 : Int32), J57 x10 = some (sE, rE) → X 57 [(0, .inr (.inr ((10, 0, 0), 215))), (1, .inl a1), (3, .inl x6)] [.inl x10, .inl x5] s4) ?_ ?_
          · intro x10 hf
            refine am_blk hX 34 2 (am_nl (Z := fun x11 => X 59 [(2, .inl x11), (0, .inr (.inr ((10, 0, 0), 215))), (1, .inl a1), (3, .inl x6)] [] s4) hf (fun x11 hf => ?_))
            refine am_blk hX 36 1 (am_nl (Z := fun x12 => X 62 [(3, .inl x12), (2, .inl x11), (0, .inr (.inr ((10, 0, 0), 215))), (1, .inl a1)] [] s4) hf (fun x12 hf => ?_))
            refine am_blk hX 37 1 (?_)
            show X 24 [(3, .inl x12), (2, .inl x11), (0, .inr (.inr ((10, 0, 0), 215))), (1, .inl a1)] [] s4
            exact am_wk hX [2, 3, 1, 0] (ih24 x11 x12 hf)
          · intro J57 hJ57 hf
            refine am_blk hX 19 8 (And.intro rfl (And.intro rfl (And.intro g8 (And.intro rfl (Exists.intro s4 (Exists.intro (some (.inl v9)) (And.intro (tX9_isBit l (d + 4) hcv9) (And.intro (fun hb => ?_) (fun hb => ?_)))))))))
            · have hf := am_it hf hb
              show X 56 [(0, .inr (.inr ((10, 0, 0), 215))), (1, .inl a1), (2, .inl x5), (3, .inl x6)] [.inl x5] s4
              refine am_blk hX 33 1 (?_)
              show X 57 [(0, .inr (.inr ((10, 0, 0), 215))), (1, .inl a1), (2, .inl x5), (3, .inl x6)] [.inl (0 : Int32), .inl x5] s4
              exact am_wk hX [0, 1, 3] (hJ57 (0 : Int32) hf)
            · have hf := am_if hf hb
              show X 46 [(0, .inr (.inr ((10, 0, 0), 215))), (1, .inl a1), (2, .inl x5), (3, .inl x6)] [.inl x5] s4
              obtain ⟨v13, hcv13, hf⟩ := am_r_of hf
              refine am_blk hX 27 6 (And.intro rfl (And.intro rfl (Exists.intro s4 (Exists.intro (some (.inl v13)) (And.intro (tX9_reasonOf l (d + 4) hcv13) (?_))))))
              show X 57 [(0, .inr (.inr ((10, 0, 0), 215))), (1, .inl a1), (2, .inl x5), (3, .inl x6)] [.inl ((1 : Int32) <<< (v13 &&& 31)), .inl x5] s4
              exact am_wk hX [0, 1, 3] (hJ57 ((1 : Int32) <<< (v13 &&& 31)) hf)
    refine am_blk hX 9 6 (And.intro rfl (And.intro rfl (Exists.intro s4 (Exists.intro none (And.intro (tX9_laysNow l (d + 0) hcv3) (?_))))))
    show X 24 [(3, .inl (0 : Int32)), (2, .inl (0 : Int32)), (0, .inr (.inr ((10, 0, 0), 215))), (1, .inl a1)] [] s4
    exact am_wk hX [2, 3, 1, 0] (hL24 am_fu (0 : Int32) (0 : Int32) hf)
  · have hf := am_it hf hb
    show X 13 [(0, .inr (.inr ((10, 0, 0), 215))), (1, .inl a1)] [] s1
    refine am_blk hX 7 2 (am_ri hf)
