/-! METHODS, printed by gen.py. -/
def fX9_falls_L11 (a1 : Int32) (a2 : Int32) (J157 : AS → Int32 → Option (AS × Unit)) : Nat → AS → Int32 → Int32 → Option (AS × Unit)
  | 0, _, _, _ => none
  | n11 + 1, s5, x6, x7 =>
    am_r (fX9_people s5) (fun (v8 : Int32) => if v8 ≤ x7 then (J157 s5 x6) else (am_let (fun (s9 : AS) (x10 : Int32) => am_let (x7 + (1 : Int32)) (fun (x11 : Int32) => fX9_falls_L11 a1 a2 J157 n11 s9 x10 x11)) (fun J151 => if x7 = (s5.1 215 30) then (J151 s5 x6) else (am_r (fX9_isBit (s5.1 215 43) x7) (fun (v12 : Int32) => if v12 = 0 then (am_g (¬ (((5 : Int32) * x7) < 0 ∨ 200 ≤ ((5 : Int32) * x7).toNatClampNeg)) (if (s5.1 224 (((5 : Int32) * x7).toNatClampNeg)) = a2 then (am_r (fX9_reasonOf s5 x7) (fun (v14 : Int32) => am_r (fX9_isBit (s5.1 215 23) v14) (fun (v15 : Int32) => if v15 = 0 then (am_g (¬ ((((5 : Int32) * x7) + (3 : Int32)) < 0 ∨ 200 ≤ (((5 : Int32) * x7) + (3 : Int32)).toNatClampNeg)) (am_r (fX9_sizeOf (s5.1 215 42)) (fun (v17 : Int32) => if (s5.1 224 ((((5 : Int32) * x7) + (3 : Int32)).toNatClampNeg)) ≤ v17 then (am_let (am_si s5 215 42 ((s5.1 215 42) ||| ((1 : Int32) <<< (x7 &&& 31)))) (fun (s18 : AS) => am_let (am_si s18 215 43 ((s18.1 215 43) ||| ((1 : Int32) <<< (x7 &&& 31)))) (fun (s19 : AS) => am_g (¬ (x7 < 0 ∨ 8 ≤ x7.toNatClampNeg)) (am_let (am_si s19 233 (x7.toNatClampNeg) a1) (fun (s21 : AS) => am_g (¬ (x7 < 0 ∨ 8 ≤ x7.toNatClampNeg)) (am_let (am_si s21 235 (x7.toNatClampNeg) (s21.1 215 44)) (fun (s23 : AS) => am_let (am_si s23 215 44 ((s23.1 215 44) + (1 : Int32))) (fun (s24 : AS) => J151 s24 (1 : Int32))))))))) else (J151 s5 x6)))) else (J151 s5 x6)))) else (J151 s5 x6))) else (J151 s5 x6))))))
def fX9_falls_L2 (a1 : Int32) (a2 : Int32) : Nat → AS → Int32 → Option (AS × Unit)
  | 0, _, _ => none
  | n2 + 1, s1, x2 =>
    if x2 = 0 then (some (s1, ())) else (am_let (fun (s3 : AS) (x4 : Int32) => fX9_falls_L2 a1 a2 n2 s3 x4) (fun J157 => fX9_falls_L11 a1 a2 J157 am_fu s1 (0 : Int32) (0 : Int32)))
def fX9_falls (s0 : AS) (a1 : Int32) (a2 : Int32) : Option (AS × Unit) :=
  fX9_falls_L2 a1 a2 am_fu s0 (1 : Int32)
def kX9_falls : List (Nat × Instr × Nat) := [(0, .iconst 1, 1), (1, .istore_n 3, 1), (2, .iload_n 3, 1), (3, .ifCond .eq 157, 3), (6, .iconst 0, 1), (7, .istore_n 3, 1), (8, .iconst 0, 1), (9, .istore 4, 2), (11, .iload 4, 2), (13, .aload_n 0, 1), (14, .invokevirtual 248, 3), (17, .if_icmp .ge 140, 3), (20, .iload 4, 2), (22, .aload_n 0, 1), (23, .getfield 271, 3), (26, .if_icmp .eq 125, 3), (29, .aload_n 0, 1), (30, .getfield 284, 3), (33, .iload 4, 2), (35, .invokestatic 280, 3), (38, .ifCond .ne 113, 3), (41, .aload_n 0, 1), (42, .getfield 40, 3), (45, .iconst 5, 1), (46, .iload 4, 2), (48, .imul, 1), (49, .iaload, 1), (50, .iload_n 2, 1), (51, .if_icmp .ne 100, 3), (54, .aload_n 0, 1), (55, .getfield 256, 3), (58, .aload_n 0, 1), (59, .iload 4, 2), (61, .invokevirtual 287, 3), (64, .invokestatic 280, 3), (67, .ifCond .ne 84, 3), (70, .aload_n 0, 1), (71, .getfield 40, 3), (74, .iconst 5, 1), (75, .iload 4, 2), (77, .imul, 1), (78, .iconst 3, 1), (79, .iadd, 1), (80, .iaload, 1), (81, .aload_n 0, 1), (82, .getfield 290, 3), (85, .invokestatic 293, 3), (88, .if_icmp .le 6, 3), (91, .goto 60, 3), (94, .aload_n 0, 1), (95, .dup, 1), (96, .getfield 290, 3), (99, .iconst 1, 1), (100, .iload 4, 2), (102, .ishl, 1), (103, .ior, 1), (104, .putfield 290, 3), (107, .aload_n 0, 1), (108, .dup, 1), (109, .getfield 284, 3), (112, .iconst 1, 1), (113, .iload 4, 2), (115, .ishl, 1), (116, .ior, 1), (117, .putfield 284, 3), (120, .aload_n 0, 1), (121, .getfield 68, 3), (124, .iload 4, 2), (126, .iload_n 1, 1), (127, .iastore, 1), (128, .aload_n 0, 1), (129, .getfield 74, 3), (132, .iload 4, 2), (134, .aload_n 0, 1), (135, .getfield 296, 3), (138, .iastore, 1), (139, .aload_n 0, 1), (140, .dup, 1), (141, .getfield 296, 3), (144, .iconst 1, 1), (145, .iadd, 1), (146, .putfield 296, 3), (149, .iconst 1, 1), (150, .istore_n 3, 1), (151, .iinc 4 1, 3), (154, .goto (-143), 3), (157, .goto (-155), 3), (160, .return_, 1)]
theorem qX9_falls : ∀ q ∈ kX9_falls, decode mX9_falls.2.2.1 q.1 = .ok (q.2.1, q.2.2) ∧ am_iok mX9_falls.2.2.2.1 q.1 q.2.1 q.2.2 = true := by decide +kernel
set_option maxRecDepth 100000 in
theorem wX9_falls : Cond.code mX9_falls.2.1 mX9_falls.2.2.1 mX9_falls.2.2.2.1 mX9_falls.2.2.2.2.1 ∈ am_T := List.mem_filter.mpr ⟨List.mem_of_getElem? (i := 1675) rfl, rfl⟩
set_option maxHeartbeats 4000000 in
set_option maxRecDepth 100000 in
theorem tX9_falls (l : Launch) (d : Nat) {s0 : AS} {a1 : Int32} {a2 : Int32} {sE : AS} {rE : Unit} (hf : fX9_falls s0 a1 a2 = some (sE, rE)) : am_Ct l (d + 2) mX9_falls [.inr (.inr ((10, 0, 0), 215)), .inl a1, .inl a2] s0 sE none := by
  refine am_sim l (d + 1) (code := kX9_falls) (by decide +kernel) wX9_falls qX9_falls (Nat.le_of_ble_eq_true rfl) ?_
  intro X hX
  show X 0 [(0, .inr (.inr ((10, 0, 0), 215))), (1, .inl a1), (2, .inl a2)] [] s0
  unfold fX9_falls at hf
  have hL2 : ∀ (n2 : Nat) (s1 : AS) (x2 : Int32), fX9_falls_L2 a1 a2 n2 s1 x2 = some (sE, rE) → X 2 [(0, .inr (.inr ((10, 0, 0), 215))), (1, .inl a1), (2, .inl a2), (3, .inl x2)] [] s1 := by
    intro n2
    induction n2 with
    | zero => intro s1 x2 hf; exact am_no (show none = some _ from hf)
    | succ n2 ih2 =>
      intro s1 x2 hf
      refine am_blk hX 2 2 (And.intro (fun hb => ?_) (fun hb => ?_))
      · have hf := am_it hf hb
        show X 160 [(0, .inr (.inr ((10, 0, 0), 215))), (1, .inl a1), (2, .inl a2), (3, .inl x2)] [] s1
        refine am_blk hX 87 1 (And.intro rfl (am_rv hf))
      · have hf := am_if hf hb
        show X 6 [(0, .inr (.inr ((10, 0, 0), 215))), (1, .inl a1), (2, .inl a2), (3, .inl x2)] [] s1
        refine am_jn hf (fun J157 => ∀ (s3 : AS) (x4 : Int32), J157 s3 x4 = some (sE, rE) → X 157 [(0, .inr (.inr ((10, 0, 0), 215))), (1, .inl a1), (2, .inl a2), (3, .inl x4)] [] s3) ?_ ?_
        · intro s3 x4 hf
          refine am_blk hX 86 1 (?_)
          show X 2 [(0, .inr (.inr ((10, 0, 0), 215))), (1, .inl a1), (2, .inl a2), (3, .inl x4)] [] s3
          exact am_wk hX [0, 1, 2, 3] (ih2 s3 x4 hf)
        · intro J157 hJ157 hf
          have hL11 : ∀ (n11 : Nat) (s5 : AS) (x6 : Int32) (x7 : Int32), fX9_falls_L11 a1 a2 J157 n11 s5 x6 x7 = some (sE, rE) → X 11 [(0, .inr (.inr ((10, 0, 0), 215))), (1, .inl a1), (2, .inl a2), (3, .inl x6), (4, .inl x7)] [] s5 := by
            intro n11
            induction n11 with
            | zero => intro s5 x6 x7 hf; exact am_no (show none = some _ from hf)
            | succ n11 ih11 =>
              intro s5 x6 x7 hf
              obtain ⟨v8, hcv8, hf⟩ := am_r_of hf
              refine am_blk hX 8 4 (And.intro rfl (And.intro rfl (Exists.intro s5 (Exists.intro (some (.inl v8)) (And.intro (tX9_people l (d + 0) hcv8) (And.intro (fun hb => ?_) (fun hb => ?_)))))))
              · have hf := am_it hf hb
                show X 157 [(0, .inr (.inr ((10, 0, 0), 215))), (1, .inl a1), (2, .inl a2), (3, .inl x6), (4, .inl x7)] [] s5
                exact am_wk hX [0, 1, 2, 3] (hJ157 s5 x6 hf)
              · have hf := am_if hf hb
                show X 20 [(0, .inr (.inr ((10, 0, 0), 215))), (1, .inl a1), (2, .inl a2), (3, .inl x6), (4, .inl x7)] [] s5
                refine am_jn hf (fun J151 => ∀ (s9 : AS) (x10 : Int32), J151 s9 x10 = some (sE, rE) → X 151 [(0, .inr (.inr ((10, 0, 0), 215))), (1, .inl a1), (2, .inl a2), (3, .inl x10), (4, .inl x7)] [] s9) ?_ ?_
                · intro s9 x10 hf
                  refine am_blk hX 84 1 (am_nl (Z := fun x11 => X 154 [(4, .inl x11), (0, .inr (.inr ((10, 0, 0), 215))), (1, .inl a1), (2, .inl a2), (3, .inl x10)] [] s9) hf (fun x11 hf => ?_))
                  refine am_blk hX 85 1 (?_)
                  show X 11 [(4, .inl x11), (0, .inr (.inr ((10, 0, 0), 215))), (1, .inl a1), (2, .inl a2), (3, .inl x10)] [] s9
                  exact am_wk hX [1, 2, 3, 4, 0] (ih11 s9 x10 x11 hf)
                · intro J151 hJ151 hf
                  refine am_blk hX 12 4 (And.intro rfl (And.intro (fun hb => ?_) (fun hb => ?_)))
                  · have hf := am_it hf hb
                    show X 151 [(0, .inr (.inr ((10, 0, 0), 215))), (1, .inl a1), (2, .inl a2), (3, .inl x6), (4, .inl x7)] [] s5
                    exact am_wk hX [0, 1, 2, 3, 4] (hJ151 s5 x6 hf)
                  · have hf := am_if hf hb
                    show X 29 [(0, .inr (.inr ((10, 0, 0), 215))), (1, .inl a1), (2, .inl a2), (3, .inl x6), (4, .inl x7)] [] s5
                    obtain ⟨v12, hcv12, hf⟩ := am_r_of hf
                    refine am_blk hX 16 5 (And.intro rfl (And.intro rfl (Exists.intro s5 (Exists.intro (some (.inl v12)) (And.intro (tX9_isBit l (d + 0) hcv12) (And.intro (fun hb => ?_) (fun hb => ?_)))))))
                    · have hf := am_if hf hb
                      show X 151 [(0, .inr (.inr ((10, 0, 0), 215))), (1, .inl a1), (2, .inl a2), (3, .inl x6), (4, .inl x7)] [] s5
                      exact am_wk hX [0, 1, 2, 3, 4] (hJ151 s5 x6 hf)
                    · have hf := am_it hf hb
                      show X 41 [(0, .inr (.inr ((10, 0, 0), 215))), (1, .inl a1), (2, .inl a2), (3, .inl x6), (4, .inl x7)] [] s5
                      obtain ⟨g13, hf⟩ := am_g_of hf
                      refine am_blk hX 21 8 (And.intro rfl (And.intro rfl (And.intro g13 (And.intro (fun hb => ?_) (fun hb => ?_)))))
                      · have hf := am_if hf hb
                        show X 151 [(0, .inr (.inr ((10, 0, 0), 215))), (1, .inl a1), (2, .inl a2), (3, .inl x6), (4, .inl x7)] [] s5
                        exact am_wk hX [0, 1, 2, 3, 4] (hJ151 s5 x6 hf)
                      · have hf := am_it hf hb
                        show X 54 [(0, .inr (.inr ((10, 0, 0), 215))), (1, .inl a1), (2, .inl a2), (3, .inl x6), (4, .inl x7)] [] s5
                        obtain ⟨v14, hcv14, hf⟩ := am_r_of hf
                        obtain ⟨v15, hcv15, hf⟩ := am_r_of hf
                        refine am_blk hX 29 7 (And.intro rfl (And.intro rfl (And.intro rfl (Exists.intro s5 (Exists.intro (some (.inl v14)) (And.intro (tX9_reasonOf l (d + 0) hcv14) (And.intro rfl (Exists.intro s5 (Exists.intro (some (.inl v15)) (And.intro (tX9_isBit l (d + 0) hcv15) (And.intro (fun hb => ?_) (fun hb => ?_))))))))))))
                        · have hf := am_if hf hb
                          show X 151 [(0, .inr (.inr ((10, 0, 0), 215))), (1, .inl a1), (2, .inl a2), (3, .inl x6), (4, .inl x7)] [] s5
                          exact am_wk hX [0, 1, 2, 3, 4] (hJ151 s5 x6 hf)
                        · have hf := am_it hf hb
                          show X 70 [(0, .inr (.inr ((10, 0, 0), 215))), (1, .inl a1), (2, .inl a2), (3, .inl x6), (4, .inl x7)] [] s5
                          obtain ⟨g16, hf⟩ := am_g_of hf
                          obtain ⟨v17, hcv17, hf⟩ := am_r_of hf
                          refine am_blk hX 36 12 (And.intro rfl (And.intro rfl (And.intro g16 (And.intro rfl (And.intro rfl (Exists.intro s5 (Exists.intro (some (.inl v17)) (And.intro (tX9_sizeOf l (d + 0) hcv17) (And.intro (fun hb => ?_) (fun hb => ?_))))))))))
                          · have hf := am_it hf hb
                            show X 94 [(0, .inr (.inr ((10, 0, 0), 215))), (1, .inl a1), (2, .inl a2), (3, .inl x6), (4, .inl x7)] [] s5
                            refine am_blk hX 49 8 (And.intro rfl (And.intro rfl (am_nl (Z := fun s18 => X 107 [(0, .inr (.inr ((10, 0, 0), 215))), (1, .inl a1), (2, .inl a2), (3, .inl x6), (4, .inl x7)] [] s18) hf (fun s18 hf => ?_))))
                            refine am_blk hX 57 8 (And.intro rfl (And.intro rfl (am_nl (Z := fun s19 => X 120 [(0, .inr (.inr ((10, 0, 0), 215))), (1, .inl a1), (2, .inl a2), (3, .inl x6), (4, .inl x7)] [] s19) hf (fun s19 hf => ?_))))
                            obtain ⟨g20, hf⟩ := am_g_of hf
                            refine am_blk hX 65 5 (And.intro rfl (And.intro rfl (And.intro g20 (am_nl (Z := fun s21 => X 128 [(0, .inr (.inr ((10, 0, 0), 215))), (1, .inl a1), (2, .inl a2), (3, .inl x6), (4, .inl x7)] [] s21) hf (fun s21 hf => ?_)))))
                            obtain ⟨g22, hf⟩ := am_g_of hf
                            refine am_blk hX 70 6 (And.intro rfl (And.intro rfl (And.intro rfl (And.intro g22 (am_nl (Z := fun s23 => X 139 [(0, .inr (.inr ((10, 0, 0), 215))), (1, .inl a1), (2, .inl a2), (3, .inl x6), (4, .inl x7)] [] s23) hf (fun s23 hf => ?_))))))
                            refine am_blk hX 76 6 (And.intro rfl (And.intro rfl (am_nl (Z := fun s24 => X 149 [(0, .inr (.inr ((10, 0, 0), 215))), (1, .inl a1), (2, .inl a2), (3, .inl x6), (4, .inl x7)] [] s24) hf (fun s24 hf => ?_))))
                            refine am_blk hX 82 2 (?_)
                            show X 151 [(3, .inl (1 : Int32)), (0, .inr (.inr ((10, 0, 0), 215))), (1, .inl a1), (2, .inl a2), (4, .inl x7)] [] s24
                            exact am_wk hX [1, 2, 3, 0, 4] (hJ151 s24 (1 : Int32) hf)
                          · have hf := am_if hf hb
                            show X 91 [(0, .inr (.inr ((10, 0, 0), 215))), (1, .inl a1), (2, .inl a2), (3, .inl x6), (4, .inl x7)] [] s5
                            refine am_blk hX 48 1 (?_)
                            show X 151 [(0, .inr (.inr ((10, 0, 0), 215))), (1, .inl a1), (2, .inl a2), (3, .inl x6), (4, .inl x7)] [] s5
                            exact am_wk hX [0, 1, 2, 3, 4] (hJ151 s5 x6 hf)
          refine am_blk hX 4 4 (?_)
          show X 11 [(4, .inl (0 : Int32)), (3, .inl (0 : Int32)), (0, .inr (.inr ((10, 0, 0), 215))), (1, .inl a1), (2, .inl a2)] [] s1
          exact am_wk hX [2, 3, 4, 1, 0] (hL11 am_fu s1 (0 : Int32) (0 : Int32) hf)
  refine am_blk hX 0 2 (?_)
  show X 2 [(3, .inl (1 : Int32)), (0, .inr (.inr ((10, 0, 0), 215))), (1, .inl a1), (2, .inl a2)] [] s0
  exact am_wk hX [1, 2, 3, 0] (hL2 am_fu s0 (1 : Int32) hf)
def fX9_wantsOf (s0 : AS) (a1 : Int32) : Option Int32 :=
  am_g (¬ ((((5 : Int32) * a1) + (1 : Int32)) < 0 ∨ 200 ≤ (((5 : Int32) * a1) + (1 : Int32)).toNatClampNeg)) (some (s0.1 224 ((((5 : Int32) * a1) + (1 : Int32)).toNatClampNeg)))
def kX9_wantsOf : List (Nat × Instr × Nat) := [(0, .aload_n 0, 1), (1, .getfield 40, 3), (4, .iconst 5, 1), (5, .iload_n 1, 1), (6, .imul, 1), (7, .iconst 1, 1), (8, .iadd, 1), (9, .iaload, 1), (10, .ireturn, 1)]
theorem qX9_wantsOf : ∀ q ∈ kX9_wantsOf, decode mX9_wantsOf.2.2.1 q.1 = .ok (q.2.1, q.2.2) ∧ am_iok mX9_wantsOf.2.2.2.1 q.1 q.2.1 q.2.2 = true := by decide +kernel
set_option maxRecDepth 100000 in
theorem wX9_wantsOf : Cond.code mX9_wantsOf.2.1 mX9_wantsOf.2.2.1 mX9_wantsOf.2.2.2.1 mX9_wantsOf.2.2.2.2.1 ∈ am_T := List.mem_filter.mpr ⟨List.mem_of_getElem? (i := 1690) rfl, rfl⟩
set_option maxHeartbeats 4000000 in
set_option maxRecDepth 100000 in
theorem tX9_wantsOf (l : Launch) (d : Nat) {s0 : AS} {a1 : Int32} {rE : Int32} (hf : fX9_wantsOf s0 a1 = some rE) : am_Ct l (d + 1) mX9_wantsOf [.inr (.inr ((10, 0, 0), 215)), .inl a1] s0 s0 (some (.inl rE)) := by
  refine am_sim l (d + 0) (code := kX9_wantsOf) (by decide +kernel) wX9_wantsOf qX9_wantsOf (Nat.le_of_ble_eq_true rfl) ?_
  intro X hX
  show X 0 [(0, .inr (.inr ((10, 0, 0), 215))), (1, .inl a1)] [] s0
  unfold fX9_wantsOf at hf
  obtain ⟨g1, hf⟩ := am_g_of hf
  refine am_blk hX 0 9 (And.intro rfl (And.intro rfl (And.intro g1 (am_rpi hf))))
def fX9_leave_L2 (a1 : Int32) (a2 : Int32) : Nat → AS → Int32 → Option (AS × Unit)
  | 0, _, _ => none
  | n2 + 1, s1, x2 =>
    am_r (fX9_people s1) (fun (v3 : Int32) => if v3 ≤ x2 then (some (s1, ())) else (am_r (fX9_isBit (s1.1 215 42) x2) (fun (v4 : Int32) => am_let (fun (s5 : AS) => am_let (x2 + (1 : Int32)) (fun (x6 : Int32) => fX9_leave_L2 a1 a2 n2 s5 x6)) (fun J54 => if v4 = 0 then (J54 s1) else (am_r (fX9_wantsOf s1 x2) (fun (v7 : Int32) => if v7 = a2 then (am_let (am_si s1 215 42 ((s1.1 215 42) &&& (((1 : Int32) <<< (x2 &&& 31)) ^^^ (-1 : Int32)))) (fun (s8 : AS) => am_g (¬ (x2 < 0 ∨ 8 ≤ x2.toNatClampNeg)) (am_let (am_si s8 234 (x2.toNatClampNeg) a1) (fun (s10 : AS) => J54 s10)))) else (J54 s1)))))))
def fX9_leave (s0 : AS) (a1 : Int32) (a2 : Int32) : Option (AS × Unit) :=
  fX9_leave_L2 a1 a2 am_fu s0 (0 : Int32)
def kX9_leave : List (Nat × Instr × Nat) := [(0, .iconst 0, 1), (1, .istore_n 3, 1), (2, .iload_n 3, 1), (3, .aload_n 0, 1), (4, .invokevirtual 248, 3), (7, .if_icmp .ge 53, 3), (10, .aload_n 0, 1), (11, .getfield 290, 3), (14, .iload_n 3, 1), (15, .invokestatic 280, 3), (18, .ifCond .eq 36, 3), (21, .aload_n 0, 1), (22, .iload_n 3, 1), (23, .invokevirtual 299, 3), (26, .iload_n 2, 1), (27, .if_icmp .eq 6, 3), (30, .goto 24, 3), (33, .aload_n 0, 1), (34, .dup, 1), (35, .getfield 290, 3), (38, .iconst 1, 1), (39, .iload_n 3, 1), (40, .ishl, 1), (41, .iconst (-1), 1), (42, .ixor, 1), (43, .iand, 1), (44, .putfield 290, 3), (47, .aload_n 0, 1), (48, .getfield 71, 3), (51, .iload_n 3, 1), (52, .iload_n 1, 1), (53, .iastore, 1), (54, .iinc 3 1, 3), (57, .goto (-55), 3), (60, .return_, 1)]
theorem qX9_leave : ∀ q ∈ kX9_leave, decode mX9_leave.2.2.1 q.1 = .ok (q.2.1, q.2.2) ∧ am_iok mX9_leave.2.2.2.1 q.1 q.2.1 q.2.2 = true := by decide +kernel
set_option maxRecDepth 100000 in
theorem wX9_leave : Cond.code mX9_leave.2.1 mX9_leave.2.2.1 mX9_leave.2.2.2.1 mX9_leave.2.2.2.2.1 ∈ am_T := List.mem_filter.mpr ⟨List.mem_of_getElem? (i := 1686) rfl, rfl⟩
set_option maxHeartbeats 4000000 in
set_option maxRecDepth 100000 in
theorem tX9_leave (l : Launch) (d : Nat) {s0 : AS} {a1 : Int32} {a2 : Int32} {sE : AS} {rE : Unit} (hf : fX9_leave s0 a1 a2 = some (sE, rE)) : am_Ct l (d + 2) mX9_leave [.inr (.inr ((10, 0, 0), 215)), .inl a1, .inl a2] s0 sE none := by
  refine am_sim l (d + 1) (code := kX9_leave) (by decide +kernel) wX9_leave qX9_leave (Nat.le_of_ble_eq_true rfl) ?_
  intro X hX
  show X 0 [(0, .inr (.inr ((10, 0, 0), 215))), (1, .inl a1), (2, .inl a2)] [] s0
  unfold fX9_leave at hf
  have hL2 : ∀ (n2 : Nat) (s1 : AS) (x2 : Int32), fX9_leave_L2 a1 a2 n2 s1 x2 = some (sE, rE) → X 2 [(0, .inr (.inr ((10, 0, 0), 215))), (1, .inl a1), (2, .inl a2), (3, .inl x2)] [] s1 := by
    intro n2
    induction n2 with
    | zero => intro s1 x2 hf; exact am_no (show none = some _ from hf)
    | succ n2 ih2 =>
      intro s1 x2 hf
      obtain ⟨v3, hcv3, hf⟩ := am_r_of hf
      refine am_blk hX 2 4 (And.intro rfl (And.intro rfl (Exists.intro s1 (Exists.intro (some (.inl v3)) (And.intro (tX9_people l (d + 0) hcv3) (And.intro (fun hb => ?_) (fun hb => ?_)))))))
      · have hf := am_it hf hb
        show X 60 [(0, .inr (.inr ((10, 0, 0), 215))), (1, .inl a1), (2, .inl a2), (3, .inl x2)] [] s1
        refine am_blk hX 34 1 (And.intro rfl (am_rv hf))
      · have hf := am_if hf hb
        show X 10 [(0, .inr (.inr ((10, 0, 0), 215))), (1, .inl a1), (2, .inl a2), (3, .inl x2)] [] s1
        obtain ⟨v4, hcv4, hf⟩ := am_r_of hf
        refine am_jn hf (fun J54 => ∀ (s5 : AS), J54 s5 = some (sE, rE) → X 54 [(0, .inr (.inr ((10, 0, 0), 215))), (1, .inl a1), (2, .inl a2), (3, .inl x2)] [] s5) ?_ ?_
        · intro s5 hf
          refine am_blk hX 32 1 (am_nl (Z := fun x6 => X 57 [(3, .inl x6), (0, .inr (.inr ((10, 0, 0), 215))), (1, .inl a1), (2, .inl a2)] [] s5) hf (fun x6 hf => ?_))
          refine am_blk hX 33 1 (?_)
          show X 2 [(3, .inl x6), (0, .inr (.inr ((10, 0, 0), 215))), (1, .inl a1), (2, .inl a2)] [] s5
          exact am_wk hX [1, 2, 3, 0] (ih2 s5 x6 hf)
        · intro J54 hJ54 hf
          refine am_blk hX 6 5 (And.intro rfl (And.intro rfl (Exists.intro s1 (Exists.intro (some (.inl v4)) (And.intro (tX9_isBit l (d + 0) hcv4) (And.intro (fun hb => ?_) (fun hb => ?_)))))))
          · have hf := am_it hf hb
            show X 54 [(0, .inr (.inr ((10, 0, 0), 215))), (1, .inl a1), (2, .inl a2), (3, .inl x2)] [] s1
            exact am_wk hX [0, 1, 2, 3] (hJ54 s1 hf)
          · have hf := am_if hf hb
            show X 21 [(0, .inr (.inr ((10, 0, 0), 215))), (1, .inl a1), (2, .inl a2), (3, .inl x2)] [] s1
            obtain ⟨v7, hcv7, hf⟩ := am_r_of hf
            refine am_blk hX 11 5 (And.intro rfl (And.intro rfl (Exists.intro s1 (Exists.intro (some (.inl v7)) (And.intro (tX9_wantsOf l (d + 0) hcv7) (And.intro (fun hb => ?_) (fun hb => ?_)))))))
            · have hf := am_it hf hb
              show X 33 [(0, .inr (.inr ((10, 0, 0), 215))), (1, .inl a1), (2, .inl a2), (3, .inl x2)] [] s1
              refine am_blk hX 17 10 (And.intro rfl (And.intro rfl (am_nl (Z := fun s8 => X 47 [(0, .inr (.inr ((10, 0, 0), 215))), (1, .inl a1), (2, .inl a2), (3, .inl x2)] [] s8) hf (fun s8 hf => ?_))))
              obtain ⟨g9, hf⟩ := am_g_of hf
              refine am_blk hX 27 5 (And.intro rfl (And.intro rfl (And.intro g9 (am_nl (Z := fun s10 => X 54 [(0, .inr (.inr ((10, 0, 0), 215))), (1, .inl a1), (2, .inl a2), (3, .inl x2)] [] s10) hf (fun s10 hf => ?_)))))
              exact am_wk hX [0, 1, 2, 3] (hJ54 s10 hf)
            · have hf := am_if hf hb
              show X 30 [(0, .inr (.inr ((10, 0, 0), 215))), (1, .inl a1), (2, .inl a2), (3, .inl x2)] [] s1
              refine am_blk hX 16 1 (?_)
              show X 54 [(0, .inr (.inr ((10, 0, 0), 215))), (1, .inl a1), (2, .inl a2), (3, .inl x2)] [] s1
              exact am_wk hX [0, 1, 2, 3] (hJ54 s1 hf)
  refine am_blk hX 0 2 (?_)
  show X 2 [(3, .inl (0 : Int32)), (0, .inr (.inr ((10, 0, 0), 215))), (1, .inl a1), (2, .inl a2)] [] s0
  exact am_wk hX [1, 2, 3, 0] (hL2 am_fu s0 (0 : Int32) hf)
def fX9_nextOf_L28 (a1 : Int32) (a2 : Int32) (s0 : AS) : Nat → Int32 → Int32 → Option Int32
  | 0, _, _ => none
  | n28 + 1, x2, x3 =>
    am_g (¬ ((4 : Int32) < 0 ∨ 35 ≤ (4 : Int32).toNatClampNeg)) (if (s0.1 222 ((4 : Int32).toNatClampNeg)) ≤ x3 then (some x2) else (am_r (fX9_isBit (s0.1 215 24) x3) (fun (v5 : Int32) => am_let (fun (x6 : Int32) => am_let (x3 + (1 : Int32)) (fun (x7 : Int32) => fX9_nextOf_L28 a1 a2 s0 n28 x6 x7)) (fun J172 => if v5 = 0 then (am_g (¬ (((3 : Int32) * x3) < 0 ∨ 150 ≤ ((3 : Int32) * x3).toNatClampNeg)) (am_let (am_g (¬ (((3 : Int32) * x3) < 0 ∨ 150 ≤ ((3 : Int32) * x3).toNatClampNeg)) (am_let (fun (x10 : Int32) => am_g (¬ ((((3 : Int32) * x3) + (2 : Int32)) < 0 ∨ 150 ≤ (((3 : Int32) * x3) + (2 : Int32)).toNatClampNeg)) (am_g (¬ ((((7 : Int32) * x10) + a2) < 0 ∨ 49 ≤ (((7 : Int32) * x10) + a2).toNatClampNeg)) (am_g (¬ ((((7 : Int32) * a1) + a2) < 0 ∨ 49 ≤ (((7 : Int32) * a1) + a2).toNatClampNeg)) (if ((s0.1 223 ((((3 : Int32) * x3) + (2 : Int32)).toNatClampNeg)) + (s0.1 228 ((((7 : Int32) * x10) + a2).toNatClampNeg))) = (s0.1 228 ((((7 : Int32) * a1) + a2).toNatClampNeg)) then (am_let (J172 x10) (fun J169 => if x2 = (-1 : Int32) then (J169) else (if x2 ≤ x10 then (J172 x2) else (J169)))) else (J172 x2))))) (fun J118 => if (s0.1 223 (((3 : Int32) * x3).toNatClampNeg)) = a1 then (am_g (¬ ((((3 : Int32) * x3) + (1 : Int32)) < 0 ∨ 150 ≤ (((3 : Int32) * x3) + (1 : Int32)).toNatClampNeg)) (J118 (s0.1 223 ((((3 : Int32) * x3) + (1 : Int32)).toNatClampNeg)))) else (am_g (¬ (((3 : Int32) * x3) < 0 ∨ 150 ≤ ((3 : Int32) * x3).toNatClampNeg)) (J118 (s0.1 223 (((3 : Int32) * x3).toNatClampNeg))))))) (fun J82 => if (s0.1 223 (((3 : Int32) * x3).toNatClampNeg)) = a1 then (J82) else (am_g (¬ ((((3 : Int32) * x3) + (1 : Int32)) < 0 ∨ 150 ≤ (((3 : Int32) * x3) + (1 : Int32)).toNatClampNeg)) (if (s0.1 223 ((((3 : Int32) * x3) + (1 : Int32)).toNatClampNeg)) = a1 then (J82) else (J172 x2)))))) else (J172 x2)))))
def fX9_nextOf (s0 : AS) (a1 : Int32) (a2 : Int32) : Option Int32 :=
  am_let (some (-1 : Int32)) (fun J21 => if a1 = a2 then (J21) else (am_g (¬ ((((7 : Int32) * a1) + a2) < 0 ∨ 49 ≤ (((7 : Int32) * a1) + a2).toNatClampNeg)) (if (s0.1 228 ((((7 : Int32) * a1) + a2).toNatClampNeg)) < (100000 : Int32) then (fX9_nextOf_L28 a1 a2 s0 am_fu (-1 : Int32) (0 : Int32)) else (J21))))
def kX9_nextOf : List (Nat × Instr × Nat) := [(0, .iload_n 1, 1), (1, .iload_n 2, 1), (2, .if_icmp .eq 19, 3), (5, .aload_n 0, 1), (6, .getfield 53, 3), (9, .bipush 7, 2), (11, .iload_n 1, 1), (12, .imul, 1), (13, .iload_n 2, 1), (14, .iadd, 1), (15, .iaload, 1), (16, .ldc 130, 2), (18, .if_icmp .lt 5, 3), (21, .iconst (-1), 1), (22, .ireturn, 1), (23, .iconst (-1), 1), (24, .istore_n 3, 1), (25, .iconst 0, 1), (26, .istore 4, 2), (28, .iload 4, 2), (30, .aload_n 0, 1), (31, .getfield 34, 3), (34, .iconst 4, 1), (35, .iaload, 1), (36, .if_icmp .ge 142, 3), (39, .aload_n 0, 1), (40, .getfield 259, 3), (43, .iload 4, 2), (45, .invokestatic 280, 3), (48, .ifCond .ne 124, 3), (51, .aload_n 0, 1), (52, .getfield 37, 3), (55, .iconst 3, 1), (56, .iload 4, 2), (58, .imul, 1), (59, .iaload, 1), (60, .iload_n 1, 1), (61, .if_icmp .eq 21, 3), (64, .aload_n 0, 1), (65, .getfield 37, 3), (68, .iconst 3, 1), (69, .iload 4, 2), (71, .imul, 1), (72, .iconst 1, 1), (73, .iadd, 1), (74, .iaload, 1), (75, .iload_n 1, 1), (76, .if_icmp .eq 6, 3), (79, .goto 93, 3), (82, .aload_n 0, 1), (83, .getfield 37, 3), (86, .iconst 3, 1), (87, .iload 4, 2), (89, .imul, 1), (90, .iaload, 1), (91, .iload_n 1, 1), (92, .if_icmp .ne 17, 3), (95, .aload_n 0, 1), (96, .getfield 37, 3), (99, .iconst 3, 1), (100, .iload 4, 2), (102, .imul, 1), (103, .iconst 1, 1), (104, .iadd, 1), (105, .iaload, 1), (106, .goto 12, 3), (109, .aload_n 0, 1), (110, .getfield 37, 3), (113, .iconst 3, 1), (114, .iload 4, 2), (116, .imul, 1), (117, .iaload, 1), (118, .istore 5, 2), (120, .aload_n 0, 1), (121, .getfield 37, 3), (124, .iconst 3, 1), (125, .iload 4, 2), (127, .imul, 1), (128, .iconst 2, 1), (129, .iadd, 1), (130, .iaload, 1), (131, .aload_n 0, 1), (132, .getfield 53, 3), (135, .bipush 7, 2), (137, .iload 5, 2), (139, .imul, 1), (140, .iload_n 2, 1), (141, .iadd, 1), (142, .iaload, 1), (143, .iadd, 1), (144, .aload_n 0, 1), (145, .getfield 53, 3), (148, .bipush 7, 2), (150, .iload_n 1, 1), (151, .imul, 1), (152, .iload_n 2, 1), (153, .iadd, 1), (154, .iaload, 1), (155, .if_icmp .ne 17, 3), (158, .iload_n 3, 1), (159, .iconst (-1), 1), (160, .if_icmp .eq 9, 3), (163, .iload 5, 2), (165, .iload_n 3, 1), (166, .if_icmp .ge 6, 3), (169, .iload 5, 2), (171, .istore_n 3, 1), (172, .iinc 4 1, 3), (175, .goto (-147), 3), (178, .iload_n 3, 1), (179, .ireturn, 1)]
theorem qX9_nextOf : ∀ q ∈ kX9_nextOf, decode mX9_nextOf.2.2.1 q.1 = .ok (q.2.1, q.2.2) ∧ am_iok mX9_nextOf.2.2.2.1 q.1 q.2.1 q.2.2 = true := by decide +kernel
set_option maxRecDepth 100000 in
theorem wX9_nextOf : Cond.code mX9_nextOf.2.1 mX9_nextOf.2.2.1 mX9_nextOf.2.2.2.1 mX9_nextOf.2.2.2.2.1 ∈ am_T := List.mem_filter.mpr ⟨List.mem_of_getElem? (i := 1646) rfl, rfl⟩
set_option maxHeartbeats 4000000 in
set_option maxRecDepth 100000 in
theorem tX9_nextOf (l : Launch) (d : Nat) {s0 : AS} {a1 : Int32} {a2 : Int32} {rE : Int32} (hf : fX9_nextOf s0 a1 a2 = some rE) : am_Ct l (d + 2) mX9_nextOf [.inr (.inr ((10, 0, 0), 215)), .inl a1, .inl a2] s0 s0 (some (.inl rE)) := by
  refine am_sim l (d + 1) (code := kX9_nextOf) (by decide +kernel) wX9_nextOf qX9_nextOf (Nat.le_of_ble_eq_true rfl) ?_
  intro X hX
  show X 0 [(0, .inr (.inr ((10, 0, 0), 215))), (1, .inl a1), (2, .inl a2)] [] s0
  unfold fX9_nextOf at hf
  refine am_jn hf (fun J21 => J21 = some rE → X 21 [] [] s0) ?_ ?_
  · intro hf
    refine am_blk hX 13 2 (am_rpi hf)
  · intro J21 hJ21 hf
    refine am_blk hX 0 3 (And.intro (fun hb => ?_) (fun hb => ?_))
    · have hf := am_it hf hb
      show X 21 [(0, .inr (.inr ((10, 0, 0), 215))), (1, .inl a1), (2, .inl a2)] [] s0
      exact am_wk hX [] (hJ21 hf)
    · have hf := am_if hf hb
      show X 5 [(0, .inr (.inr ((10, 0, 0), 215))), (1, .inl a1), (2, .inl a2)] [] s0
      obtain ⟨g1, hf⟩ := am_g_of hf
      refine am_blk hX 3 10 (And.intro rfl (And.intro rfl (And.intro g1 (And.intro (fun hb => ?_) (fun hb => ?_)))))
      · have hf := am_it hf hb
        show X 23 [(0, .inr (.inr ((10, 0, 0), 215))), (1, .inl a1), (2, .inl a2)] [] s0
        have hL28 : ∀ (n28 : Nat) (x2 : Int32) (x3 : Int32), fX9_nextOf_L28 a1 a2 s0 n28 x2 x3 = some rE → X 28 [(0, .inr (.inr ((10, 0, 0), 215))), (1, .inl a1), (2, .inl a2), (3, .inl x2), (4, .inl x3)] [] s0 := by
          intro n28
          induction n28 with
          | zero => intro x2 x3 hf; exact am_no (show none = some _ from hf)
          | succ n28 ih28 =>
            intro x2 x3 hf
            obtain ⟨g4, hf⟩ := am_g_of hf
            refine am_blk hX 19 6 (And.intro rfl (And.intro rfl (And.intro g4 (And.intro (fun hb => ?_) (fun hb => ?_)))))
            · have hf := am_it hf hb
              show X 178 [(0, .inr (.inr ((10, 0, 0), 215))), (1, .inl a1), (2, .inl a2), (3, .inl x2), (4, .inl x3)] [] s0
              refine am_blk hX 109 2 (am_rpi hf)
            · have hf := am_if hf hb
              show X 39 [(0, .inr (.inr ((10, 0, 0), 215))), (1, .inl a1), (2, .inl a2), (3, .inl x2), (4, .inl x3)] [] s0
              obtain ⟨v5, hcv5, hf⟩ := am_r_of hf
              refine am_jn hf (fun J172 => ∀ (x6 : Int32), J172 x6 = some rE → X 172 [(0, .inr (.inr ((10, 0, 0), 215))), (1, .inl a1), (2, .inl a2), (3, .inl x6), (4, .inl x3)] [] s0) ?_ ?_
              · intro x6 hf
                refine am_blk hX 107 1 (am_nl (Z := fun x7 => X 175 [(4, .inl x7), (0, .inr (.inr ((10, 0, 0), 215))), (1, .inl a1), (2, .inl a2), (3, .inl x6)] [] s0) hf (fun x7 hf => ?_))
                refine am_blk hX 108 1 (?_)
                show X 28 [(4, .inl x7), (0, .inr (.inr ((10, 0, 0), 215))), (1, .inl a1), (2, .inl a2), (3, .inl x6)] [] s0
                exact am_wk hX [1, 2, 3, 4, 0] (ih28 x6 x7 hf)
              · intro J172 hJ172 hf
                refine am_blk hX 25 5 (And.intro rfl (And.intro rfl (Exists.intro s0 (Exists.intro (some (.inl v5)) (And.intro (tX9_isBit l (d + 0) hcv5) (And.intro (fun hb => ?_) (fun hb => ?_)))))))
                · have hf := am_if hf hb
                  show X 172 [(0, .inr (.inr ((10, 0, 0), 215))), (1, .inl a1), (2, .inl a2), (3, .inl x2), (4, .inl x3)] [] s0
                  exact am_wk hX [0, 1, 2, 3, 4] (hJ172 x2 hf)
                · have hf := am_it hf hb
                  show X 51 [(0, .inr (.inr ((10, 0, 0), 215))), (1, .inl a1), (2, .inl a2), (3, .inl x2), (4, .inl x3)] [] s0
                  obtain ⟨g8, hf⟩ := am_g_of hf
                  refine am_jn hf (fun J82 => J82 = some rE → X 82 [(0, .inr (.inr ((10, 0, 0), 215))), (1, .inl a1), (2, .inl a2), (3, .inl x2), (4, .inl x3)] [] s0) ?_ ?_
                  · intro hf
                    obtain ⟨g9, hf⟩ := am_g_of hf
                    refine am_jn hf (fun J118 => ∀ (x10 : Int32), J118 x10 = some rE → X 118 [(0, .inr (.inr ((10, 0, 0), 215))), (1, .inl a1), (2, .inl a2), (3, .inl x2), (4, .inl x3)] [.inl x10] s0) ?_ ?_
                    · intro x10 hf
                      obtain ⟨g11, hf⟩ := am_g_of hf
                      obtain ⟨g12, hf⟩ := am_g_of hf
                      obtain ⟨g13, hf⟩ := am_g_of hf
                      refine am_blk hX 72 27 (And.intro rfl (And.intro rfl (And.intro g11 (And.intro rfl (And.intro rfl (And.intro g12 (And.intro rfl (And.intro rfl (And.intro g13 (And.intro (fun hb => ?_) (fun hb => ?_)))))))))))
                      · have hf := am_if hf hb
                        show X 172 [(5, .inl x10), (0, .inr (.inr ((10, 0, 0), 215))), (1, .inl a1), (2, .inl a2), (3, .inl x2), (4, .inl x3)] [] s0
                        exact am_wk hX [1, 2, 3, 4, 5] (hJ172 x2 hf)
                      · have hf := am_it hf hb
                        show X 158 [(5, .inl x10), (0, .inr (.inr ((10, 0, 0), 215))), (1, .inl a1), (2, .inl a2), (3, .inl x2), (4, .inl x3)] [] s0
                        refine am_jn hf (fun J169 => J169 = some rE → X 169 [(0, .inr (.inr ((10, 0, 0), 215))), (1, .inl a1), (2, .inl a2), (4, .inl x3), (5, .inl x10)] [] s0) ?_ ?_
                        · intro hf
                          refine am_blk hX 105 2 (?_)
                          show X 172 [(3, .inl x10), (0, .inr (.inr ((10, 0, 0), 215))), (1, .inl a1), (2, .inl a2), (4, .inl x3), (5, .inl x10)] [] s0
                          exact am_wk hX [1, 2, 3, 0, 4] (hJ172 x10 hf)
                        · intro J169 hJ169 hf
                          refine am_blk hX 99 3 (And.intro (fun hb => ?_) (fun hb => ?_))
                          · have hf := am_it hf hb
                            show X 169 [(5, .inl x10), (0, .inr (.inr ((10, 0, 0), 215))), (1, .inl a1), (2, .inl a2), (3, .inl x2), (4, .inl x3)] [] s0
                            exact am_wk hX [1, 2, 3, 5, 0] (hJ169 hf)
                          · have hf := am_if hf hb
                            show X 163 [(5, .inl x10), (0, .inr (.inr ((10, 0, 0), 215))), (1, .inl a1), (2, .inl a2), (3, .inl x2), (4, .inl x3)] [] s0
                            refine am_blk hX 102 3 (And.intro (fun hb => ?_) (fun hb => ?_))
                            · have hf := am_it hf hb
                              show X 172 [(5, .inl x10), (0, .inr (.inr ((10, 0, 0), 215))), (1, .inl a1), (2, .inl a2), (3, .inl x2), (4, .inl x3)] [] s0
                              exact am_wk hX [1, 2, 3, 4, 5] (hJ172 x2 hf)
                            · have hf := am_if hf hb
                              show X 169 [(5, .inl x10), (0, .inr (.inr ((10, 0, 0), 215))), (1, .inl a1), (2, .inl a2), (3, .inl x2), (4, .inl x3)] [] s0
                              exact am_wk hX [1, 2, 3, 5, 0] (hJ169 hf)
                    · intro J118 hJ118 hf
                      refine am_blk hX 49 8 (And.intro rfl (And.intro rfl (And.intro g9 (And.intro (fun hb => ?_) (fun hb => ?_)))))
                      · have hf := am_if hf hb
                        show X 109 [(0, .inr (.inr ((10, 0, 0), 215))), (1, .inl a1), (2, .inl a2), (3, .inl x2), (4, .inl x3)] [] s0
                        obtain ⟨g14, hf⟩ := am_g_of hf
                        refine am_blk hX 66 6 (And.intro rfl (And.intro rfl (And.intro g14 (?_))))
                        show X 118 [(0, .inr (.inr ((10, 0, 0), 215))), (1, .inl a1), (2, .inl a2), (3, .inl x2), (4, .inl x3)] [.inl (s0.1 223 (((3 : Int32) * x3).toNatClampNeg))] s0
                        exact am_wk hX [0, 1, 2, 3, 4] (hJ118 (s0.1 223 (((3 : Int32) * x3).toNatClampNeg)) hf)
                      · have hf := am_it hf hb
                        show X 95 [(0, .inr (.inr ((10, 0, 0), 215))), (1, .inl a1), (2, .inl a2), (3, .inl x2), (4, .inl x3)] [] s0
                        obtain ⟨g15, hf⟩ := am_g_of hf
                        refine am_blk hX 57 9 (And.intro rfl (And.intro rfl (And.intro g15 (?_))))
                        show X 118 [(0, .inr (.inr ((10, 0, 0), 215))), (1, .inl a1), (2, .inl a2), (3, .inl x2), (4, .inl x3)] [.inl (s0.1 223 ((((3 : Int32) * x3) + (1 : Int32)).toNatClampNeg))] s0
                        exact am_wk hX [0, 1, 2, 3, 4] (hJ118 (s0.1 223 ((((3 : Int32) * x3) + (1 : Int32)).toNatClampNeg)) hf)
                  · intro J82 hJ82 hf
                    refine am_blk hX 30 8 (And.intro rfl (And.intro rfl (And.intro g8 (And.intro (fun hb => ?_) (fun hb => ?_)))))
                    · have hf := am_it hf hb
                      show X 82 [(0, .inr (.inr ((10, 0, 0), 215))), (1, .inl a1), (2, .inl a2), (3, .inl x2), (4, .inl x3)] [] s0
                      exact am_wk hX [0, 1, 2, 3, 4] (hJ82 hf)
                    · have hf := am_if hf hb
                      show X 64 [(0, .inr (.inr ((10, 0, 0), 215))), (1, .inl a1), (2, .inl a2), (3, .inl x2), (4, .inl x3)] [] s0
                      obtain ⟨g16, hf⟩ := am_g_of hf
                      refine am_blk hX 38 10 (And.intro rfl (And.intro rfl (And.intro g16 (And.intro (fun hb => ?_) (fun hb => ?_)))))
                      · have hf := am_it hf hb
                        show X 82 [(0, .inr (.inr ((10, 0, 0), 215))), (1, .inl a1), (2, .inl a2), (3, .inl x2), (4, .inl x3)] [] s0
                        exact am_wk hX [0, 1, 2, 3, 4] (hJ82 hf)
                      · have hf := am_if hf hb
                        show X 79 [(0, .inr (.inr ((10, 0, 0), 215))), (1, .inl a1), (2, .inl a2), (3, .inl x2), (4, .inl x3)] [] s0
                        refine am_blk hX 48 1 (?_)
                        show X 172 [(0, .inr (.inr ((10, 0, 0), 215))), (1, .inl a1), (2, .inl a2), (3, .inl x2), (4, .inl x3)] [] s0
                        exact am_wk hX [0, 1, 2, 3, 4] (hJ172 x2 hf)
        refine am_blk hX 15 4 (?_)
        show X 28 [(4, .inl (0 : Int32)), (3, .inl (-1 : Int32)), (0, .inr (.inr ((10, 0, 0), 215))), (1, .inl a1), (2, .inl a2)] [] s0
        exact am_wk hX [2, 3, 4, 1, 0] (hL28 am_fu (-1 : Int32) (0 : Int32) hf)
      · have hf := am_if hf hb
        show X 21 [(0, .inr (.inr ((10, 0, 0), 215))), (1, .inl a1), (2, .inl a2)] [] s0
        exact am_wk hX [] (hJ21 hf)
def fX9_votesFor_L6 (a1 : Int32) (a2 : Int32) (a3 : Int32) (s0 : AS) : Nat → Int32 → Int32 → Option Int32
  | 0, _, _ => none
  | n6 + 1, x1, x2 =>
    am_r (fX9_people s0) (fun (v3 : Int32) => if v3 ≤ x2 then (some x1) else (am_g (¬ ((((8 : Int32) * a1) + x2) < 0 ∨ 488 ≤ (((8 : Int32) * a1) + x2).toNatClampNeg)) (am_let (fun (x5 : Int32) => am_let (x1 + x5) (fun (x6 : Int32) => am_let (x2 + (1 : Int32)) (fun (x7 : Int32) => fX9_votesFor_L6 a1 a2 a3 s0 n6 x6 x7))) (fun J56 => if (s0.1 232 ((((8 : Int32) * a1) + x2).toNatClampNeg)) = a2 then (if a3 = 0 then (J56 (1 : Int32)) else (am_g (¬ ((((5 : Int32) * x2) + (4 : Int32)) < 0 ∨ 200 ≤ (((5 : Int32) * x2) + (4 : Int32)).toNatClampNeg)) (J56 (s0.1 224 ((((5 : Int32) * x2) + (4 : Int32)).toNatClampNeg))))) else (J56 (0 : Int32))))))
def fX9_votesFor (s0 : AS) (a1 : Int32) (a2 : Int32) (a3 : Int32) : Option Int32 :=
  fX9_votesFor_L6 a1 a2 a3 s0 am_fu (0 : Int32) (0 : Int32)
def kX9_votesFor : List (Nat × Instr × Nat) := [(0, .iconst 0, 1), (1, .istore 4, 2), (3, .iconst 0, 1), (4, .istore 5, 2), (6, .iload 5, 2), (8, .aload_n 0, 1), (9, .invokevirtual 248, 3), (12, .if_icmp .ge 53, 3), (15, .iload 4, 2), (17, .aload_n 0, 1), (18, .getfield 65, 3), (21, .bipush 8, 2), (23, .iload_n 1, 1), (24, .imul, 1), (25, .iload 5, 2), (27, .iadd, 1), (28, .iaload, 1), (29, .iload_n 2, 1), (30, .if_icmp .ne 25, 3), (33, .iload_n 3, 1), (34, .ifCond .eq 17, 3), (37, .aload_n 0, 1), (38, .getfield 40, 3), (41, .iconst 5, 1), (42, .iload 5, 2), (44, .imul, 1), (45, .iconst 4, 1), (46, .iadd, 1), (47, .iaload, 1), (48, .goto 8, 3), (51, .iconst 1, 1), (52, .goto 4, 3), (55, .iconst 0, 1), (56, .iadd, 1), (57, .istore 4, 2), (59, .iinc 5 1, 3), (62, .goto (-56), 3), (65, .iload 4, 2), (67, .ireturn, 1)]
theorem qX9_votesFor : ∀ q ∈ kX9_votesFor, decode mX9_votesFor.2.2.1 q.1 = .ok (q.2.1, q.2.2) ∧ am_iok mX9_votesFor.2.2.2.1 q.1 q.2.1 q.2.2 = true := by decide +kernel
set_option maxRecDepth 100000 in
theorem wX9_votesFor : Cond.code mX9_votesFor.2.1 mX9_votesFor.2.2.1 mX9_votesFor.2.2.2.1 mX9_votesFor.2.2.2.2.1 ∈ am_T := List.mem_filter.mpr ⟨List.mem_of_getElem? (i := 1698) rfl, rfl⟩
set_option maxHeartbeats 4000000 in
set_option maxRecDepth 100000 in
theorem tX9_votesFor (l : Launch) (d : Nat) {s0 : AS} {a1 : Int32} {a2 : Int32} {a3 : Int32} {rE : Int32} (hf : fX9_votesFor s0 a1 a2 a3 = some rE) : am_Ct l (d + 2) mX9_votesFor [.inr (.inr ((10, 0, 0), 215)), .inl a1, .inl a2, .inl a3] s0 s0 (some (.inl rE)) := by
  refine am_sim l (d + 1) (code := kX9_votesFor) (by decide +kernel) wX9_votesFor qX9_votesFor (Nat.le_of_ble_eq_true rfl) ?_
  intro X hX
  show X 0 [(0, .inr (.inr ((10, 0, 0), 215))), (1, .inl a1), (2, .inl a2), (3, .inl a3)] [] s0
  unfold fX9_votesFor at hf
  have hL6 : ∀ (n6 : Nat) (x1 : Int32) (x2 : Int32), fX9_votesFor_L6 a1 a2 a3 s0 n6 x1 x2 = some rE → X 6 [(0, .inr (.inr ((10, 0, 0), 215))), (1, .inl a1), (2, .inl a2), (3, .inl a3), (4, .inl x1), (5, .inl x2)] [] s0 := by
    intro n6
    induction n6 with
    | zero => intro x1 x2 hf; exact am_no (show none = some _ from hf)
    | succ n6 ih6 =>
      intro x1 x2 hf
      obtain ⟨v3, hcv3, hf⟩ := am_r_of hf
      refine am_blk hX 4 4 (And.intro rfl (And.intro rfl (Exists.intro s0 (Exists.intro (some (.inl v3)) (And.intro (tX9_people l (d + 0) hcv3) (And.intro (fun hb => ?_) (fun hb => ?_)))))))
      · have hf := am_it hf hb
        show X 65 [(0, .inr (.inr ((10, 0, 0), 215))), (1, .inl a1), (2, .inl a2), (3, .inl a3), (4, .inl x1), (5, .inl x2)] [] s0
        refine am_blk hX 37 2 (am_rpi hf)
      · have hf := am_if hf hb
        show X 15 [(0, .inr (.inr ((10, 0, 0), 215))), (1, .inl a1), (2, .inl a2), (3, .inl a3), (4, .inl x1), (5, .inl x2)] [] s0
        obtain ⟨g4, hf⟩ := am_g_of hf
        refine am_jn hf (fun J56 => ∀ (x5 : Int32), J56 x5 = some rE → X 56 [(0, .inr (.inr ((10, 0, 0), 215))), (1, .inl a1), (2, .inl a2), (3, .inl a3), (5, .inl x2)] [.inl x5, .inl x1] s0) ?_ ?_
        · intro x5 hf
          refine am_blk hX 33 2 (am_nl (Z := fun x6 => X 59 [(4, .inl x6), (0, .inr (.inr ((10, 0, 0), 215))), (1, .inl a1), (2, .inl a2), (3, .inl a3), (5, .inl x2)] [] s0) hf (fun x6 hf => ?_))
          refine am_blk hX 35 1 (am_nl (Z := fun x7 => X 62 [(5, .inl x7), (4, .inl x6), (0, .inr (.inr ((10, 0, 0), 215))), (1, .inl a1), (2, .inl a2), (3, .inl a3)] [] s0) hf (fun x7 hf => ?_))
          refine am_blk hX 36 1 (?_)
          show X 6 [(5, .inl x7), (4, .inl x6), (0, .inr (.inr ((10, 0, 0), 215))), (1, .inl a1), (2, .inl a2), (3, .inl a3)] [] s0
          exact am_wk hX [2, 3, 4, 5, 1, 0] (ih6 x6 x7 hf)
        · intro J56 hJ56 hf
          refine am_blk hX 8 11 (And.intro rfl (And.intro rfl (And.intro g4 (And.intro (fun hb => ?_) (fun hb => ?_)))))
          · have hf := am_if hf hb
            show X 55 [(0, .inr (.inr ((10, 0, 0), 215))), (1, .inl a1), (2, .inl a2), (3, .inl a3), (4, .inl x1), (5, .inl x2)] [.inl x1] s0
            refine am_blk hX 32 1 (?_)
            show X 56 [(0, .inr (.inr ((10, 0, 0), 215))), (1, .inl a1), (2, .inl a2), (3, .inl a3), (4, .inl x1), (5, .inl x2)] [.inl (0 : Int32), .inl x1] s0
            exact am_wk hX [0, 1, 2, 3, 5] (hJ56 (0 : Int32) hf)
          · have hf := am_it hf hb
            show X 33 [(0, .inr (.inr ((10, 0, 0), 215))), (1, .inl a1), (2, .inl a2), (3, .inl a3), (4, .inl x1), (5, .inl x2)] [.inl x1] s0
            refine am_blk hX 19 2 (And.intro (fun hb => ?_) (fun hb => ?_))
            · have hf := am_it hf hb
              show X 51 [(0, .inr (.inr ((10, 0, 0), 215))), (1, .inl a1), (2, .inl a2), (3, .inl a3), (4, .inl x1), (5, .inl x2)] [.inl x1] s0
              refine am_blk hX 30 2 (?_)
              show X 56 [(0, .inr (.inr ((10, 0, 0), 215))), (1, .inl a1), (2, .inl a2), (3, .inl a3), (4, .inl x1), (5, .inl x2)] [.inl (1 : Int32), .inl x1] s0
              exact am_wk hX [0, 1, 2, 3, 5] (hJ56 (1 : Int32) hf)
            · have hf := am_if hf hb
              show X 37 [(0, .inr (.inr ((10, 0, 0), 215))), (1, .inl a1), (2, .inl a2), (3, .inl a3), (4, .inl x1), (5, .inl x2)] [.inl x1] s0
              obtain ⟨g8, hf⟩ := am_g_of hf
              refine am_blk hX 21 9 (And.intro rfl (And.intro rfl (And.intro g8 (?_))))
              show X 56 [(0, .inr (.inr ((10, 0, 0), 215))), (1, .inl a1), (2, .inl a2), (3, .inl a3), (4, .inl x1), (5, .inl x2)] [.inl (s0.1 224 ((((5 : Int32) * x2) + (4 : Int32)).toNatClampNeg)), .inl x1] s0
              exact am_wk hX [0, 1, 2, 3, 5] (hJ56 (s0.1 224 ((((5 : Int32) * x2) + (4 : Int32)).toNatClampNeg)) hf)
  refine am_blk hX 0 4 (?_)
  show X 6 [(5, .inl (0 : Int32)), (4, .inl (0 : Int32)), (0, .inr (.inr ((10, 0, 0), 215))), (1, .inl a1), (2, .inl a2), (3, .inl a3)] [] s0
  exact am_wk hX [2, 3, 4, 5, 1, 0] (hL6 am_fu (0 : Int32) (0 : Int32) hf)
def fX9_turns_L76 (a1 : Int32) (s0 : AS) (J158 : Int32 → Option Int32) : Nat → Int32 → Int32 → Option Int32
  | 0, _, _ => none
  | n76 + 1, x4, x5 =>
    am_r (fX9_people s0) (fun (v6 : Int32) => if v6 ≤ x5 then (J158 x4) else (am_g (¬ ((((8 : Int32) * a1) + x5) < 0 ∨ 488 ≤ (((8 : Int32) * a1) + x5).toNatClampNeg)) (am_let (fun (x8 : Int32) => am_let (x5 + (1 : Int32)) (fun (x9 : Int32) => fX9_turns_L76 a1 s0 J158 n76 x8 x9)) (fun J152 => if (s0.1 232 ((((8 : Int32) * a1) + x5).toNatClampNeg)) = (-1 : Int32) then (J152 x4) else (am_let (J152 x5) (fun J149 => if x4 = (-1 : Int32) then (J149) else (if (s0.1 215 26) = (2 : Int32) then (am_g (¬ (x5 < 0 ∨ 8 ≤ x5.toNatClampNeg)) (am_g (¬ (x4 < 0 ∨ 8 ≤ x4.toNatClampNeg)) (if (s0.1 235 x4.toNatClampNeg) ≤ (s0.1 235 x5.toNatClampNeg) then (J152 x4) else (J149)))) else (am_g (¬ (x5 < 0 ∨ 8 ≤ x5.toNatClampNeg)) (am_g (¬ (x4 < 0 ∨ 8 ≤ x4.toNatClampNeg)) (if (s0.1 235 x5.toNatClampNeg) ≤ (s0.1 235 x4.toNatClampNeg) then (J152 x4) else (J149)))))))))))
def fX9_turns_L15 (a1 : Int32) (s0 : AS) : Nat → Int32 → Int32 → Int32 → Option Int32
  | 0, _, _, _ => none
  | n15 + 1, x14, x15, x16 =>
    am_g (¬ ((0 : Int32) < 0 ∨ 35 ≤ (0 : Int32).toNatClampNeg)) (if (s0.1 222 ((0 : Int32).toNatClampNeg)) ≤ x16 then (some x14) else (am_let (fun (x18 : Int32) => am_r (fX9_votesFor s0 a1 x16 x18) (fun (v19 : Int32) => am_let (fun (x20 : Int32) (x21 : Int32) => am_let (x16 + (1 : Int32)) (fun (x22 : Int32) => fX9_turns_L15 a1 s0 n15 x20 x21 x22)) (fun J63 => if x15 < v19 then (J63 x16 v19) else (J63 x14 x15)))) (fun J43 => if (s0.1 215 26) = (1 : Int32) then (J43 (1 : Int32)) else (J43 (0 : Int32)))))
def fX9_turns (s0 : AS) (a1 : Int32) : Option Int32 :=
  if (2 : Int32) ≤ (s0.1 215 26) then (am_let (fun (x1 : Int32) => am_let (fun (x2 : Int32) => some x2) (fun J178 => if x1 = (-1 : Int32) then (J178 (-1 : Int32)) else (am_g (¬ ((((8 : Int32) * a1) + x1) < 0 ∨ 488 ≤ (((8 : Int32) * a1) + x1).toNatClampNeg)) (J178 (s0.1 232 ((((8 : Int32) * a1) + x1).toNatClampNeg)))))) (fun J158 => fX9_turns_L76 a1 s0 J158 am_fu (-1 : Int32) (0 : Int32))) else (fX9_turns_L15 a1 s0 am_fu (-1 : Int32) (0 : Int32) (0 : Int32))
def kX9_turns : List (Nat × Instr × Nat) := [(0, .iconst (-1), 1), (1, .istore_n 2, 1), (2, .aload_n 0, 1), (3, .getfield 265, 3), (6, .iconst 2, 1), (7, .if_icmp .ge 64, 3), (10, .iconst 0, 1), (11, .istore_n 3, 1), (12, .iconst 0, 1), (13, .istore 4, 2), (15, .iload 4, 2), (17, .aload_n 0, 1), (18, .getfield 34, 3), (21, .iconst 0, 1), (22, .iaload, 1), (23, .if_icmp .ge 46, 3), (26, .aload_n 0, 1), (27, .iload_n 1, 1), (28, .iload 4, 2), (30, .aload_n 0, 1), (31, .getfield 265, 3), (34, .iconst 1, 1), (35, .if_icmp .ne 7, 3), (38, .iconst 1, 1), (39, .goto 4, 3), (42, .iconst 0, 1), (43, .invokevirtual 302, 3), (46, .istore 5, 2), (48, .iload 5, 2), (50, .iload_n 3, 1), (51, .if_icmp .gt 6, 3), (54, .goto 9, 3), (57, .iload 4, 2), (59, .istore_n 2, 1), (60, .iload 5, 2), (62, .istore_n 3, 1), (63, .iinc 4 1, 3), (66, .goto (-51), 3), (69, .iload_n 2, 1), (70, .ireturn, 1), (71, .iconst (-1), 1), (72, .istore_n 3, 1), (73, .iconst 0, 1), (74, .istore 4, 2), (76, .iload 4, 2), (78, .aload_n 0, 1), (79, .invokevirtual 248, 3), (82, .if_icmp .ge 76, 3), (85, .aload_n 0, 1), (86, .getfield 65, 3), (89, .bipush 8, 2), (91, .iload_n 1, 1), (92, .imul, 1), (93, .iload 4, 2), (95, .iadd, 1), (96, .iaload, 1), (97, .iconst (-1), 1), (98, .if_icmp .eq 54, 3), (101, .iload_n 3, 1), (102, .iconst (-1), 1), (103, .if_icmp .eq 46, 3), (106, .aload_n 0, 1), (107, .getfield 265, 3), (110, .iconst 2, 1), (111, .if_icmp .ne 22, 3), (114, .aload_n 0, 1), (115, .getfield 74, 3), (118, .iload 4, 2), (120, .iaload, 1), (121, .aload_n 0, 1), (122, .getfield 74, 3), (125, .iload_n 3, 1), (126, .iaload, 1), (127, .if_icmp .ge 25, 3), (130, .goto 19, 3), (133, .aload_n 0, 1), (134, .getfield 74, 3), (137, .iload 4, 2), (139, .iaload, 1), (140, .aload_n 0, 1), (141, .getfield 74, 3), (144, .iload_n 3, 1), (145, .iaload, 1), (146, .if_icmp .le 6, 3), (149, .iload 4, 2), (151, .istore_n 3, 1), (152, .iinc 4 1, 3), (155, .goto (-79), 3), (158, .iload_n 3, 1), (159, .iconst (-1), 1), (160, .if_icmp .ne 7, 3), (163, .iconst (-1), 1), (164, .goto 14, 3), (167, .aload_n 0, 1), (168, .getfield 65, 3), (171, .bipush 8, 2), (173, .iload_n 1, 1), (174, .imul, 1), (175, .iload_n 3, 1), (176, .iadd, 1), (177, .iaload, 1), (178, .ireturn, 1)]
theorem qX9_turns : ∀ q ∈ kX9_turns, decode mX9_turns.2.2.1 q.1 = .ok (q.2.1, q.2.2) ∧ am_iok mX9_turns.2.2.2.1 q.1 q.2.1 q.2.2 = true := by decide +kernel
set_option maxRecDepth 100000 in
theorem wX9_turns : Cond.code mX9_turns.2.1 mX9_turns.2.2.1 mX9_turns.2.2.2.1 mX9_turns.2.2.2.2.1 ∈ am_T := List.mem_filter.mpr ⟨List.mem_of_getElem? (i := 1694) rfl, rfl⟩
set_option maxHeartbeats 4000000 in
set_option maxRecDepth 100000 in
theorem tX9_turns (l : Launch) (d : Nat) {s0 : AS} {a1 : Int32} {rE : Int32} (hf : fX9_turns s0 a1 = some rE) : am_Ct l (d + 3) mX9_turns [.inr (.inr ((10, 0, 0), 215)), .inl a1] s0 s0 (some (.inl rE)) := by
  refine am_sim l (d + 2) (code := kX9_turns) (by decide +kernel) wX9_turns qX9_turns (Nat.le_of_ble_eq_true rfl) ?_
  intro X hX
  show X 0 [(0, .inr (.inr ((10, 0, 0), 215))), (1, .inl a1)] [] s0
  unfold fX9_turns at hf
  refine am_blk hX 0 6 (And.intro rfl (And.intro (fun hb => ?_) (fun hb => ?_)))
  · have hf := am_it hf hb
    show X 71 [(2, .inl (-1 : Int32)), (0, .inr (.inr ((10, 0, 0), 215))), (1, .inl a1)] [] s0
    refine am_jn hf (fun J158 => ∀ (x1 : Int32), J158 x1 = some rE → X 158 [(0, .inr (.inr ((10, 0, 0), 215))), (1, .inl a1), (3, .inl x1)] [] s0) ?_ ?_
    · intro x1 hf
      refine am_jn hf (fun J178 => ∀ (x2 : Int32), J178 x2 = some rE → X 178 [] [.inl x2] s0) ?_ ?_
      · intro x2 hf
        refine am_blk hX 101 1 (am_rpi hf)
      · intro J178 hJ178 hf
        refine am_blk hX 88 3 (And.intro (fun hb => ?_) (fun hb => ?_))
        · have hf := am_if hf hb
          show X 167 [(0, .inr (.inr ((10, 0, 0), 215))), (1, .inl a1), (3, .inl x1)] [] s0
          obtain ⟨g3, hf⟩ := am_g_of hf
          refine am_blk hX 93 8 (And.intro rfl (And.intro rfl (And.intro g3 (?_))))
          show X 178 [(0, .inr (.inr ((10, 0, 0), 215))), (1, .inl a1), (3, .inl x1)] [.inl (s0.1 232 ((((8 : Int32) * a1) + x1).toNatClampNeg))] s0
          exact am_wk hX [] (hJ178 (s0.1 232 ((((8 : Int32) * a1) + x1).toNatClampNeg)) hf)
        · have hf := am_it hf hb
          show X 163 [(0, .inr (.inr ((10, 0, 0), 215))), (1, .inl a1), (3, .inl x1)] [] s0
          refine am_blk hX 91 2 (?_)
          show X 178 [(0, .inr (.inr ((10, 0, 0), 215))), (1, .inl a1), (3, .inl x1)] [.inl (-1 : Int32)] s0
          exact am_wk hX [] (hJ178 (-1 : Int32) hf)
    · intro J158 hJ158 hf
      have hL76 : ∀ (n76 : Nat) (x4 : Int32) (x5 : Int32), fX9_turns_L76 a1 s0 J158 n76 x4 x5 = some rE → X 76 [(0, .inr (.inr ((10, 0, 0), 215))), (1, .inl a1), (3, .inl x4), (4, .inl x5)] [] s0 := by
        intro n76
        induction n76 with
        | zero => intro x4 x5 hf; exact am_no (show none = some _ from hf)
        | succ n76 ih76 =>
          intro x4 x5 hf
          obtain ⟨v6, hcv6, hf⟩ := am_r_of hf
          refine am_blk hX 44 4 (And.intro rfl (And.intro rfl (Exists.intro s0 (Exists.intro (some (.inl v6)) (And.intro (tX9_people l (d + 1) hcv6) (And.intro (fun hb => ?_) (fun hb => ?_)))))))
          · have hf := am_it hf hb
            show X 158 [(0, .inr (.inr ((10, 0, 0), 215))), (1, .inl a1), (3, .inl x4), (4, .inl x5)] [] s0
            exact am_wk hX [0, 1, 2] (hJ158 x4 hf)
          · have hf := am_if hf hb
            show X 85 [(0, .inr (.inr ((10, 0, 0), 215))), (1, .inl a1), (3, .inl x4), (4, .inl x5)] [] s0
            obtain ⟨g7, hf⟩ := am_g_of hf
            refine am_jn hf (fun J152 => ∀ (x8 : Int32), J152 x8 = some rE → X 152 [(0, .inr (.inr ((10, 0, 0), 215))), (1, .inl a1), (3, .inl x8), (4, .inl x5)] [] s0) ?_ ?_
            · intro x8 hf
              refine am_blk hX 86 1 (am_nl (Z := fun x9 => X 155 [(4, .inl x9), (0, .inr (.inr ((10, 0, 0), 215))), (1, .inl a1), (3, .inl x8)] [] s0) hf (fun x9 hf => ?_))
              refine am_blk hX 87 1 (?_)
              show X 76 [(4, .inl x9), (0, .inr (.inr ((10, 0, 0), 215))), (1, .inl a1), (3, .inl x8)] [] s0
              exact am_wk hX [1, 2, 3, 0] (ih76 x8 x9 hf)
            · intro J152 hJ152 hf
              refine am_blk hX 48 10 (And.intro rfl (And.intro rfl (And.intro g7 (And.intro (fun hb => ?_) (fun hb => ?_)))))
              · have hf := am_it hf hb
                show X 152 [(0, .inr (.inr ((10, 0, 0), 215))), (1, .inl a1), (3, .inl x4), (4, .inl x5)] [] s0
                exact am_wk hX [0, 1, 2, 3] (hJ152 x4 hf)
              · have hf := am_if hf hb
                show X 101 [(0, .inr (.inr ((10, 0, 0), 215))), (1, .inl a1), (3, .inl x4), (4, .inl x5)] [] s0
                refine am_jn hf (fun J149 => J149 = some rE → X 149 [(0, .inr (.inr ((10, 0, 0), 215))), (1, .inl a1), (4, .inl x5)] [] s0) ?_ ?_
                · intro hf
                  refine am_blk hX 84 2 (?_)
                  show X 152 [(3, .inl x5), (0, .inr (.inr ((10, 0, 0), 215))), (1, .inl a1), (4, .inl x5)] [] s0
                  exact am_wk hX [1, 2, 0, 3] (hJ152 x5 hf)
                · intro J149 hJ149 hf
                  refine am_blk hX 58 3 (And.intro (fun hb => ?_) (fun hb => ?_))
                  · have hf := am_it hf hb
                    show X 149 [(0, .inr (.inr ((10, 0, 0), 215))), (1, .inl a1), (3, .inl x4), (4, .inl x5)] [] s0
                    exact am_wk hX [0, 1, 3] (hJ149 hf)
                  · have hf := am_if hf hb
                    show X 106 [(0, .inr (.inr ((10, 0, 0), 215))), (1, .inl a1), (3, .inl x4), (4, .inl x5)] [] s0
                    refine am_blk hX 61 4 (And.intro rfl (And.intro (fun hb => ?_) (fun hb => ?_)))
                    · have hf := am_if hf hb
                      show X 133 [(0, .inr (.inr ((10, 0, 0), 215))), (1, .inl a1), (3, .inl x4), (4, .inl x5)] [] s0
                      obtain ⟨g10, hf⟩ := am_g_of hf
                      obtain ⟨g11, hf⟩ := am_g_of hf
                      refine am_blk hX 75 9 (And.intro rfl (And.intro rfl (And.intro g10 (And.intro rfl (And.intro rfl (And.intro g11 (And.intro (fun hb => ?_) (fun hb => ?_))))))))
                      · have hf := am_it hf hb
                        show X 152 [(0, .inr (.inr ((10, 0, 0), 215))), (1, .inl a1), (3, .inl x4), (4, .inl x5)] [] s0
                        exact am_wk hX [0, 1, 2, 3] (hJ152 x4 hf)
                      · have hf := am_if hf hb
                        show X 149 [(0, .inr (.inr ((10, 0, 0), 215))), (1, .inl a1), (3, .inl x4), (4, .inl x5)] [] s0
                        exact am_wk hX [0, 1, 3] (hJ149 hf)
                    · have hf := am_it hf hb
                      show X 114 [(0, .inr (.inr ((10, 0, 0), 215))), (1, .inl a1), (3, .inl x4), (4, .inl x5)] [] s0
                      obtain ⟨g12, hf⟩ := am_g_of hf
                      obtain ⟨g13, hf⟩ := am_g_of hf
                      refine am_blk hX 65 9 (And.intro rfl (And.intro rfl (And.intro g12 (And.intro rfl (And.intro rfl (And.intro g13 (And.intro (fun hb => ?_) (fun hb => ?_))))))))
                      · have hf := am_it hf hb
                        show X 152 [(0, .inr (.inr ((10, 0, 0), 215))), (1, .inl a1), (3, .inl x4), (4, .inl x5)] [] s0
                        exact am_wk hX [0, 1, 2, 3] (hJ152 x4 hf)
                      · have hf := am_if hf hb
                        show X 130 [(0, .inr (.inr ((10, 0, 0), 215))), (1, .inl a1), (3, .inl x4), (4, .inl x5)] [] s0
                        refine am_blk hX 74 1 (?_)
                        show X 149 [(0, .inr (.inr ((10, 0, 0), 215))), (1, .inl a1), (3, .inl x4), (4, .inl x5)] [] s0
                        exact am_wk hX [0, 1, 3] (hJ149 hf)
      refine am_blk hX 40 4 (?_)
      show X 76 [(4, .inl (0 : Int32)), (3, .inl (-1 : Int32)), (2, .inl (-1 : Int32)), (0, .inr (.inr ((10, 0, 0), 215))), (1, .inl a1)] [] s0
      exact am_wk hX [3, 4, 1, 0] (hL76 am_fu (-1 : Int32) (0 : Int32) hf)
  · have hf := am_if hf hb
    show X 10 [(2, .inl (-1 : Int32)), (0, .inr (.inr ((10, 0, 0), 215))), (1, .inl a1)] [] s0
    have hL15 : ∀ (n15 : Nat) (x14 : Int32) (x15 : Int32) (x16 : Int32), fX9_turns_L15 a1 s0 n15 x14 x15 x16 = some rE → X 15 [(0, .inr (.inr ((10, 0, 0), 215))), (1, .inl a1), (2, .inl x14), (3, .inl x15), (4, .inl x16)] [] s0 := by
      intro n15
      induction n15 with
      | zero => intro x14 x15 x16 hf; exact am_no (show none = some _ from hf)
      | succ n15 ih15 =>
        intro x14 x15 x16 hf
        obtain ⟨g17, hf⟩ := am_g_of hf
        refine am_blk hX 10 6 (And.intro rfl (And.intro rfl (And.intro g17 (And.intro (fun hb => ?_) (fun hb => ?_)))))
        · have hf := am_it hf hb
          show X 69 [(0, .inr (.inr ((10, 0, 0), 215))), (1, .inl a1), (2, .inl x14), (3, .inl x15), (4, .inl x16)] [] s0
          refine am_blk hX 38 2 (am_rpi hf)
        · have hf := am_if hf hb
          show X 26 [(0, .inr (.inr ((10, 0, 0), 215))), (1, .inl a1), (2, .inl x14), (3, .inl x15), (4, .inl x16)] [] s0
          refine am_jn hf (fun J43 => ∀ (x18 : Int32), J43 x18 = some rE → X 43 [(0, .inr (.inr ((10, 0, 0), 215))), (1, .inl a1), (2, .inl x14), (3, .inl x15), (4, .inl x16)] [.inl x18, .inl x16, .inl a1, .inr (.inr ((10, 0, 0), 215))] s0) ?_ ?_
          · intro x18 hf
            obtain ⟨v19, hcv19, hf⟩ := am_r_of hf
            refine am_jn hf (fun J63 => ∀ (x20 : Int32) (x21 : Int32), J63 x20 x21 = some rE → X 63 [(0, .inr (.inr ((10, 0, 0), 215))), (1, .inl a1), (2, .inl x20), (3, .inl x21), (4, .inl x16)] [] s0) ?_ ?_
            · intro x20 x21 hf
              refine am_blk hX 36 1 (am_nl (Z := fun x22 => X 66 [(4, .inl x22), (0, .inr (.inr ((10, 0, 0), 215))), (1, .inl a1), (2, .inl x20), (3, .inl x21)] [] s0) hf (fun x22 hf => ?_))
              refine am_blk hX 37 1 (?_)
              show X 15 [(4, .inl x22), (0, .inr (.inr ((10, 0, 0), 215))), (1, .inl a1), (2, .inl x20), (3, .inl x21)] [] s0
              exact am_wk hX [1, 2, 3, 4, 0] (ih15 x20 x21 x22 hf)
            · intro J63 hJ63 hf
              refine am_blk hX 26 5 (And.intro rfl (And.intro rfl (Exists.intro s0 (Exists.intro (some (.inl v19)) (And.intro (tX9_votesFor l (d + 0) hcv19) (And.intro (fun hb => ?_) (fun hb => ?_)))))))
              · have hf := am_it hf hb
                show X 57 [(5, .inl v19), (0, .inr (.inr ((10, 0, 0), 215))), (1, .inl a1), (2, .inl x14), (3, .inl x15), (4, .inl x16)] [] s0
                refine am_blk hX 32 4 (?_)
                show X 63 [(3, .inl v19), (2, .inl x16), (5, .inl v19), (0, .inr (.inr ((10, 0, 0), 215))), (1, .inl a1), (4, .inl x16)] [] s0
                exact am_wk hX [3, 4, 1, 0, 5] (hJ63 x16 v19 hf)
              · have hf := am_if hf hb
                show X 54 [(5, .inl v19), (0, .inr (.inr ((10, 0, 0), 215))), (1, .inl a1), (2, .inl x14), (3, .inl x15), (4, .inl x16)] [] s0
                refine am_blk hX 31 1 (?_)
                show X 63 [(5, .inl v19), (0, .inr (.inr ((10, 0, 0), 215))), (1, .inl a1), (2, .inl x14), (3, .inl x15), (4, .inl x16)] [] s0
                exact am_wk hX [1, 2, 3, 4, 5] (hJ63 x14 x15 hf)
          · intro J43 hJ43 hf
            refine am_blk hX 16 7 (And.intro rfl (And.intro (fun hb => ?_) (fun hb => ?_)))
            · have hf := am_if hf hb
              show X 42 [(0, .inr (.inr ((10, 0, 0), 215))), (1, .inl a1), (2, .inl x14), (3, .inl x15), (4, .inl x16)] [.inl x16, .inl a1, .inr (.inr ((10, 0, 0), 215))] s0
              refine am_blk hX 25 1 (?_)
              show X 43 [(0, .inr (.inr ((10, 0, 0), 215))), (1, .inl a1), (2, .inl x14), (3, .inl x15), (4, .inl x16)] [.inl (0 : Int32), .inl x16, .inl a1, .inr (.inr ((10, 0, 0), 215))] s0
              exact am_wk hX [0, 1, 2, 3, 4] (hJ43 (0 : Int32) hf)
            · have hf := am_it hf hb
              show X 38 [(0, .inr (.inr ((10, 0, 0), 215))), (1, .inl a1), (2, .inl x14), (3, .inl x15), (4, .inl x16)] [.inl x16, .inl a1, .inr (.inr ((10, 0, 0), 215))] s0
              refine am_blk hX 23 2 (?_)
              show X 43 [(0, .inr (.inr ((10, 0, 0), 215))), (1, .inl a1), (2, .inl x14), (3, .inl x15), (4, .inl x16)] [.inl (1 : Int32), .inl x16, .inl a1, .inr (.inr ((10, 0, 0), 215))] s0
              exact am_wk hX [0, 1, 2, 3, 4] (hJ43 (1 : Int32) hf)
    refine am_blk hX 6 4 (?_)
    show X 15 [(4, .inl (0 : Int32)), (3, .inl (0 : Int32)), (2, .inl (-1 : Int32)), (0, .inr (.inr ((10, 0, 0), 215))), (1, .inl a1)] [] s0
    exact am_wk hX [3, 4, 2, 1, 0] (hL15 am_fu (-1 : Int32) (0 : Int32) (0 : Int32) hf)
