/-! METHODS, printed by gen.py. -/
def fX6_heaviest_L82 (o0 : Nat) (s3 : AS) : Nat → Int32 → Int32 → Int32 → Option (AS × Int32)
  | 0, _, _, _ => none
  | n82 + 1, x4, x5, x6 =>
    if (7 : Int32) ≤ x6 then (some (s3, x4)) else (am_g (¬ (x6 < 0 ∨ 7 ≤ x6.toNatClampNeg)) (am_let (fun (x8 : Int32) (x9 : Int32) => am_let (x6 + (1 : Int32)) (fun (x10 : Int32) => fX6_heaviest_L82 o0 s3 n82 x8 x9 x10)) (fun J113 => if (s3.1 (o0 + 8) x6.toNatClampNeg) ≤ x5 then (J113 x4 x5) else (am_g (¬ (x6 < 0 ∨ 7 ≤ x6.toNatClampNeg)) (am_let (s3.1 (o0 + 8) x6.toNatClampNeg) (fun (x12 : Int32) => J113 x6 x12))))))
def fX6_heaviest_L10 (o0 : Nat) (o1 : Nat) (a2 : Int32) (J74 : AS → Option (AS × Int32)) : Nat → AS → Int32 → Option (AS × Int32)
  | 0, _, _ => none
  | n10 + 1, s13, x14 =>
    if (s13.1 o1 6) ≤ x14 then (J74 s13) else (am_g (¬ (x14 < 0 ∨ 8 ≤ x14.toNatClampNeg)) (am_let (fun (s16 : AS) => am_let (x14 + (1 : Int32)) (fun (x17 : Int32) => fX6_heaviest_L10 o0 o1 a2 J74 n10 s16 x17)) (fun J68 => if (s13.1 (o0 + 7) x14.toNatClampNeg) < 0 then (J68 s13) else (am_g (¬ (x14 < 0 ∨ 8 ≤ x14.toNatClampNeg)) (if (7 : Int32) ≤ (s13.1 (o0 + 7) x14.toNatClampNeg) then (J68 s13) else (am_g (¬ (x14 < 0 ∨ 8 ≤ x14.toNatClampNeg)) (am_g (¬ ((s13.1 (o0 + 7) x14.toNatClampNeg) < 0 ∨ 7 ≤ (s13.1 (o0 + 7) x14.toNatClampNeg).toNatClampNeg)) (am_let (fun (x21 : Int32) => am_g (¬ ((s13.1 (o0 + 7) x14.toNatClampNeg) < 0 ∨ 7 ≤ (s13.1 (o0 + 7) x14.toNatClampNeg).toNatClampNeg)) (am_let (am_si s13 (o0 + 8) ((s13.1 (o0 + 7) x14.toNatClampNeg).toNatClampNeg) ((s13.1 (o0 + 8) ((s13.1 (o0 + 7) x14.toNatClampNeg).toNatClampNeg)) + x21)) (fun (s23 : AS) => J68 s23))) (fun J66 => if a2 = 0 then (J66 (1 : Int32)) else (am_g (¬ (x14 < 0 ∨ 8 ≤ x14.toNatClampNeg)) (am_g (¬ ((4 : Int32) < 0 ∨ 5 ≤ (4 : Int32).toNatClampNeg)) (J66 (s13.1 (o1 + 12 + 1 + x14.toNatClampNeg) ((4 : Int32).toNatClampNeg))))))))))))))
def fX6_heaviest (s0 : AS) (o0 : Nat) (o1 : Nat) (a2 : Int32) : Option (AS × Int32) :=
  am_c (fJ7_fill_53178 s0 (o0 + 8) 7 (0 : Int32)) (fun (s2 : AS) (v1 : Unit) => am_let (fun (s3 : AS) => fX6_heaviest_L82 o0 s3 am_fu (-1 : Int32) (0 : Int32) (0 : Int32)) (fun J74 => fX6_heaviest_L10 o0 o1 a2 J74 am_fu s2 (0 : Int32)))
def kX6_heaviest : List (Nat × Instr × Nat) := [(0, .aload_n 0, 1), (1, .getfield 33, 3), (4, .iconst 0, 1), (5, .invokestatic 85, 3), (8, .iconst 0, 1), (9, .istore_n 3, 1), (10, .iload_n 3, 1), (11, .aload_n 1, 1), (12, .getfield 97, 3), (15, .if_icmp .ge 59, 3), (18, .aload_n 0, 1), (19, .getfield 30, 3), (22, .iload_n 3, 1), (23, .iaload, 1), (24, .ifCond .lt 44, 3), (27, .aload_n 0, 1), (28, .getfield 30, 3), (31, .iload_n 3, 1), (32, .iaload, 1), (33, .bipush 7, 2), (35, .if_icmp .ge 33, 3), (38, .aload_n 0, 1), (39, .getfield 33, 3), (42, .aload_n 0, 1), (43, .getfield 30, 3), (46, .iload_n 3, 1), (47, .iaload, 1), (48, .dup2, 1), (49, .iaload, 1), (50, .iload_n 2, 1), (51, .ifCond .eq 14, 3), (54, .aload_n 1, 1), (55, .getfield 102, 3), (58, .iload_n 3, 1), (59, .aaload, 1), (60, .iconst 4, 1), (61, .iaload, 1), (62, .goto 4, 3), (65, .iconst 1, 1), (66, .iadd, 1), (67, .iastore, 1), (68, .iinc 3 1, 3), (71, .goto (-61), 3), (74, .iconst (-1), 1), (75, .istore_n 3, 1), (76, .iconst 0, 1), (77, .istore 4, 2), (79, .iconst 0, 1), (80, .istore 5, 2), (82, .iload 5, 2), (84, .bipush 7, 2), (86, .if_icmp .ge 33, 3), (89, .aload_n 0, 1), (90, .getfield 33, 3), (93, .iload 5, 2), (95, .iaload, 1), (96, .iload 4, 2), (98, .if_icmp .le 15, 3), (101, .aload_n 0, 1), (102, .getfield 33, 3), (105, .iload 5, 2), (107, .iaload, 1), (108, .istore 4, 2), (110, .iload 5, 2), (112, .istore_n 3, 1), (113, .iinc 5 1, 3), (116, .goto (-34), 3), (119, .iload_n 3, 1), (120, .ireturn, 1)]
theorem qX6_heaviest : ∀ q ∈ kX6_heaviest, decode mX6_heaviest.2.2.1 q.1 = .ok (q.2.1, q.2.2) ∧ am_iok mX6_heaviest.2.2.2.1 q.1 q.2.1 q.2.2 = true := by decide +kernel
set_option maxRecDepth 100000 in
theorem wX6_heaviest : Cond.code mX6_heaviest.2.1 mX6_heaviest.2.2.1 mX6_heaviest.2.2.2.1 mX6_heaviest.2.2.2.2.1 ∈ am_T := List.mem_filter.mpr ⟨List.mem_of_getElem? (i := 807) rfl, rfl⟩
set_option maxHeartbeats 4000000 in
set_option maxRecDepth 100000 in
theorem tX6_heaviest (l : Launch) (d : Nat) {s0 : AS} {o0 : Nat} {o1 : Nat} {a2 : Int32} {sE : AS} {rE : Int32} (hf : fX6_heaviest s0 o0 o1 a2 = some (sE, rE)) : am_Ct l (d + 2) mX6_heaviest [.inr (.inr ((7, 0, 0), o0)), .inr (.inr ((4, 0, 0), o1)), .inl a2] s0 sE (some (.inl rE)) := by
  refine am_sim l (d + 1) (code := kX6_heaviest) (by decide +kernel) wX6_heaviest qX6_heaviest (Nat.le_of_ble_eq_true rfl) ?_
  intro X hX
  show X 0 [(0, .inr (.inr ((7, 0, 0), o0))), (1, .inr (.inr ((4, 0, 0), o1))), (2, .inl a2)] [] s0
  unfold fX6_heaviest at hf
  obtain ⟨s2, v1, hcv1, hf⟩ := am_c_of hf
  refine am_jn hf (fun J74 => ∀ (s3 : AS), J74 s3 = some (sE, rE) → X 74 [(0, .inr (.inr ((7, 0, 0), o0)))] [] s3) ?_ ?_
  · intro s3 hf
    have hL82 : ∀ (n82 : Nat) (x4 : Int32) (x5 : Int32) (x6 : Int32), fX6_heaviest_L82 o0 s3 n82 x4 x5 x6 = some (sE, rE) → X 82 [(0, .inr (.inr ((7, 0, 0), o0))), (3, .inl x4), (4, .inl x5), (5, .inl x6)] [] s3 := by
      intro n82
      induction n82 with
      | zero => intro x4 x5 x6 hf; exact am_no (show none = some _ from hf)
      | succ n82 ih82 =>
        intro x4 x5 x6 hf
        refine am_blk hX 49 3 (And.intro (fun hb => ?_) (fun hb => ?_))
        · have hf := am_it hf hb
          show X 119 [(0, .inr (.inr ((7, 0, 0), o0))), (3, .inl x4), (4, .inl x5), (5, .inl x6)] [] s3
          refine am_blk hX 67 2 (am_ri hf)
        · have hf := am_if hf hb
          show X 89 [(0, .inr (.inr ((7, 0, 0), o0))), (3, .inl x4), (4, .inl x5), (5, .inl x6)] [] s3
          obtain ⟨g7, hf⟩ := am_g_of hf
          refine am_jn hf (fun J113 => ∀ (x8 : Int32) (x9 : Int32), J113 x8 x9 = some (sE, rE) → X 113 [(0, .inr (.inr ((7, 0, 0), o0))), (3, .inl x8), (4, .inl x9), (5, .inl x6)] [] s3) ?_ ?_
          · intro x8 x9 hf
            refine am_blk hX 65 1 (am_nl (Z := fun x10 => X 116 [(5, .inl x10), (0, .inr (.inr ((7, 0, 0), o0))), (3, .inl x8), (4, .inl x9)] [] s3) hf (fun x10 hf => ?_))
            refine am_blk hX 66 1 (?_)
            show X 82 [(5, .inl x10), (0, .inr (.inr ((7, 0, 0), o0))), (3, .inl x8), (4, .inl x9)] [] s3
            exact am_wk hX [1, 2, 3, 0] (ih82 x8 x9 x10 hf)
          · intro J113 hJ113 hf
            refine am_blk hX 52 6 (And.intro rfl (And.intro rfl (And.intro g7 (And.intro (fun hb => ?_) (fun hb => ?_)))))
            · have hf := am_it hf hb
              show X 113 [(0, .inr (.inr ((7, 0, 0), o0))), (3, .inl x4), (4, .inl x5), (5, .inl x6)] [] s3
              exact am_wk hX [0, 1, 2, 3] (hJ113 x4 x5 hf)
            · have hf := am_if hf hb
              show X 101 [(0, .inr (.inr ((7, 0, 0), o0))), (3, .inl x4), (4, .inl x5), (5, .inl x6)] [] s3
              obtain ⟨g11, hf⟩ := am_g_of hf
              refine am_blk hX 58 5 (And.intro rfl (And.intro rfl (And.intro g11 (am_nl (Z := fun x12 => X 110 [(4, .inl x12), (0, .inr (.inr ((7, 0, 0), o0))), (3, .inl x4), (5, .inl x6)] [] s3) hf (fun x12 hf => ?_)))))
              refine am_blk hX 63 2 (?_)
              show X 113 [(3, .inl x6), (4, .inl x12), (0, .inr (.inr ((7, 0, 0), o0))), (5, .inl x6)] [] s3
              exact am_wk hX [2, 0, 1, 3] (hJ113 x6 x12 hf)
    refine am_blk hX 43 6 (?_)
    show X 82 [(5, .inl (0 : Int32)), (4, .inl (0 : Int32)), (3, .inl (-1 : Int32)), (0, .inr (.inr ((7, 0, 0), o0)))] [] s3
    exact am_wk hX [3, 2, 1, 0] (hL82 am_fu (-1 : Int32) (0 : Int32) (0 : Int32) hf)
  · intro J74 hJ74 hf
    have hL10 : ∀ (n10 : Nat) (s13 : AS) (x14 : Int32), fX6_heaviest_L10 o0 o1 a2 J74 n10 s13 x14 = some (sE, rE) → X 10 [(0, .inr (.inr ((7, 0, 0), o0))), (1, .inr (.inr ((4, 0, 0), o1))), (2, .inl a2), (3, .inl x14)] [] s13 := by
      intro n10
      induction n10 with
      | zero => intro s13 x14 hf; exact am_no (show none = some _ from hf)
      | succ n10 ih10 =>
        intro s13 x14 hf
        refine am_blk hX 6 4 (And.intro rfl (And.intro (fun hb => ?_) (fun hb => ?_)))
        · have hf := am_it hf hb
          show X 74 [(0, .inr (.inr ((7, 0, 0), o0))), (1, .inr (.inr ((4, 0, 0), o1))), (2, .inl a2), (3, .inl x14)] [] s13
          exact am_wk hX [0] (hJ74 s13 hf)
        · have hf := am_if hf hb
          show X 18 [(0, .inr (.inr ((7, 0, 0), o0))), (1, .inr (.inr ((4, 0, 0), o1))), (2, .inl a2), (3, .inl x14)] [] s13
          obtain ⟨g15, hf⟩ := am_g_of hf
          refine am_jn hf (fun J68 => ∀ (s16 : AS), J68 s16 = some (sE, rE) → X 68 [(0, .inr (.inr ((7, 0, 0), o0))), (1, .inr (.inr ((4, 0, 0), o1))), (2, .inl a2), (3, .inl x14)] [] s16) ?_ ?_
          · intro s16 hf
            refine am_blk hX 41 1 (am_nl (Z := fun x17 => X 71 [(3, .inl x17), (0, .inr (.inr ((7, 0, 0), o0))), (1, .inr (.inr ((4, 0, 0), o1))), (2, .inl a2)] [] s16) hf (fun x17 hf => ?_))
            refine am_blk hX 42 1 (?_)
            show X 10 [(3, .inl x17), (0, .inr (.inr ((7, 0, 0), o0))), (1, .inr (.inr ((4, 0, 0), o1))), (2, .inl a2)] [] s16
            exact am_wk hX [1, 2, 3, 0] (ih10 s16 x17 hf)
          · intro J68 hJ68 hf
            refine am_blk hX 10 5 (And.intro rfl (And.intro rfl (And.intro g15 (And.intro (fun hb => ?_) (fun hb => ?_)))))
            · have hf := am_it hf hb
              show X 68 [(0, .inr (.inr ((7, 0, 0), o0))), (1, .inr (.inr ((4, 0, 0), o1))), (2, .inl a2), (3, .inl x14)] [] s13
              exact am_wk hX [0, 1, 2, 3] (hJ68 s13 hf)
            · have hf := am_if hf hb
              show X 27 [(0, .inr (.inr ((7, 0, 0), o0))), (1, .inr (.inr ((4, 0, 0), o1))), (2, .inl a2), (3, .inl x14)] [] s13
              obtain ⟨g18, hf⟩ := am_g_of hf
              refine am_blk hX 15 6 (And.intro rfl (And.intro rfl (And.intro g18 (And.intro (fun hb => ?_) (fun hb => ?_)))))
              · have hf := am_it hf hb
                show X 68 [(0, .inr (.inr ((7, 0, 0), o0))), (1, .inr (.inr ((4, 0, 0), o1))), (2, .inl a2), (3, .inl x14)] [] s13
                exact am_wk hX [0, 1, 2, 3] (hJ68 s13 hf)
              · have hf := am_if hf hb
                show X 38 [(0, .inr (.inr ((7, 0, 0), o0))), (1, .inr (.inr ((4, 0, 0), o1))), (2, .inl a2), (3, .inl x14)] [] s13
                obtain ⟨g19, hf⟩ := am_g_of hf
                obtain ⟨g20, hf⟩ := am_g_of hf
                refine am_jn hf (fun J66 => ∀ (x21 : Int32), J66 x21 = some (sE, rE) → X 66 [(0, .inr (.inr ((7, 0, 0), o0))), (1, .inr (.inr ((4, 0, 0), o1))), (2, .inl a2), (3, .inl x14)] [.inl x21, .inl (s13.1 (o0 + 8) ((s13.1 (o0 + 7) x14.toNatClampNeg).toNatClampNeg)), .inl (s13.1 (o0 + 7) x14.toNatClampNeg), .inr (.inr ((21, 7, 0), o0 + 8))] s13) ?_ ?_
                · intro x21 hf
                  obtain ⟨g22, hf⟩ := am_g_of hf
                  refine am_blk hX 39 2 (And.intro rfl (And.intro g22 (am_nl (Z := fun s23 => X 68 [(0, .inr (.inr ((7, 0, 0), o0))), (1, .inr (.inr ((4, 0, 0), o1))), (2, .inl a2), (3, .inl x14)] [] s23) hf (fun s23 hf => ?_))))
                  exact am_wk hX [0, 1, 2, 3] (hJ68 s23 hf)
                · intro J66 hJ66 hf
                  refine am_blk hX 21 10 (And.intro rfl (And.intro rfl (And.intro rfl (And.intro g19 (And.intro rfl (And.intro g20 (And.intro (fun hb => ?_) (fun hb => ?_))))))))
                  · have hf := am_it hf hb
                    show X 65 [(0, .inr (.inr ((7, 0, 0), o0))), (1, .inr (.inr ((4, 0, 0), o1))), (2, .inl a2), (3, .inl x14)] [.inl (s13.1 (o0 + 8) ((s13.1 (o0 + 7) x14.toNatClampNeg).toNatClampNeg)), .inl (s13.1 (o0 + 7) x14.toNatClampNeg), .inr (.inr ((21, 7, 0), o0 + 8))] s13
                    refine am_blk hX 38 1 (?_)
                    show X 66 [(0, .inr (.inr ((7, 0, 0), o0))), (1, .inr (.inr ((4, 0, 0), o1))), (2, .inl a2), (3, .inl x14)] [.inl (1 : Int32), .inl (s13.1 (o0 + 8) ((s13.1 (o0 + 7) x14.toNatClampNeg).toNatClampNeg)), .inl (s13.1 (o0 + 7) x14.toNatClampNeg), .inr (.inr ((21, 7, 0), o0 + 8))] s13
                    exact am_wk hX [0, 1, 2, 3] (hJ66 (1 : Int32) hf)
                  · have hf := am_if hf hb
                    show X 54 [(0, .inr (.inr ((7, 0, 0), o0))), (1, .inr (.inr ((4, 0, 0), o1))), (2, .inl a2), (3, .inl x14)] [.inl (s13.1 (o0 + 8) ((s13.1 (o0 + 7) x14.toNatClampNeg).toNatClampNeg)), .inl (s13.1 (o0 + 7) x14.toNatClampNeg), .inr (.inr ((21, 7, 0), o0 + 8))] s13
                    obtain ⟨g24, hf⟩ := am_g_of hf
                    obtain ⟨g25, hf⟩ := am_g_of hf
                    refine am_blk hX 31 7 (And.intro rfl (And.intro g24 (And.intro rfl (And.intro g25 (?_)))))
                    show X 66 [(0, .inr (.inr ((7, 0, 0), o0))), (1, .inr (.inr ((4, 0, 0), o1))), (2, .inl a2), (3, .inl x14)] [.inl (s13.1 (o1 + 12 + 1 + x14.toNatClampNeg) ((4 : Int32).toNatClampNeg)), .inl (s13.1 (o0 + 8) ((s13.1 (o0 + 7) x14.toNatClampNeg).toNatClampNeg)), .inl (s13.1 (o0 + 7) x14.toNatClampNeg), .inr (.inr ((21, 7, 0), o0 + 8))] s13
                    exact am_wk hX [0, 1, 2, 3] (hJ66 (s13.1 (o1 + 12 + 1 + x14.toNatClampNeg) ((4 : Int32).toNatClampNeg)) hf)
    refine am_blk hX 0 6 (And.intro rfl (And.intro rfl (Exists.intro s2 (Exists.intro none (And.intro (tJ7_fill_53178 l (d + 0) hcv1) (?_))))))
    show X 10 [(3, .inl (0 : Int32)), (0, .inr (.inr ((7, 0, 0), o0))), (1, .inr (.inr ((4, 0, 0), o1))), (2, .inl a2)] [] s2
    exact am_wk hX [1, 2, 3, 0] (hL10 am_fu s2 (0 : Int32) hf)
def fX6_voteByRank_L5 (o0 : Nat) (o1 : Nat) (a2 : Int32) (s0 : AS) (J64 : Int32 → Option Int32) : Nat → Int32 → Int32 → Option Int32
  | 0, _, _ => none
  | n5 + 1, x4, x5 =>
    if (s0.1 o1 6) ≤ x5 then (J64 x4) else (am_g (¬ (x5 < 0 ∨ 8 ≤ x5.toNatClampNeg)) (am_let (fun (x7 : Int32) => am_let (x5 + (1 : Int32)) (fun (x8 : Int32) => fX6_voteByRank_L5 o0 o1 a2 s0 J64 n5 x7 x8)) (fun J58 => if (s0.1 (o0 + 7) x5.toNatClampNeg) = (-1 : Int32) then (J58 x4) else (am_let (J58 x5) (fun J55 => if x4 = (-1 : Int32) then (J55) else (am_g (¬ (x5 < 0 ∨ 8 ≤ x5.toNatClampNeg)) (am_g (¬ (x4 < 0 ∨ 8 ≤ x4.toNatClampNeg)) (am_let (fun (x11 : Int32) => if x11 = a2 then (J55) else (J58 x4)) (fun J51 => if (s0.1 (o0 + 6) x4.toNatClampNeg) ≤ (s0.1 (o0 + 6) x5.toNatClampNeg) then (J51 (0 : Int32)) else (J51 (1 : Int32)))))))))))
def fX6_voteByRank (s0 : AS) (o0 : Nat) (o1 : Nat) (a2 : Int32) : Option Int32 :=
  am_let (fun (x1 : Int32) => am_let (fun (x2 : Int32) => some x2) (fun J79 => if x1 = (-1 : Int32) then (J79 (-1 : Int32)) else (am_g (¬ (x1 < 0 ∨ 8 ≤ x1.toNatClampNeg)) (J79 (s0.1 (o0 + 7) x1.toNatClampNeg))))) (fun J64 => fX6_voteByRank_L5 o0 o1 a2 s0 J64 am_fu (-1 : Int32) (0 : Int32))
def kX6_voteByRank : List (Nat × Instr × Nat) := [(0, .iconst (-1), 1), (1, .istore_n 3, 1), (2, .iconst 0, 1), (3, .istore 4, 2), (5, .iload 4, 2), (7, .aload_n 1, 1), (8, .getfield 97, 3), (11, .if_icmp .ge 53, 3), (14, .aload_n 0, 1), (15, .getfield 30, 3), (18, .iload 4, 2), (20, .iaload, 1), (21, .iconst (-1), 1), (22, .if_icmp .eq 36, 3), (25, .iload_n 3, 1), (26, .iconst (-1), 1), (27, .if_icmp .eq 28, 3), (30, .aload_n 0, 1), (31, .getfield 27, 3), (34, .iload 4, 2), (36, .iaload, 1), (37, .aload_n 0, 1), (38, .getfield 27, 3), (41, .iload_n 3, 1), (42, .iaload, 1), (43, .if_icmp .ge 7, 3), (46, .iconst 1, 1), (47, .goto 4, 3), (50, .iconst 0, 1), (51, .iload_n 2, 1), (52, .if_icmp .ne 6, 3), (55, .iload 4, 2), (57, .istore_n 3, 1), (58, .iinc 4 1, 3), (61, .goto (-56), 3), (64, .iload_n 3, 1), (65, .iconst (-1), 1), (66, .if_icmp .ne 7, 3), (69, .iconst (-1), 1), (70, .goto 9, 3), (73, .aload_n 0, 1), (74, .getfield 30, 3), (77, .iload_n 3, 1), (78, .iaload, 1), (79, .ireturn, 1)]
theorem qX6_voteByRank : ∀ q ∈ kX6_voteByRank, decode mX6_voteByRank.2.2.1 q.1 = .ok (q.2.1, q.2.2) ∧ am_iok mX6_voteByRank.2.2.2.1 q.1 q.2.1 q.2.2 = true := by decide +kernel
set_option maxRecDepth 100000 in
theorem wX6_voteByRank : Cond.code mX6_voteByRank.2.1 mX6_voteByRank.2.2.1 mX6_voteByRank.2.2.2.1 mX6_voteByRank.2.2.2.2.1 ∈ am_T := List.mem_filter.mpr ⟨List.mem_of_getElem? (i := 811) rfl, rfl⟩
set_option maxHeartbeats 4000000 in
set_option maxRecDepth 100000 in
theorem tX6_voteByRank (l : Launch) (d : Nat) {s0 : AS} {o0 : Nat} {o1 : Nat} {a2 : Int32} {rE : Int32} (hf : fX6_voteByRank s0 o0 o1 a2 = some rE) : am_Ct l (d + 1) mX6_voteByRank [.inr (.inr ((7, 0, 0), o0)), .inr (.inr ((4, 0, 0), o1)), .inl a2] s0 s0 (some (.inl rE)) := by
  refine am_sim l (d + 0) (code := kX6_voteByRank) (by decide +kernel) wX6_voteByRank qX6_voteByRank (Nat.le_of_ble_eq_true rfl) ?_
  intro X hX
  show X 0 [(0, .inr (.inr ((7, 0, 0), o0))), (1, .inr (.inr ((4, 0, 0), o1))), (2, .inl a2)] [] s0
  unfold fX6_voteByRank at hf
  refine am_jn hf (fun J64 => ∀ (x1 : Int32), J64 x1 = some rE → X 64 [(0, .inr (.inr ((7, 0, 0), o0))), (3, .inl x1)] [] s0) ?_ ?_
  · intro x1 hf
    refine am_jn hf (fun J79 => ∀ (x2 : Int32), J79 x2 = some rE → X 79 [] [.inl x2] s0) ?_ ?_
    · intro x2 hf
      refine am_blk hX 44 1 (am_rpi hf)
    · intro J79 hJ79 hf
      refine am_blk hX 35 3 (And.intro (fun hb => ?_) (fun hb => ?_))
      · have hf := am_if hf hb
        show X 73 [(0, .inr (.inr ((7, 0, 0), o0))), (3, .inl x1)] [] s0
        obtain ⟨g3, hf⟩ := am_g_of hf
        refine am_blk hX 40 4 (And.intro rfl (And.intro rfl (And.intro g3 (?_))))
        show X 79 [(0, .inr (.inr ((7, 0, 0), o0))), (3, .inl x1)] [.inl (s0.1 (o0 + 7) x1.toNatClampNeg)] s0
        exact am_wk hX [] (hJ79 (s0.1 (o0 + 7) x1.toNatClampNeg) hf)
      · have hf := am_it hf hb
        show X 69 [(0, .inr (.inr ((7, 0, 0), o0))), (3, .inl x1)] [] s0
        refine am_blk hX 38 2 (?_)
        show X 79 [(0, .inr (.inr ((7, 0, 0), o0))), (3, .inl x1)] [.inl (-1 : Int32)] s0
        exact am_wk hX [] (hJ79 (-1 : Int32) hf)
  · intro J64 hJ64 hf
    have hL5 : ∀ (n5 : Nat) (x4 : Int32) (x5 : Int32), fX6_voteByRank_L5 o0 o1 a2 s0 J64 n5 x4 x5 = some rE → X 5 [(0, .inr (.inr ((7, 0, 0), o0))), (1, .inr (.inr ((4, 0, 0), o1))), (2, .inl a2), (3, .inl x4), (4, .inl x5)] [] s0 := by
      intro n5
      induction n5 with
      | zero => intro x4 x5 hf; exact am_no (show none = some _ from hf)
      | succ n5 ih5 =>
        intro x4 x5 hf
        refine am_blk hX 4 4 (And.intro rfl (And.intro (fun hb => ?_) (fun hb => ?_)))
        · have hf := am_it hf hb
          show X 64 [(0, .inr (.inr ((7, 0, 0), o0))), (1, .inr (.inr ((4, 0, 0), o1))), (2, .inl a2), (3, .inl x4), (4, .inl x5)] [] s0
          exact am_wk hX [0, 3] (hJ64 x4 hf)
        · have hf := am_if hf hb
          show X 14 [(0, .inr (.inr ((7, 0, 0), o0))), (1, .inr (.inr ((4, 0, 0), o1))), (2, .inl a2), (3, .inl x4), (4, .inl x5)] [] s0
          obtain ⟨g6, hf⟩ := am_g_of hf
          refine am_jn hf (fun J58 => ∀ (x7 : Int32), J58 x7 = some rE → X 58 [(0, .inr (.inr ((7, 0, 0), o0))), (1, .inr (.inr ((4, 0, 0), o1))), (2, .inl a2), (3, .inl x7), (4, .inl x5)] [] s0) ?_ ?_
          · intro x7 hf
            refine am_blk hX 33 1 (am_nl (Z := fun x8 => X 61 [(4, .inl x8), (0, .inr (.inr ((7, 0, 0), o0))), (1, .inr (.inr ((4, 0, 0), o1))), (2, .inl a2), (3, .inl x7)] [] s0) hf (fun x8 hf => ?_))
            refine am_blk hX 34 1 (?_)
            show X 5 [(4, .inl x8), (0, .inr (.inr ((7, 0, 0), o0))), (1, .inr (.inr ((4, 0, 0), o1))), (2, .inl a2), (3, .inl x7)] [] s0
            exact am_wk hX [1, 2, 3, 4, 0] (ih5 x7 x8 hf)
          · intro J58 hJ58 hf
            refine am_blk hX 8 6 (And.intro rfl (And.intro rfl (And.intro g6 (And.intro (fun hb => ?_) (fun hb => ?_)))))
            · have hf := am_it hf hb
              show X 58 [(0, .inr (.inr ((7, 0, 0), o0))), (1, .inr (.inr ((4, 0, 0), o1))), (2, .inl a2), (3, .inl x4), (4, .inl x5)] [] s0
              exact am_wk hX [0, 1, 2, 3, 4] (hJ58 x4 hf)
            · have hf := am_if hf hb
              show X 25 [(0, .inr (.inr ((7, 0, 0), o0))), (1, .inr (.inr ((4, 0, 0), o1))), (2, .inl a2), (3, .inl x4), (4, .inl x5)] [] s0
              refine am_jn hf (fun J55 => J55 = some rE → X 55 [(0, .inr (.inr ((7, 0, 0), o0))), (1, .inr (.inr ((4, 0, 0), o1))), (2, .inl a2), (4, .inl x5)] [] s0) ?_ ?_
              · intro hf
                refine am_blk hX 31 2 (?_)
                show X 58 [(3, .inl x5), (0, .inr (.inr ((7, 0, 0), o0))), (1, .inr (.inr ((4, 0, 0), o1))), (2, .inl a2), (4, .inl x5)] [] s0
                exact am_wk hX [1, 2, 3, 0, 4] (hJ58 x5 hf)
              · intro J55 hJ55 hf
                refine am_blk hX 14 3 (And.intro (fun hb => ?_) (fun hb => ?_))
                · have hf := am_it hf hb
                  show X 55 [(0, .inr (.inr ((7, 0, 0), o0))), (1, .inr (.inr ((4, 0, 0), o1))), (2, .inl a2), (3, .inl x4), (4, .inl x5)] [] s0
                  exact am_wk hX [0, 1, 2, 4] (hJ55 hf)
                · have hf := am_if hf hb
                  show X 30 [(0, .inr (.inr ((7, 0, 0), o0))), (1, .inr (.inr ((4, 0, 0), o1))), (2, .inl a2), (3, .inl x4), (4, .inl x5)] [] s0
                  obtain ⟨g9, hf⟩ := am_g_of hf
                  obtain ⟨g10, hf⟩ := am_g_of hf
                  refine am_jn hf (fun J51 => ∀ (x11 : Int32), J51 x11 = some rE → X 51 [(0, .inr (.inr ((7, 0, 0), o0))), (1, .inr (.inr ((4, 0, 0), o1))), (2, .inl a2), (3, .inl x4), (4, .inl x5)] [.inl x11] s0) ?_ ?_
                  · intro x11 hf
                    refine am_blk hX 29 2 (And.intro (fun hb => ?_) (fun hb => ?_))
                    · have hf := am_if hf hb
                      show X 58 [(0, .inr (.inr ((7, 0, 0), o0))), (1, .inr (.inr ((4, 0, 0), o1))), (2, .inl a2), (3, .inl x4), (4, .inl x5)] [] s0
                      exact am_wk hX [0, 1, 2, 3, 4] (hJ58 x4 hf)
                    · have hf := am_it hf hb
                      show X 55 [(0, .inr (.inr ((7, 0, 0), o0))), (1, .inr (.inr ((4, 0, 0), o1))), (2, .inl a2), (3, .inl x4), (4, .inl x5)] [] s0
                      exact am_wk hX [0, 1, 2, 4] (hJ55 hf)
                  · intro J51 hJ51 hf
                    refine am_blk hX 17 9 (And.intro rfl (And.intro rfl (And.intro g9 (And.intro rfl (And.intro rfl (And.intro g10 (And.intro (fun hb => ?_) (fun hb => ?_))))))))
                    · have hf := am_it hf hb
                      show X 50 [(0, .inr (.inr ((7, 0, 0), o0))), (1, .inr (.inr ((4, 0, 0), o1))), (2, .inl a2), (3, .inl x4), (4, .inl x5)] [] s0
                      refine am_blk hX 28 1 (?_)
                      show X 51 [(0, .inr (.inr ((7, 0, 0), o0))), (1, .inr (.inr ((4, 0, 0), o1))), (2, .inl a2), (3, .inl x4), (4, .inl x5)] [.inl (0 : Int32)] s0
                      exact am_wk hX [0, 1, 2, 3, 4] (hJ51 (0 : Int32) hf)
                    · have hf := am_if hf hb
                      show X 46 [(0, .inr (.inr ((7, 0, 0), o0))), (1, .inr (.inr ((4, 0, 0), o1))), (2, .inl a2), (3, .inl x4), (4, .inl x5)] [] s0
                      refine am_blk hX 26 2 (?_)
                      show X 51 [(0, .inr (.inr ((7, 0, 0), o0))), (1, .inr (.inr ((4, 0, 0), o1))), (2, .inl a2), (3, .inl x4), (4, .inl x5)] [.inl (1 : Int32)] s0
                      exact am_wk hX [0, 1, 2, 3, 4] (hJ51 (1 : Int32) hf)
    refine am_blk hX 0 4 (?_)
    show X 5 [(4, .inl (0 : Int32)), (3, .inl (-1 : Int32)), (0, .inr (.inr ((7, 0, 0), o0))), (1, .inr (.inr ((4, 0, 0), o1))), (2, .inl a2)] [] s0
    exact am_wk hX [2, 3, 4, 1, 0] (hL5 am_fu (-1 : Int32) (0 : Int32) hf)
def fX6_chosen (s0 : AS) (o0 : Nat) (o1 : Nat) (a2 : Int32) : Option (AS × Int32) :=
  if a2 = (0 : Int32) then (am_c (fX6_heaviest s0 o0 o1 (0 : Int32)) (fun (s2 : AS) (v1 : Int32) => some (s2, v1))) else (if a2 = (1 : Int32) then (am_c (fX6_heaviest s0 o0 o1 (1 : Int32)) (fun (s4 : AS) (v3 : Int32) => some (s4, v3))) else (if a2 = (2 : Int32) then (am_r (fX6_voteByRank s0 o0 o1 (1 : Int32)) (fun (v5 : Int32) => some (s0, v5))) else (am_r (fX6_voteByRank s0 o0 o1 (0 : Int32)) (fun (v6 : Int32) => some (s0, v6)))))
def kX6_chosen : List (Nat × Instr × Nat) := [(0, .iload_n 2, 1), (1, .tableswitch 48 0 2 #[27, 34, 41], 27), (28, .aload_n 0, 1), (29, .aload_n 1, 1), (30, .iconst 0, 1), (31, .invokevirtual 142, 3), (34, .ireturn, 1), (35, .aload_n 0, 1), (36, .aload_n 1, 1), (37, .iconst 1, 1), (38, .invokevirtual 142, 3), (41, .ireturn, 1), (42, .aload_n 0, 1), (43, .aload_n 1, 1), (44, .iconst 1, 1), (45, .invokevirtual 146, 3), (48, .ireturn, 1), (49, .aload_n 0, 1), (50, .aload_n 1, 1), (51, .iconst 0, 1), (52, .invokevirtual 146, 3), (55, .ireturn, 1)]
theorem qX6_chosen : ∀ q ∈ kX6_chosen, decode mX6_chosen.2.2.1 q.1 = .ok (q.2.1, q.2.2) ∧ am_iok mX6_chosen.2.2.2.1 q.1 q.2.1 q.2.2 = true := by decide +kernel
set_option maxRecDepth 100000 in
theorem wX6_chosen : Cond.code mX6_chosen.2.1 mX6_chosen.2.2.1 mX6_chosen.2.2.2.1 mX6_chosen.2.2.2.2.1 ∈ am_T := List.mem_filter.mpr ⟨List.mem_of_getElem? (i := 803) rfl, rfl⟩
set_option maxHeartbeats 4000000 in
set_option maxRecDepth 100000 in
theorem tX6_chosen (l : Launch) (d : Nat) {s0 : AS} {o0 : Nat} {o1 : Nat} {a2 : Int32} {sE : AS} {rE : Int32} (hf : fX6_chosen s0 o0 o1 a2 = some (sE, rE)) : am_Ct l (d + 3) mX6_chosen [.inr (.inr ((7, 0, 0), o0)), .inr (.inr ((4, 0, 0), o1)), .inl a2] s0 sE (some (.inl rE)) := by
  refine am_sim l (d + 2) (code := kX6_chosen) (by decide +kernel) wX6_chosen qX6_chosen (Nat.le_of_ble_eq_true rfl) ?_
  intro X hX
  show X 0 [(0, .inr (.inr ((7, 0, 0), o0))), (1, .inr (.inr ((4, 0, 0), o1))), (2, .inl a2)] [] s0
  unfold fX6_chosen at hf
  refine am_blk hX 0 2 (And.intro (fun hb => ?_) (fun hq0 => And.intro (fun hb => ?_) (fun hq1 => And.intro (fun hb => ?_) (fun hq2 => ?_))))
  · have hf := am_it hf hb
    show X 28 [(0, .inr (.inr ((7, 0, 0), o0))), (1, .inr (.inr ((4, 0, 0), o1))), (2, .inl a2)] [] s0
    obtain ⟨s2, v1, hcv1, hf⟩ := am_c_of hf
    refine am_blk hX 2 5 (And.intro rfl (And.intro rfl (Exists.intro s2 (Exists.intro (some (.inl v1)) (And.intro (tX6_heaviest l (d + 0) hcv1) (am_ri hf))))))
  · have hf := am_it (am_if hf hq0) hb
    show X 35 [(0, .inr (.inr ((7, 0, 0), o0))), (1, .inr (.inr ((4, 0, 0), o1))), (2, .inl a2)] [] s0
    obtain ⟨s4, v3, hcv3, hf⟩ := am_c_of hf
    refine am_blk hX 7 5 (And.intro rfl (And.intro rfl (Exists.intro s4 (Exists.intro (some (.inl v3)) (And.intro (tX6_heaviest l (d + 0) hcv3) (am_ri hf))))))
  · have hf := am_it (am_if (am_if hf hq0) hq1) hb
    show X 42 [(0, .inr (.inr ((7, 0, 0), o0))), (1, .inr (.inr ((4, 0, 0), o1))), (2, .inl a2)] [] s0
    obtain ⟨v5, hcv5, hf⟩ := am_r_of hf
    refine am_blk hX 12 5 (And.intro rfl (And.intro rfl (Exists.intro s0 (Exists.intro (some (.inl v5)) (And.intro (tX6_voteByRank l (d + 1) hcv5) (am_ri hf))))))
  · have hf := (am_if (am_if (am_if hf hq0) hq1) hq2)
    show X 49 [(0, .inr (.inr ((7, 0, 0), o0))), (1, .inr (.inr ((4, 0, 0), o1))), (2, .inl a2)] [] s0
    obtain ⟨v6, hcv6, hf⟩ := am_r_of hf
    refine am_blk hX 17 5 (And.intro rfl (And.intro rfl (Exists.intro s0 (Exists.intro (some (.inl v6)) (And.intro (tX6_voteByRank l (d + 1) hcv6) (am_ri hf))))))
def fX6_clear (s0 : AS) (o0 : Nat) : Option (AS × Unit) :=
  am_c (fJ7_fill_53178 s0 (o0 + 1) 61 (-1 : Int32)) (fun (s2 : AS) (v1 : Unit) => am_c (fJ7_fill_53178 s2 (o0 + 2) 61 (0 : Int32)) (fun (s4 : AS) (v3 : Unit) => am_c (fJ7_fill_53178 s4 (o0 + 3) 61 (-1 : Int32)) (fun (s6 : AS) (v5 : Unit) => am_c (fJ7_fill_53178 s6 (o0 + 4) 8 (-1 : Int32)) (fun (s8 : AS) (v7 : Unit) => am_c (fJ7_fill_53178 s8 (o0 + 5) 8 (-1 : Int32)) (fun (s10 : AS) (v9 : Unit) => am_c (fJ7_fill_53178 s10 (o0 + 6) 8 (-1 : Int32)) (fun (s12 : AS) (v11 : Unit) => am_let (am_si s12 o0 6 (-1 : Int32)) (fun (s13 : AS) => am_let (am_si s13 o0 7 (-1 : Int32)) (fun (s14 : AS) => am_let (am_si s14 o0 8 (0 : Int32)) (fun (s15 : AS) => am_let (am_si s15 o0 9 (0 : Int32)) (fun (s16 : AS) => am_let (am_si s16 o0 10 (0 : Int32)) (fun (s17 : AS) => am_let (am_si s17 o0 11 (0 : Int32)) (fun (s18 : AS) => some (s18, ())))))))))))))
def kX6_clear : List (Nat × Instr × Nat) := [(0, .aload_n 0, 1), (1, .getfield 9, 3), (4, .iconst (-1), 1), (5, .invokestatic 85, 3), (8, .aload_n 0, 1), (9, .getfield 15, 3), (12, .iconst 0, 1), (13, .invokestatic 85, 3), (16, .aload_n 0, 1), (17, .getfield 18, 3), (20, .iconst (-1), 1), (21, .invokestatic 85, 3), (24, .aload_n 0, 1), (25, .getfield 21, 3), (28, .iconst (-1), 1), (29, .invokestatic 85, 3), (32, .aload_n 0, 1), (33, .getfield 24, 3), (36, .iconst (-1), 1), (37, .invokestatic 85, 3), (40, .aload_n 0, 1), (41, .getfield 27, 3), (44, .iconst (-1), 1), (45, .invokestatic 85, 3), (48, .aload_n 0, 1), (49, .iconst (-1), 1), (50, .putfield 79, 3), (53, .aload_n 0, 1), (54, .iconst (-1), 1), (55, .putfield 82, 3), (58, .aload_n 0, 1), (59, .iconst 0, 1), (60, .putfield 48, 3), (63, .aload_n 0, 1), (64, .iconst 0, 1), (65, .putfield 91, 3), (68, .aload_n 0, 1), (69, .iconst 0, 1), (70, .putfield 66, 3), (73, .aload_n 0, 1), (74, .iconst 0, 1), (75, .putfield 94, 3), (78, .return_, 1)]
theorem qX6_clear : ∀ q ∈ kX6_clear, decode mX6_clear.2.2.1 q.1 = .ok (q.2.1, q.2.2) ∧ am_iok mX6_clear.2.2.2.1 q.1 q.2.1 q.2.2 = true := by decide +kernel
set_option maxRecDepth 100000 in
theorem wX6_clear : Cond.code mX6_clear.2.1 mX6_clear.2.2.1 mX6_clear.2.2.2.1 mX6_clear.2.2.2.2.1 ∈ am_T := List.mem_filter.mpr ⟨List.mem_of_getElem? (i := 755) rfl, rfl⟩
set_option maxHeartbeats 4000000 in
set_option maxRecDepth 100000 in
theorem tX6_clear (l : Launch) (d : Nat) {s0 : AS} {o0 : Nat} {sE : AS} {rE : Unit} (hf : fX6_clear s0 o0 = some (sE, rE)) : am_Ct l (d + 2) mX6_clear [.inr (.inr ((7, 0, 0), o0))] s0 sE none := by
  refine am_sim l (d + 1) (code := kX6_clear) (by decide +kernel) wX6_clear qX6_clear (Nat.le_of_ble_eq_true rfl) ?_
  intro X hX
  show X 0 [(0, .inr (.inr ((7, 0, 0), o0)))] [] s0
  unfold fX6_clear at hf
  obtain ⟨s2, v1, hcv1, hf⟩ := am_c_of hf
  obtain ⟨s4, v3, hcv3, hf⟩ := am_c_of hf
  obtain ⟨s6, v5, hcv5, hf⟩ := am_c_of hf
  obtain ⟨s8, v7, hcv7, hf⟩ := am_c_of hf
  obtain ⟨s10, v9, hcv9, hf⟩ := am_c_of hf
  obtain ⟨s12, v11, hcv11, hf⟩ := am_c_of hf
  refine am_blk hX 0 27 (And.intro rfl (And.intro rfl (Exists.intro s2 (Exists.intro none (And.intro (tJ7_fill_53178 l (d + 0) hcv1) (And.intro rfl (And.intro rfl (Exists.intro s4 (Exists.intro none (And.intro (tJ7_fill_53178 l (d + 0) hcv3) (And.intro rfl (And.intro rfl (Exists.intro s6 (Exists.intro none (And.intro (tJ7_fill_53178 l (d + 0) hcv5) (And.intro rfl (And.intro rfl (Exists.intro s8 (Exists.intro none (And.intro (tJ7_fill_53178 l (d + 0) hcv7) (And.intro rfl (And.intro rfl (Exists.intro s10 (Exists.intro none (And.intro (tJ7_fill_53178 l (d + 0) hcv9) (And.intro rfl (And.intro rfl (Exists.intro s12 (Exists.intro none (And.intro (tJ7_fill_53178 l (d + 0) hcv11) (And.intro rfl (am_nl (Z := fun s13 => X 53 [(0, .inr (.inr ((7, 0, 0), o0)))] [] s13) hf (fun s13 hf => ?_)))))))))))))))))))))))))))))))))
  refine am_blk hX 27 3 (And.intro rfl (am_nl (Z := fun s14 => X 58 [(0, .inr (.inr ((7, 0, 0), o0)))] [] s14) hf (fun s14 hf => ?_)))
  refine am_blk hX 30 3 (And.intro rfl (am_nl (Z := fun s15 => X 63 [(0, .inr (.inr ((7, 0, 0), o0)))] [] s15) hf (fun s15 hf => ?_)))
  refine am_blk hX 33 3 (And.intro rfl (am_nl (Z := fun s16 => X 68 [(0, .inr (.inr ((7, 0, 0), o0)))] [] s16) hf (fun s16 hf => ?_)))
  refine am_blk hX 36 3 (And.intro rfl (am_nl (Z := fun s17 => X 73 [(0, .inr (.inr ((7, 0, 0), o0)))] [] s17) hf (fun s17 hf => ?_)))
  refine am_blk hX 39 3 (And.intro rfl (am_nl (Z := fun s18 => X 78 [(0, .inr (.inr ((7, 0, 0), o0)))] [] s18) hf (fun s18 hf => ?_)))
  refine am_blk hX 42 1 (And.intro rfl (am_rv hf))
def fX6_wouldFallIn (s0 : AS) (o0 : Nat) (o1 : Nat) (n1 : Nat) (a2 : Int32) (o3 : Nat) (a4 : Int32) : Option Int32 :=
  am_g (¬ ((0 : Int32) < 0 ∨ n1 ≤ (0 : Int32).toNatClampNeg)) (am_let (fun (x2 : Int32) => am_g (x2 = 0 ∨ x2 = 1) (some x2)) (fun J61 => am_let (J61 (0 : Int32)) (fun J60 => if (s0.1 o1 ((0 : Int32).toNatClampNeg)) = a4 then (am_r (fX8_holds (s0.1 o0 9) a2) (fun (v4 : Int32) => if v4 = 0 then (am_r (fX8_holds (s0.1 o3 3) a2) (fun (v5 : Int32) => if v5 = 0 then (am_g (¬ ((2 : Int32) < 0 ∨ n1 ≤ (2 : Int32).toNatClampNeg)) (am_r (fX8_holds (s0.1 o3 2) (s0.1 o1 ((2 : Int32).toNatClampNeg))) (fun (v7 : Int32) => if v7 = 0 then (am_g (¬ ((3 : Int32) < 0 ∨ n1 ≤ (3 : Int32).toNatClampNeg)) (am_r (fJ6_bitCount_0f7a4 (s0.1 o0 10)) (fun (v9 : Int32) => if v9 < (s0.1 o1 ((3 : Int32).toNatClampNeg)) then (J60) else (J61 (1 : Int32))))) else (J60)))) else (J60))) else (J60))) else (J60))))
def kX6_wouldFallIn : List (Nat × Instr × Nat) := [(0, .aload_n 1, 1), (1, .iconst 0, 1), (2, .iaload, 1), (3, .iload 4, 2), (5, .if_icmp .ne 55, 3), (8, .aload_n 0, 1), (9, .getfield 91, 3), (12, .iload_n 2, 1), (13, .invokestatic 110, 3), (16, .ifCond .ne 44, 3), (19, .aload_n 3, 1), (20, .getfield 114, 3), (23, .iload_n 2, 1), (24, .invokestatic 110, 3), (27, .ifCond .ne 33, 3), (30, .aload_n 3, 1), (31, .getfield 117, 3), (34, .aload_n 1, 1), (35, .iconst 2, 1), (36, .iaload, 1), (37, .invokestatic 110, 3), (40, .ifCond .ne 20, 3), (43, .aload_n 1, 1), (44, .iconst 3, 1), (45, .iaload, 1), (46, .aload_n 0, 1), (47, .getfield 66, 3), (50, .invokestatic 120, 3), (53, .if_icmp .gt 7, 3), (56, .iconst 1, 1), (57, .goto 4, 3), (60, .iconst 0, 1), (61, .ireturn, 1)]
theorem qX6_wouldFallIn : ∀ q ∈ kX6_wouldFallIn, decode mX6_wouldFallIn.2.2.1 q.1 = .ok (q.2.1, q.2.2) ∧ am_iok mX6_wouldFallIn.2.2.2.1 q.1 q.2.1 q.2.2 = true := by decide +kernel
set_option maxRecDepth 100000 in
theorem wX6_wouldFallIn : Cond.code mX6_wouldFallIn.2.1 mX6_wouldFallIn.2.2.1 mX6_wouldFallIn.2.2.2.1 mX6_wouldFallIn.2.2.2.2.1 ∈ am_T := List.mem_filter.mpr ⟨List.mem_of_getElem? (i := 768) rfl, rfl⟩
set_option maxHeartbeats 4000000 in
set_option maxRecDepth 100000 in
theorem tX6_wouldFallIn (l : Launch) (d : Nat) {s0 : AS} {o0 : Nat} {o1 : Nat} {n1 : Nat} {a2 : Int32} {o3 : Nat} {a4 : Int32} {rE : Int32} (hf : fX6_wouldFallIn s0 o0 o1 n1 a2 o3 a4 = some rE) : am_Ct l (d + 2) mX6_wouldFallIn [.inr (.inr ((7, 0, 0), o0)), .inr (.inr ((21, n1, 0), o1)), .inl a2, .inr (.inr ((2, 0, 0), o3)), .inl a4] s0 s0 (some (.inl rE)) := by
  refine am_sim l (d + 1) (code := kX6_wouldFallIn) (by decide +kernel) wX6_wouldFallIn qX6_wouldFallIn (Nat.le_of_ble_eq_true rfl) ?_
  intro X hX
  show X 0 [(0, .inr (.inr ((7, 0, 0), o0))), (1, .inr (.inr ((21, n1, 0), o1))), (2, .inl a2), (3, .inr (.inr ((2, 0, 0), o3))), (4, .inl a4)] [] s0
  unfold fX6_wouldFallIn at hf
  obtain ⟨g1, hf⟩ := am_g_of hf
  refine am_jn hf (fun J61 => ∀ (x2 : Int32), J61 x2 = some rE → X 61 [] [.inl x2] s0) ?_ ?_
  · intro x2 hf
    obtain ⟨g3, hf⟩ := am_g_of hf
    refine am_blk hX 32 1 (And.intro g3 (am_rpi hf))
  · intro J61 hJ61 hf
    refine am_jn hf (fun J60 => J60 = some rE → X 60 [] [] s0) ?_ ?_
    · intro hf
      refine am_blk hX 31 1 (?_)
      show X 61 [] [.inl (0 : Int32)] s0
      exact am_wk hX [] (hJ61 (0 : Int32) hf)
    · intro J60 hJ60 hf
      refine am_blk hX 0 5 (And.intro rfl (And.intro g1 (And.intro (fun hb => ?_) (fun hb => ?_))))
      · have hf := am_if hf hb
        show X 60 [(0, .inr (.inr ((7, 0, 0), o0))), (1, .inr (.inr ((21, n1, 0), o1))), (2, .inl a2), (3, .inr (.inr ((2, 0, 0), o3))), (4, .inl a4)] [] s0
        exact am_wk hX [] (hJ60 hf)
      · have hf := am_it hf hb
        show X 8 [(0, .inr (.inr ((7, 0, 0), o0))), (1, .inr (.inr ((21, n1, 0), o1))), (2, .inl a2), (3, .inr (.inr ((2, 0, 0), o3))), (4, .inl a4)] [] s0
        obtain ⟨v4, hcv4, hf⟩ := am_r_of hf
        refine am_blk hX 5 5 (And.intro rfl (And.intro rfl (Exists.intro s0 (Exists.intro (some (.inl v4)) (And.intro (tX8_holds l (d + 0) hcv4) (And.intro (fun hb => ?_) (fun hb => ?_)))))))
        · have hf := am_if hf hb
          show X 60 [(0, .inr (.inr ((7, 0, 0), o0))), (1, .inr (.inr ((21, n1, 0), o1))), (2, .inl a2), (3, .inr (.inr ((2, 0, 0), o3))), (4, .inl a4)] [] s0
          exact am_wk hX [] (hJ60 hf)
        · have hf := am_it hf hb
          show X 19 [(0, .inr (.inr ((7, 0, 0), o0))), (1, .inr (.inr ((21, n1, 0), o1))), (2, .inl a2), (3, .inr (.inr ((2, 0, 0), o3))), (4, .inl a4)] [] s0
          obtain ⟨v5, hcv5, hf⟩ := am_r_of hf
          refine am_blk hX 10 5 (And.intro rfl (And.intro rfl (Exists.intro s0 (Exists.intro (some (.inl v5)) (And.intro (tX8_holds l (d + 0) hcv5) (And.intro (fun hb => ?_) (fun hb => ?_)))))))
          · have hf := am_if hf hb
            show X 60 [(0, .inr (.inr ((7, 0, 0), o0))), (1, .inr (.inr ((21, n1, 0), o1))), (2, .inl a2), (3, .inr (.inr ((2, 0, 0), o3))), (4, .inl a4)] [] s0
            exact am_wk hX [] (hJ60 hf)
          · have hf := am_it hf hb
            show X 30 [(0, .inr (.inr ((7, 0, 0), o0))), (1, .inr (.inr ((21, n1, 0), o1))), (2, .inl a2), (3, .inr (.inr ((2, 0, 0), o3))), (4, .inl a4)] [] s0
            obtain ⟨g6, hf⟩ := am_g_of hf
            obtain ⟨v7, hcv7, hf⟩ := am_r_of hf
            refine am_blk hX 15 7 (And.intro rfl (And.intro rfl (And.intro g6 (And.intro rfl (Exists.intro s0 (Exists.intro (some (.inl v7)) (And.intro (tX8_holds l (d + 0) hcv7) (And.intro (fun hb => ?_) (fun hb => ?_)))))))))
            · have hf := am_if hf hb
              show X 60 [(0, .inr (.inr ((7, 0, 0), o0))), (1, .inr (.inr ((21, n1, 0), o1))), (2, .inl a2), (3, .inr (.inr ((2, 0, 0), o3))), (4, .inl a4)] [] s0
              exact am_wk hX [] (hJ60 hf)
            · have hf := am_it hf hb
              show X 43 [(0, .inr (.inr ((7, 0, 0), o0))), (1, .inr (.inr ((21, n1, 0), o1))), (2, .inl a2), (3, .inr (.inr ((2, 0, 0), o3))), (4, .inl a4)] [] s0
              obtain ⟨g8, hf⟩ := am_g_of hf
              obtain ⟨v9, hcv9, hf⟩ := am_r_of hf
              refine am_blk hX 22 7 (And.intro rfl (And.intro g8 (And.intro rfl (And.intro rfl (Exists.intro s0 (Exists.intro (some (.inl v9)) (And.intro (tJ6_bitCount_0f7a4 l (d + 0) hcv9) (And.intro (fun hb => ?_) (fun hb => ?_)))))))))
              · have hf := am_it hf hb
                show X 60 [(0, .inr (.inr ((7, 0, 0), o0))), (1, .inr (.inr ((21, n1, 0), o1))), (2, .inl a2), (3, .inr (.inr ((2, 0, 0), o3))), (4, .inl a4)] [] s0
                exact am_wk hX [] (hJ60 hf)
              · have hf := am_if hf hb
                show X 56 [(0, .inr (.inr ((7, 0, 0), o0))), (1, .inr (.inr ((21, n1, 0), o1))), (2, .inl a2), (3, .inr (.inr ((2, 0, 0), o3))), (4, .inl a4)] [] s0
                refine am_blk hX 29 2 (?_)
                show X 61 [(0, .inr (.inr ((7, 0, 0), o0))), (1, .inr (.inr ((21, n1, 0), o1))), (2, .inl a2), (3, .inr (.inr ((2, 0, 0), o3))), (4, .inl a4)] [.inl (1 : Int32)] s0
                exact am_wk hX [] (hJ61 (1 : Int32) hf)
def fX6_fallIn_L24 (o0 : Nat) (o1 : Nat) (o2 : Nat) (a3 : Int32) (a4 : Int32) (J116 : AS → Int32 → Option (AS × Unit)) : Nat → AS → Int32 → Int32 → Option (AS × Unit)
  | 0, _, _, _ => none
  | n24 + 1, s8, x9, x10 =>
    if (s8.1 o1 6) ≤ x10 then (J116 s8 x9) else (am_g (¬ (x10 < 0 ∨ 8 ≤ x10.toNatClampNeg)) (am_r (fX6_wouldFallIn s8 o0 (o1 + 12 + 1 + x10.toNatClampNeg) 5 x10 o2 a4) (fun (v12 : Int32) => am_let (fun (s13 : AS) (x14 : Int32) => am_let (x10 + (1 : Int32)) (fun (x15 : Int32) => fX6_fallIn_L24 o0 o1 o2 a3 a4 J116 n24 s13 x14 x15)) (fun J110 => if v12 = 0 then (J110 s8 x9) else (am_let (am_si s8 o0 10 ((s8.1 o0 10) ||| ((1 : Int32) <<< (x10 &&& 31)))) (fun (s16 : AS) => am_let (am_si s16 o0 9 ((s16.1 o0 9) ||| ((1 : Int32) <<< (x10 &&& 31)))) (fun (s17 : AS) => am_g (¬ (x10 < 0 ∨ 8 ≤ x10.toNatClampNeg)) (am_let (am_si s17 (o0 + 4) (x10.toNatClampNeg) a3) (fun (s19 : AS) => am_g (¬ (x10 < 0 ∨ 8 ≤ x10.toNatClampNeg)) (am_let (am_si s19 (o0 + 6) (x10.toNatClampNeg) (s19.1 o0 11)) (fun (s21 : AS) => am_let (am_si s21 o0 11 ((s21.1 o0 11) + (1 : Int32))) (fun (s22 : AS) => J110 s22 (1 : Int32)))))))))))))
def fX6_fallIn_L6 (o0 : Nat) (o1 : Nat) (o2 : Nat) (a3 : Int32) (a4 : Int32) (J122 : AS → Option (AS × Unit)) : Nat → AS → Int32 → Int32 → Option (AS × Unit)
  | 0, _, _, _ => none
  | n6 + 1, s2, x3, x4 =>
    if (8 : Int32) < x4 then (J122 s2) else (if x3 = 0 then (J122 s2) else (am_let (fun (s5 : AS) (x6 : Int32) => am_let (x4 + (1 : Int32)) (fun (x7 : Int32) => fX6_fallIn_L6 o0 o1 o2 a3 a4 J122 n6 s5 x6 x7)) (fun J116 => fX6_fallIn_L24 o0 o1 o2 a3 a4 J116 am_fu s2 (0 : Int32) (0 : Int32))))
def fX6_fallIn (s0 : AS) (o0 : Nat) (o1 : Nat) (o2 : Nat) (a3 : Int32) (a4 : Int32) : Option (AS × Unit) :=
  am_let (fun (s1 : AS) => some (s1, ())) (fun J122 => fX6_fallIn_L6 o0 o1 o2 a3 a4 J122 am_fu s0 (1 : Int32) (0 : Int32))
def kX6_fallIn : List (Nat × Instr × Nat) := [(0, .iconst 1, 1), (1, .istore 5, 2), (3, .iconst 0, 1), (4, .istore 6, 2), (6, .iload 6, 2), (8, .bipush 8, 2), (10, .if_icmp .gt 112, 3), (13, .iload 5, 2), (15, .ifCond .eq 107, 3), (18, .iconst 0, 1), (19, .istore 5, 2), (21, .iconst 0, 1), (22, .istore 7, 2), (24, .iload 7, 2), (26, .aload_n 1, 1), (27, .getfield 97, 3), (30, .if_icmp .ge 86, 3), (33, .aload_n 0, 1), (34, .aload_n 1, 1), (35, .getfield 102, 3), (38, .iload 7, 2), (40, .aaload, 1), (41, .iload 7, 2), (43, .aload_n 2, 1), (44, .iload 4, 2), (46, .invokevirtual 106, 3), (49, .ifCond .eq 61, 3), (52, .aload_n 0, 1), (53, .dup, 1), (54, .getfield 66, 3), (57, .iconst 1, 1), (58, .iload 7, 2), (60, .ishl, 1), (61, .ior, 1), (62, .putfield 66, 3), (65, .aload_n 0, 1), (66, .dup, 1), (67, .getfield 91, 3), (70, .iconst 1, 1), (71, .iload 7, 2), (73, .ishl, 1), (74, .ior, 1), (75, .putfield 91, 3), (78, .aload_n 0, 1), (79, .getfield 21, 3), (82, .iload 7, 2), (84, .iload_n 3, 1), (85, .iastore, 1), (86, .aload_n 0, 1), (87, .getfield 27, 3), (90, .iload 7, 2), (92, .aload_n 0, 1), (93, .getfield 94, 3), (96, .iastore, 1), (97, .aload_n 0, 1), (98, .dup, 1), (99, .getfield 94, 3), (102, .iconst 1, 1), (103, .iadd, 1), (104, .putfield 94, 3), (107, .iconst 1, 1), (108, .istore 5, 2), (110, .iinc 7 1, 3), (113, .goto (-89), 3), (116, .iinc 6 1, 3), (119, .goto (-113), 3), (122, .return_, 1)]
theorem qX6_fallIn : ∀ q ∈ kX6_fallIn, decode mX6_fallIn.2.2.1 q.1 = .ok (q.2.1, q.2.2) ∧ am_iok mX6_fallIn.2.2.2.1 q.1 q.2.1 q.2.2 = true := by decide +kernel
set_option maxRecDepth 100000 in
theorem wX6_fallIn : Cond.code mX6_fallIn.2.1 mX6_fallIn.2.2.1 mX6_fallIn.2.2.2.1 mX6_fallIn.2.2.2.2.1 ∈ am_T := List.mem_filter.mpr ⟨List.mem_of_getElem? (i := 764) rfl, rfl⟩
set_option maxHeartbeats 4000000 in
set_option maxRecDepth 100000 in
theorem tX6_fallIn (l : Launch) (d : Nat) {s0 : AS} {o0 : Nat} {o1 : Nat} {o2 : Nat} {a3 : Int32} {a4 : Int32} {sE : AS} {rE : Unit} (hf : fX6_fallIn s0 o0 o1 o2 a3 a4 = some (sE, rE)) : am_Ct l (d + 3) mX6_fallIn [.inr (.inr ((7, 0, 0), o0)), .inr (.inr ((4, 0, 0), o1)), .inr (.inr ((2, 0, 0), o2)), .inl a3, .inl a4] s0 sE none := by
  refine am_sim l (d + 2) (code := kX6_fallIn) (by decide +kernel) wX6_fallIn qX6_fallIn (Nat.le_of_ble_eq_true rfl) ?_
  intro X hX
  show X 0 [(0, .inr (.inr ((7, 0, 0), o0))), (1, .inr (.inr ((4, 0, 0), o1))), (2, .inr (.inr ((2, 0, 0), o2))), (3, .inl a3), (4, .inl a4)] [] s0
  unfold fX6_fallIn at hf
  refine am_jn hf (fun J122 => ∀ (s1 : AS), J122 s1 = some (sE, rE) → X 122 [] [] s1) ?_ ?_
  · intro s1 hf
    refine am_blk hX 66 1 (And.intro rfl (am_rv hf))
  · intro J122 hJ122 hf
    have hL6 : ∀ (n6 : Nat) (s2 : AS) (x3 : Int32) (x4 : Int32), fX6_fallIn_L6 o0 o1 o2 a3 a4 J122 n6 s2 x3 x4 = some (sE, rE) → X 6 [(0, .inr (.inr ((7, 0, 0), o0))), (1, .inr (.inr ((4, 0, 0), o1))), (2, .inr (.inr ((2, 0, 0), o2))), (3, .inl a3), (4, .inl a4), (5, .inl x3), (6, .inl x4)] [] s2 := by
      intro n6
      induction n6 with
      | zero => intro s2 x3 x4 hf; exact am_no (show none = some _ from hf)
      | succ n6 ih6 =>
        intro s2 x3 x4 hf
        refine am_blk hX 4 3 (And.intro (fun hb => ?_) (fun hb => ?_))
        · have hf := am_it hf hb
          show X 122 [(0, .inr (.inr ((7, 0, 0), o0))), (1, .inr (.inr ((4, 0, 0), o1))), (2, .inr (.inr ((2, 0, 0), o2))), (3, .inl a3), (4, .inl a4), (5, .inl x3), (6, .inl x4)] [] s2
          exact am_wk hX [] (hJ122 s2 hf)
        · have hf := am_if hf hb
          show X 13 [(0, .inr (.inr ((7, 0, 0), o0))), (1, .inr (.inr ((4, 0, 0), o1))), (2, .inr (.inr ((2, 0, 0), o2))), (3, .inl a3), (4, .inl a4), (5, .inl x3), (6, .inl x4)] [] s2
          refine am_blk hX 7 2 (And.intro (fun hb => ?_) (fun hb => ?_))
          · have hf := am_it hf hb
            show X 122 [(0, .inr (.inr ((7, 0, 0), o0))), (1, .inr (.inr ((4, 0, 0), o1))), (2, .inr (.inr ((2, 0, 0), o2))), (3, .inl a3), (4, .inl a4), (5, .inl x3), (6, .inl x4)] [] s2
            exact am_wk hX [] (hJ122 s2 hf)
          · have hf := am_if hf hb
            show X 18 [(0, .inr (.inr ((7, 0, 0), o0))), (1, .inr (.inr ((4, 0, 0), o1))), (2, .inr (.inr ((2, 0, 0), o2))), (3, .inl a3), (4, .inl a4), (5, .inl x3), (6, .inl x4)] [] s2
            refine am_jn hf (fun J116 => ∀ (s5 : AS) (x6 : Int32), J116 s5 x6 = some (sE, rE) → X 116 [(0, .inr (.inr ((7, 0, 0), o0))), (1, .inr (.inr ((4, 0, 0), o1))), (2, .inr (.inr ((2, 0, 0), o2))), (3, .inl a3), (4, .inl a4), (5, .inl x6), (6, .inl x4)] [] s5) ?_ ?_
            · intro s5 x6 hf
              refine am_blk hX 64 1 (am_nl (Z := fun x7 => X 119 [(6, .inl x7), (0, .inr (.inr ((7, 0, 0), o0))), (1, .inr (.inr ((4, 0, 0), o1))), (2, .inr (.inr ((2, 0, 0), o2))), (3, .inl a3), (4, .inl a4), (5, .inl x6)] [] s5) hf (fun x7 hf => ?_))
              refine am_blk hX 65 1 (?_)
              show X 6 [(6, .inl x7), (0, .inr (.inr ((7, 0, 0), o0))), (1, .inr (.inr ((4, 0, 0), o1))), (2, .inr (.inr ((2, 0, 0), o2))), (3, .inl a3), (4, .inl a4), (5, .inl x6)] [] s5
              exact am_wk hX [1, 2, 3, 4, 5, 6, 0] (ih6 s5 x6 x7 hf)
            · intro J116 hJ116 hf
              have hL24 : ∀ (n24 : Nat) (s8 : AS) (x9 : Int32) (x10 : Int32), fX6_fallIn_L24 o0 o1 o2 a3 a4 J116 n24 s8 x9 x10 = some (sE, rE) → X 24 [(0, .inr (.inr ((7, 0, 0), o0))), (1, .inr (.inr ((4, 0, 0), o1))), (2, .inr (.inr ((2, 0, 0), o2))), (3, .inl a3), (4, .inl a4), (5, .inl x9), (6, .inl x4), (7, .inl x10)] [] s8 := by
                intro n24
                induction n24 with
                | zero => intro s8 x9 x10 hf; exact am_no (show none = some _ from hf)
                | succ n24 ih24 =>
                  intro s8 x9 x10 hf
                  refine am_blk hX 13 4 (And.intro rfl (And.intro (fun hb => ?_) (fun hb => ?_)))
                  · have hf := am_it hf hb
                    show X 116 [(0, .inr (.inr ((7, 0, 0), o0))), (1, .inr (.inr ((4, 0, 0), o1))), (2, .inr (.inr ((2, 0, 0), o2))), (3, .inl a3), (4, .inl a4), (5, .inl x9), (6, .inl x4), (7, .inl x10)] [] s8
                    exact am_wk hX [0, 1, 2, 3, 4, 5, 6] (hJ116 s8 x9 hf)
                  · have hf := am_if hf hb
                    show X 33 [(0, .inr (.inr ((7, 0, 0), o0))), (1, .inr (.inr ((4, 0, 0), o1))), (2, .inr (.inr ((2, 0, 0), o2))), (3, .inl a3), (4, .inl a4), (5, .inl x9), (6, .inl x4), (7, .inl x10)] [] s8
                    obtain ⟨g11, hf⟩ := am_g_of hf
                    obtain ⟨v12, hcv12, hf⟩ := am_r_of hf
                    refine am_jn hf (fun J110 => ∀ (s13 : AS) (x14 : Int32), J110 s13 x14 = some (sE, rE) → X 110 [(0, .inr (.inr ((7, 0, 0), o0))), (1, .inr (.inr ((4, 0, 0), o1))), (2, .inr (.inr ((2, 0, 0), o2))), (3, .inl a3), (4, .inl a4), (5, .inl x14), (6, .inl x4), (7, .inl x10)] [] s13) ?_ ?_
                    · intro s13 x14 hf
                      refine am_blk hX 62 1 (am_nl (Z := fun x15 => X 113 [(7, .inl x15), (0, .inr (.inr ((7, 0, 0), o0))), (1, .inr (.inr ((4, 0, 0), o1))), (2, .inr (.inr ((2, 0, 0), o2))), (3, .inl a3), (4, .inl a4), (5, .inl x14), (6, .inl x4)] [] s13) hf (fun x15 hf => ?_))
                      refine am_blk hX 63 1 (?_)
                      show X 24 [(7, .inl x15), (0, .inr (.inr ((7, 0, 0), o0))), (1, .inr (.inr ((4, 0, 0), o1))), (2, .inr (.inr ((2, 0, 0), o2))), (3, .inl a3), (4, .inl a4), (5, .inl x14), (6, .inl x4)] [] s13
                      exact am_wk hX [1, 2, 3, 4, 5, 6, 7, 0] (ih24 s13 x14 x15 hf)
                    · intro J110 hJ110 hf
                      refine am_blk hX 17 10 (And.intro rfl (And.intro g11 (And.intro rfl (And.intro rfl (Exists.intro s8 (Exists.intro (some (.inl v12)) (And.intro (tX6_wouldFallIn l (d + 0) hcv12) (And.intro (fun hb => ?_) (fun hb => ?_)))))))))
                      · have hf := am_it hf hb
                        show X 110 [(0, .inr (.inr ((7, 0, 0), o0))), (1, .inr (.inr ((4, 0, 0), o1))), (2, .inr (.inr ((2, 0, 0), o2))), (3, .inl a3), (4, .inl a4), (5, .inl x9), (6, .inl x4), (7, .inl x10)] [] s8
                        exact am_wk hX [0, 1, 2, 3, 4, 5, 6, 7] (hJ110 s8 x9 hf)
                      · have hf := am_if hf hb
                        show X 52 [(0, .inr (.inr ((7, 0, 0), o0))), (1, .inr (.inr ((4, 0, 0), o1))), (2, .inr (.inr ((2, 0, 0), o2))), (3, .inl a3), (4, .inl a4), (5, .inl x9), (6, .inl x4), (7, .inl x10)] [] s8
                        refine am_blk hX 27 8 (And.intro rfl (And.intro rfl (am_nl (Z := fun s16 => X 65 [(0, .inr (.inr ((7, 0, 0), o0))), (1, .inr (.inr ((4, 0, 0), o1))), (2, .inr (.inr ((2, 0, 0), o2))), (3, .inl a3), (4, .inl a4), (5, .inl x9), (6, .inl x4), (7, .inl x10)] [] s16) hf (fun s16 hf => ?_))))
                        refine am_blk hX 35 8 (And.intro rfl (And.intro rfl (am_nl (Z := fun s17 => X 78 [(0, .inr (.inr ((7, 0, 0), o0))), (1, .inr (.inr ((4, 0, 0), o1))), (2, .inr (.inr ((2, 0, 0), o2))), (3, .inl a3), (4, .inl a4), (5, .inl x9), (6, .inl x4), (7, .inl x10)] [] s17) hf (fun s17 hf => ?_))))
                        obtain ⟨g18, hf⟩ := am_g_of hf
                        refine am_blk hX 43 5 (And.intro rfl (And.intro rfl (And.intro g18 (am_nl (Z := fun s19 => X 86 [(0, .inr (.inr ((7, 0, 0), o0))), (1, .inr (.inr ((4, 0, 0), o1))), (2, .inr (.inr ((2, 0, 0), o2))), (3, .inl a3), (4, .inl a4), (5, .inl x9), (6, .inl x4), (7, .inl x10)] [] s19) hf (fun s19 hf => ?_)))))
                        obtain ⟨g20, hf⟩ := am_g_of hf
                        refine am_blk hX 48 6 (And.intro rfl (And.intro rfl (And.intro rfl (And.intro g20 (am_nl (Z := fun s21 => X 97 [(0, .inr (.inr ((7, 0, 0), o0))), (1, .inr (.inr ((4, 0, 0), o1))), (2, .inr (.inr ((2, 0, 0), o2))), (3, .inl a3), (4, .inl a4), (5, .inl x9), (6, .inl x4), (7, .inl x10)] [] s21) hf (fun s21 hf => ?_))))))
                        refine am_blk hX 54 6 (And.intro rfl (And.intro rfl (am_nl (Z := fun s22 => X 107 [(0, .inr (.inr ((7, 0, 0), o0))), (1, .inr (.inr ((4, 0, 0), o1))), (2, .inr (.inr ((2, 0, 0), o2))), (3, .inl a3), (4, .inl a4), (5, .inl x9), (6, .inl x4), (7, .inl x10)] [] s22) hf (fun s22 hf => ?_))))
                        refine am_blk hX 60 2 (?_)
                        show X 110 [(5, .inl (1 : Int32)), (0, .inr (.inr ((7, 0, 0), o0))), (1, .inr (.inr ((4, 0, 0), o1))), (2, .inr (.inr ((2, 0, 0), o2))), (3, .inl a3), (4, .inl a4), (6, .inl x4), (7, .inl x10)] [] s22
                        exact am_wk hX [1, 2, 3, 4, 5, 0, 6, 7] (hJ110 s22 (1 : Int32) hf)
              refine am_blk hX 9 4 (?_)
              show X 24 [(7, .inl (0 : Int32)), (5, .inl (0 : Int32)), (0, .inr (.inr ((7, 0, 0), o0))), (1, .inr (.inr ((4, 0, 0), o1))), (2, .inr (.inr ((2, 0, 0), o2))), (3, .inl a3), (4, .inl a4), (6, .inl x4)] [] s2
              exact am_wk hX [2, 3, 4, 5, 6, 1, 7, 0] (hL24 am_fu s2 (0 : Int32) (0 : Int32) hf)
    refine am_blk hX 0 4 (?_)
    show X 6 [(6, .inl (0 : Int32)), (5, .inl (1 : Int32)), (0, .inr (.inr ((7, 0, 0), o0))), (1, .inr (.inr ((4, 0, 0), o1))), (2, .inr (.inr ((2, 0, 0), o2))), (3, .inl a3), (4, .inl a4)] [] s0
    exact am_wk hX [2, 3, 4, 5, 6, 1, 0] (hL6 am_fu s0 (1 : Int32) (0 : Int32) hf)
def fX6_firstAt_L6 (o0 : Nat) (a1 : Int32) (s0 : AS) : Nat → Int32 → Option Int32
  | 0, _ => none
  | n6 + 1, x2 =>
    if (61 : Int32) ≤ x2 then (some (-1 : Int32)) else (am_g (¬ (x2 < 0 ∨ 61 ≤ x2.toNatClampNeg)) (if (s0.1 (o0 + 1) x2.toNatClampNeg) = a1 then (some x2) else (am_let (x2 + (1 : Int32)) (fun (x4 : Int32) => fX6_firstAt_L6 o0 a1 s0 n6 x4))))
def fX6_firstAt (s0 : AS) (o0 : Nat) (a1 : Int32) (a2 : Int32) : Option Int32 :=
  am_let (if a2 < (0 : Int32) then (0 : Int32) else a2) (fun (x1 : Int32) => fX6_firstAt_L6 o0 a1 s0 am_fu x1)
def kX6_firstAt : List (Nat × Instr × Nat) := [(0, .iload_n 2, 1), (1, .iconst 0, 1), (2, .invokestatic 149, 3), (5, .istore_n 3, 1), (6, .iload_n 3, 1), (7, .bipush 61, 2), (9, .if_icmp .ge 21, 3), (12, .aload_n 0, 1), (13, .getfield 9, 3), (16, .iload_n 3, 1), (17, .iaload, 1), (18, .iload_n 1, 1), (19, .if_icmp .ne 5, 3), (22, .iload_n 3, 1), (23, .ireturn, 1), (24, .iinc 3 1, 3), (27, .goto (-21), 3), (30, .iconst (-1), 1), (31, .ireturn, 1)]
theorem qX6_firstAt : ∀ q ∈ kX6_firstAt, decode mX6_firstAt.2.2.1 q.1 = .ok (q.2.1, q.2.2) ∧ am_iok mX6_firstAt.2.2.2.1 q.1 q.2.1 q.2.2 = true := by decide +kernel
set_option maxRecDepth 100000 in
theorem wX6_firstAt : Cond.code mX6_firstAt.2.1 mX6_firstAt.2.2.1 mX6_firstAt.2.2.2.1 mX6_firstAt.2.2.2.2.1 ∈ am_T := List.mem_filter.mpr ⟨List.mem_of_getElem? (i := 890) rfl, rfl⟩
set_option maxHeartbeats 4000000 in
set_option maxRecDepth 100000 in
theorem tX6_firstAt (l : Launch) (d : Nat) {s0 : AS} {o0 : Nat} {a1 : Int32} {a2 : Int32} {rE : Int32} (hf : fX6_firstAt s0 o0 a1 a2 = some rE) : am_Ct l (d + 1) mX6_firstAt [.inr (.inr ((7, 0, 0), o0)), .inl a1, .inl a2] s0 s0 (some (.inl rE)) := by
  refine am_sim l (d + 0) (code := kX6_firstAt) (by decide +kernel) wX6_firstAt qX6_firstAt (Nat.le_of_ble_eq_true rfl) ?_
  intro X hX
  show X 0 [(0, .inr (.inr ((7, 0, 0), o0))), (1, .inl a1), (2, .inl a2)] [] s0
  unfold fX6_firstAt at hf
  refine am_blk hX 0 4 (And.intro rfl (am_nl (Z := fun x1 => X 6 [(3, .inl x1), (0, .inr (.inr ((7, 0, 0), o0))), (1, .inl a1), (2, .inl a2)] [] s0) hf (fun x1 hf => ?_)))
  have hL6 : ∀ (n6 : Nat) (x2 : Int32), fX6_firstAt_L6 o0 a1 s0 n6 x2 = some rE → X 6 [(0, .inr (.inr ((7, 0, 0), o0))), (1, .inl a1), (3, .inl x2)] [] s0 := by
    intro n6
    induction n6 with
    | zero => intro x2 hf; exact am_no (show none = some _ from hf)
    | succ n6 ih6 =>
      intro x2 hf
      refine am_blk hX 4 3 (And.intro (fun hb => ?_) (fun hb => ?_))
      · have hf := am_it hf hb
        show X 30 [(0, .inr (.inr ((7, 0, 0), o0))), (1, .inl a1), (3, .inl x2)] [] s0
        refine am_blk hX 17 2 (am_rpi hf)
      · have hf := am_if hf hb
        show X 12 [(0, .inr (.inr ((7, 0, 0), o0))), (1, .inl a1), (3, .inl x2)] [] s0
        obtain ⟨g3, hf⟩ := am_g_of hf
        refine am_blk hX 7 6 (And.intro rfl (And.intro rfl (And.intro g3 (And.intro (fun hb => ?_) (fun hb => ?_)))))
        · have hf := am_if hf hb
          show X 24 [(0, .inr (.inr ((7, 0, 0), o0))), (1, .inl a1), (3, .inl x2)] [] s0
          refine am_blk hX 15 1 (am_nl (Z := fun x4 => X 27 [(3, .inl x4), (0, .inr (.inr ((7, 0, 0), o0))), (1, .inl a1)] [] s0) hf (fun x4 hf => ?_))
          refine am_blk hX 16 1 (?_)
          show X 6 [(3, .inl x4), (0, .inr (.inr ((7, 0, 0), o0))), (1, .inl a1)] [] s0
          exact am_wk hX [1, 2, 0] (ih6 x4 hf)
        · have hf := am_it hf hb
          show X 22 [(0, .inr (.inr ((7, 0, 0), o0))), (1, .inl a1), (3, .inl x2)] [] s0
          refine am_blk hX 13 2 (am_rpi hf)
  exact am_wk hX [1, 2, 0] (hL6 am_fu x1 hf)
def fX7_has (s0 : AS) (o0 : Nat) (a1 : Int32) (a2 : Int32) : Option Int32 :=
  am_let (fun (x1 : Int32) => am_g (x1 = 0 ∨ x1 = 1) (some x1)) (fun J29 => am_let (J29 (0 : Int32)) (fun J28 => if a1 < 0 then (J28) else (if (s0.1 o0 0) ≤ a1 then (J28) else (if a2 < 0 then (J28) else (if (s0.1 o0 0) ≤ a2 then (J28) else (J29 (1 : Int32)))))))
def kX7_has : List (Nat × Instr × Nat) := [(0, .iload_n 1, 1), (1, .ifCond .lt 27, 3), (4, .iload_n 1, 1), (5, .aload_n 0, 1), (6, .getfield 28, 3), (9, .if_icmp .ge 19, 3), (12, .iload_n 2, 1), (13, .ifCond .lt 15, 3), (16, .iload_n 2, 1), (17, .aload_n 0, 1), (18, .getfield 28, 3), (21, .if_icmp .ge 7, 3), (24, .iconst 1, 1), (25, .goto 4, 3), (28, .iconst 0, 1), (29, .ireturn, 1)]
theorem qX7_has : ∀ q ∈ kX7_has, decode mX7_has.2.2.1 q.1 = .ok (q.2.1, q.2.2) ∧ am_iok mX7_has.2.2.2.1 q.1 q.2.1 q.2.2 = true := by decide +kernel
set_option maxRecDepth 100000 in
theorem wX7_has : Cond.code mX7_has.2.1 mX7_has.2.2.1 mX7_has.2.2.2.1 mX7_has.2.2.2.2.1 ∈ am_T := List.mem_filter.mpr ⟨List.mem_of_getElem? (i := 799) rfl, rfl⟩
set_option maxHeartbeats 4000000 in
set_option maxRecDepth 100000 in
theorem tX7_has (l : Launch) (d : Nat) {s0 : AS} {o0 : Nat} {a1 : Int32} {a2 : Int32} {rE : Int32} (hf : fX7_has s0 o0 a1 a2 = some rE) : am_Ct l (d + 1) mX7_has [.inr (.inr ((8, 0, 0), o0)), .inl a1, .inl a2] s0 s0 (some (.inl rE)) := by
  refine am_sim l (d + 0) (code := kX7_has) (by decide +kernel) wX7_has qX7_has (Nat.le_of_ble_eq_true rfl) ?_
  intro X hX
  show X 0 [(0, .inr (.inr ((8, 0, 0), o0))), (1, .inl a1), (2, .inl a2)] [] s0
  unfold fX7_has at hf
  refine am_jn hf (fun J29 => ∀ (x1 : Int32), J29 x1 = some rE → X 29 [] [.inl x1] s0) ?_ ?_
  · intro x1 hf
    obtain ⟨g2, hf⟩ := am_g_of hf
    refine am_blk hX 15 1 (And.intro g2 (am_rpi hf))
  · intro J29 hJ29 hf
    refine am_jn hf (fun J28 => J28 = some rE → X 28 [] [] s0) ?_ ?_
    · intro hf
      refine am_blk hX 14 1 (?_)
      show X 29 [] [.inl (0 : Int32)] s0
      exact am_wk hX [] (hJ29 (0 : Int32) hf)
    · intro J28 hJ28 hf
      refine am_blk hX 0 2 (And.intro (fun hb => ?_) (fun hb => ?_))
      · have hf := am_it hf hb
        show X 28 [(0, .inr (.inr ((8, 0, 0), o0))), (1, .inl a1), (2, .inl a2)] [] s0
        exact am_wk hX [] (hJ28 hf)
      · have hf := am_if hf hb
        show X 4 [(0, .inr (.inr ((8, 0, 0), o0))), (1, .inl a1), (2, .inl a2)] [] s0
        refine am_blk hX 2 4 (And.intro rfl (And.intro (fun hb => ?_) (fun hb => ?_)))
        · have hf := am_it hf hb
          show X 28 [(0, .inr (.inr ((8, 0, 0), o0))), (1, .inl a1), (2, .inl a2)] [] s0
          exact am_wk hX [] (hJ28 hf)
        · have hf := am_if hf hb
          show X 12 [(0, .inr (.inr ((8, 0, 0), o0))), (1, .inl a1), (2, .inl a2)] [] s0
          refine am_blk hX 6 2 (And.intro (fun hb => ?_) (fun hb => ?_))
          · have hf := am_it hf hb
            show X 28 [(0, .inr (.inr ((8, 0, 0), o0))), (1, .inl a1), (2, .inl a2)] [] s0
            exact am_wk hX [] (hJ28 hf)
          · have hf := am_if hf hb
            show X 16 [(0, .inr (.inr ((8, 0, 0), o0))), (1, .inl a1), (2, .inl a2)] [] s0
            refine am_blk hX 8 4 (And.intro rfl (And.intro (fun hb => ?_) (fun hb => ?_)))
            · have hf := am_it hf hb
              show X 28 [(0, .inr (.inr ((8, 0, 0), o0))), (1, .inl a1), (2, .inl a2)] [] s0
              exact am_wk hX [] (hJ28 hf)
            · have hf := am_if hf hb
              show X 24 [(0, .inr (.inr ((8, 0, 0), o0))), (1, .inl a1), (2, .inl a2)] [] s0
              refine am_blk hX 12 2 (?_)
              show X 29 [(0, .inr (.inr ((8, 0, 0), o0))), (1, .inl a1), (2, .inl a2)] [.inl (1 : Int32)] s0
              exact am_wk hX [] (hJ29 (1 : Int32) hf)
def fX7_nextOf (s0 : AS) (o0 : Nat) (a1 : Int32) (a2 : Int32) : Option Int32 :=
  am_r (fX7_has s0 o0 a1 a2) (fun (v1 : Int32) => am_let (fun (x2 : Int32) => some x2) (fun J21 => if v1 = 0 then (J21 (-1 : Int32)) else (am_g (¬ (a1 < 0 ∨ 7 ≤ a1.toNatClampNeg)) (am_g (¬ (a2 < 0 ∨ 7 ≤ a2.toNatClampNeg)) (J21 (s0.1 (o0 + 17 + 1 + a1.toNatClampNeg) a2.toNatClampNeg))))))
def kX7_nextOf : List (Nat × Instr × Nat) := [(0, .aload_n 0, 1), (1, .iload_n 1, 1), (2, .iload_n 2, 1), (3, .invokevirtual 71, 3), (6, .ifCond .eq 14, 3), (9, .aload_n 0, 1), (10, .getfield 19, 3), (13, .iload_n 1, 1), (14, .aaload, 1), (15, .iload_n 2, 1), (16, .iaload, 1), (17, .goto 4, 3), (20, .iconst (-1), 1), (21, .ireturn, 1)]
theorem qX7_nextOf : ∀ q ∈ kX7_nextOf, decode mX7_nextOf.2.2.1 q.1 = .ok (q.2.1, q.2.2) ∧ am_iok mX7_nextOf.2.2.2.1 q.1 q.2.1 q.2.2 = true := by decide +kernel
set_option maxRecDepth 100000 in
theorem wX7_nextOf : Cond.code mX7_nextOf.2.1 mX7_nextOf.2.2.1 mX7_nextOf.2.2.2.1 mX7_nextOf.2.2.2.2.1 ∈ am_T := List.mem_filter.mpr ⟨List.mem_of_getElem? (i := 795) rfl, rfl⟩
set_option maxHeartbeats 4000000 in
set_option maxRecDepth 100000 in
theorem tX7_nextOf (l : Launch) (d : Nat) {s0 : AS} {o0 : Nat} {a1 : Int32} {a2 : Int32} {rE : Int32} (hf : fX7_nextOf s0 o0 a1 a2 = some rE) : am_Ct l (d + 2) mX7_nextOf [.inr (.inr ((8, 0, 0), o0)), .inl a1, .inl a2] s0 s0 (some (.inl rE)) := by
  refine am_sim l (d + 1) (code := kX7_nextOf) (by decide +kernel) wX7_nextOf qX7_nextOf (Nat.le_of_ble_eq_true rfl) ?_
  intro X hX
  show X 0 [(0, .inr (.inr ((8, 0, 0), o0))), (1, .inl a1), (2, .inl a2)] [] s0
  unfold fX7_nextOf at hf
  obtain ⟨v1, hcv1, hf⟩ := am_r_of hf
  refine am_jn hf (fun J21 => ∀ (x2 : Int32), J21 x2 = some rE → X 21 [] [.inl x2] s0) ?_ ?_
  · intro x2 hf
    refine am_blk hX 13 1 (am_rpi hf)
  · intro J21 hJ21 hf
    refine am_blk hX 0 5 (And.intro rfl (And.intro rfl (Exists.intro s0 (Exists.intro (some (.inl v1)) (And.intro (tX7_has l (d + 0) hcv1) (And.intro (fun hb => ?_) (fun hb => ?_)))))))
    · have hf := am_it hf hb
      show X 20 [(0, .inr (.inr ((8, 0, 0), o0))), (1, .inl a1), (2, .inl a2)] [] s0
      refine am_blk hX 12 1 (?_)
      show X 21 [(0, .inr (.inr ((8, 0, 0), o0))), (1, .inl a1), (2, .inl a2)] [.inl (-1 : Int32)] s0
      exact am_wk hX [] (hJ21 (-1 : Int32) hf)
    · have hf := am_if hf hb
      show X 9 [(0, .inr (.inr ((8, 0, 0), o0))), (1, .inl a1), (2, .inl a2)] [] s0
      obtain ⟨g3, hf⟩ := am_g_of hf
      obtain ⟨g4, hf⟩ := am_g_of hf
      refine am_blk hX 5 7 (And.intro rfl (And.intro g3 (And.intro rfl (And.intro g4 (?_)))))
      show X 21 [(0, .inr (.inr ((8, 0, 0), o0))), (1, .inl a1), (2, .inl a2)] [.inl (s0.1 (o0 + 17 + 1 + a1.toNatClampNeg) a2.toNatClampNeg)] s0
      exact am_wk hX [] (hJ21 (s0.1 (o0 + 17 + 1 + a1.toNatClampNeg) a2.toNatClampNeg) hf)
def fX6_gatherVotes_L10 (o0 : Nat) (o1 : Nat) (o2 : Nat) (a3 : Int32) (a4 : Int32) (v1 : Nat) : Nat → AS → Int32 → Option (AS × Unit)
  | 0, _, _ => none
  | n10 + 1, s3, x4 =>
    if (s3.1 o1 6) ≤ x4 then (some (s3, ())) else (am_g (¬ (x4 < 0 ∨ 8 ≤ x4.toNatClampNeg)) (am_let (am_si s3 (o0 + 7) (x4.toNatClampNeg) (-1 : Int32)) (fun (s6 : AS) => am_r (fX1_isSham s6 o2 x4 a3) (fun (v7 : Int32) => am_let (fun (s8 : AS) => am_let (x4 + (1 : Int32)) (fun (x9 : Int32) => fX6_gatherVotes_L10 o0 o1 o2 a3 a4 v1 n10 s8 x9)) (fun J91 => if v7 = 0 then (am_r (fX8_holds (s6.1 o0 10) x4) (fun (v10 : Int32) => if v10 = 0 then (J91 s6) else (am_g (¬ v1 = 0) (if v1 = 0 then (J91 s6) else (am_g (¬ v1 = 0) (am_g (¬ (x4 < 0 ∨ 8 ≤ x4.toNatClampNeg)) (am_g (¬ ((1 : Int32) < 0 ∨ 5 ≤ (1 : Int32).toNatClampNeg)) (am_g (¬ v1 = 0) (am_r (fX7_nextOf s6 v1 a4 (s6.1 (o1 + 12 + 1 + x4.toNatClampNeg) ((1 : Int32).toNatClampNeg))) (fun (v16 : Int32) => am_g (¬ (x4 < 0 ∨ 8 ≤ x4.toNatClampNeg)) (am_let (am_si s6 (o0 + 7) (x4.toNatClampNeg) v16) (fun (s18 : AS) => J91 s18)))))))))))) else (am_g (¬ (x4 < 0 ∨ 8 ≤ x4.toNatClampNeg)) (am_let (am_si s6 (o0 + 7) (x4.toNatClampNeg) (s6.1 o2 12)) (fun (s20 : AS) => J91 s20))))))))
def fX6_gatherVotes (s0 : AS) (o0 : Nat) (o1 : Nat) (o2 : Nat) (a3 : Int32) (a4 : Int32) : Option (AS × Unit) :=
  am_r (fX1_waysAt s0 o2 a3) (fun (v1 : Nat) => am_g (¬ v1 = 0) (fX6_gatherVotes_L10 o0 o1 o2 a3 a4 v1 am_fu s0 (0 : Int32)))
def kX6_gatherVotes : List (Nat × Instr × Nat) := [(0, .aload_n 2, 1), (1, .iload_n 3, 1), (2, .invokevirtual 126, 3), (5, .astore 5, 2), (7, .iconst 0, 1), (8, .istore 6, 2), (10, .iload 6, 2), (12, .aload_n 1, 1), (13, .getfield 97, 3), (16, .if_icmp .ge 81, 3), (19, .aload_n 0, 1), (20, .getfield 30, 3), (23, .iload 6, 2), (25, .iconst (-1), 1), (26, .iastore, 1), (27, .aload_n 2, 1), (28, .iload 6, 2), (30, .iload_n 3, 1), (31, .invokevirtual 130, 3), (34, .ifCond .eq 17, 3), (37, .aload_n 0, 1), (38, .getfield 30, 3), (41, .iload 6, 2), (43, .aload_n 2, 1), (44, .getfield 133, 3), (47, .iastore, 1), (48, .goto 43, 3), (51, .aload_n 0, 1), (52, .getfield 66, 3), (55, .iload 6, 2), (57, .invokestatic 110, 3), (60, .ifCond .eq 31, 3), (63, .aload 5, 2), (65, .ifnull 26, 3), (68, .aload_n 0, 1), (69, .getfield 30, 3), (72, .iload 6, 2), (74, .aload 5, 2), (76, .iload 4, 2), (78, .aload_n 1, 1), (79, .getfield 102, 3), (82, .iload 6, 2), (84, .aaload, 1), (85, .iconst 1, 1), (86, .iaload, 1), (87, .invokevirtual 136, 3), (90, .iastore, 1), (91, .iinc 6 1, 3), (94, .goto (-84), 3), (97, .return_, 1)]
theorem qX6_gatherVotes : ∀ q ∈ kX6_gatherVotes, decode mX6_gatherVotes.2.2.1 q.1 = .ok (q.2.1, q.2.2) ∧ am_iok mX6_gatherVotes.2.2.2.1 q.1 q.2.1 q.2.2 = true := by decide +kernel
set_option maxRecDepth 100000 in
theorem wX6_gatherVotes : Cond.code mX6_gatherVotes.2.1 mX6_gatherVotes.2.2.1 mX6_gatherVotes.2.2.2.1 mX6_gatherVotes.2.2.2.2.1 ∈ am_T := List.mem_filter.mpr ⟨List.mem_of_getElem? (i := 783) rfl, rfl⟩
set_option maxHeartbeats 4000000 in
set_option maxRecDepth 100000 in
theorem tX6_gatherVotes (l : Launch) (d : Nat) {s0 : AS} {o0 : Nat} {o1 : Nat} {o2 : Nat} {a3 : Int32} {a4 : Int32} {sE : AS} {rE : Unit} (hf : fX6_gatherVotes s0 o0 o1 o2 a3 a4 = some (sE, rE)) : am_Ct l (d + 3) mX6_gatherVotes [.inr (.inr ((7, 0, 0), o0)), .inr (.inr ((4, 0, 0), o1)), .inr (.inr ((2, 0, 0), o2)), .inl a3, .inl a4] s0 sE none := by
  refine am_sim l (d + 2) (code := kX6_gatherVotes) (by decide +kernel) wX6_gatherVotes qX6_gatherVotes (Nat.le_of_ble_eq_true rfl) ?_
  intro X hX
  show X 0 [(0, .inr (.inr ((7, 0, 0), o0))), (1, .inr (.inr ((4, 0, 0), o1))), (2, .inr (.inr ((2, 0, 0), o2))), (3, .inl a3), (4, .inl a4)] [] s0
  unfold fX6_gatherVotes at hf
  obtain ⟨v1, hcv1, hf⟩ := am_r_of hf
  obtain ⟨g2, hf⟩ := am_g_of hf
  have hL10 : ∀ (n10 : Nat) (s3 : AS) (x4 : Int32), fX6_gatherVotes_L10 o0 o1 o2 a3 a4 v1 n10 s3 x4 = some (sE, rE) → X 10 [(0, .inr (.inr ((7, 0, 0), o0))), (1, .inr (.inr ((4, 0, 0), o1))), (2, .inr (.inr ((2, 0, 0), o2))), (3, .inl a3), (4, .inl a4), (5, .inr (.inr ((12, 0, 0), v1))), (6, .inl x4)] [] s3 := by
    intro n10
    induction n10 with
    | zero => intro s3 x4 hf; exact am_no (show none = some _ from hf)
    | succ n10 ih10 =>
      intro s3 x4 hf
      refine am_blk hX 6 4 (And.intro rfl (And.intro (fun hb => ?_) (fun hb => ?_)))
      · have hf := am_it hf hb
        show X 97 [(0, .inr (.inr ((7, 0, 0), o0))), (1, .inr (.inr ((4, 0, 0), o1))), (2, .inr (.inr ((2, 0, 0), o2))), (3, .inl a3), (4, .inl a4), (5, .inr (.inr ((12, 0, 0), v1))), (6, .inl x4)] [] s3
        refine am_blk hX 49 1 (And.intro rfl (am_rv hf))
      · have hf := am_if hf hb
        show X 19 [(0, .inr (.inr ((7, 0, 0), o0))), (1, .inr (.inr ((4, 0, 0), o1))), (2, .inr (.inr ((2, 0, 0), o2))), (3, .inl a3), (4, .inl a4), (5, .inr (.inr ((12, 0, 0), v1))), (6, .inl x4)] [] s3
        obtain ⟨g5, hf⟩ := am_g_of hf
        refine am_blk hX 10 5 (And.intro rfl (And.intro rfl (And.intro g5 (am_nl (Z := fun s6 => X 27 [(0, .inr (.inr ((7, 0, 0), o0))), (1, .inr (.inr ((4, 0, 0), o1))), (2, .inr (.inr ((2, 0, 0), o2))), (3, .inl a3), (4, .inl a4), (5, .inr (.inr ((12, 0, 0), v1))), (6, .inl x4)] [] s6) hf (fun s6 hf => ?_)))))
        obtain ⟨v7, hcv7, hf⟩ := am_r_of hf
        refine am_jn hf (fun J91 => ∀ (s8 : AS), J91 s8 = some (sE, rE) → X 91 [(0, .inr (.inr ((7, 0, 0), o0))), (1, .inr (.inr ((4, 0, 0), o1))), (2, .inr (.inr ((2, 0, 0), o2))), (3, .inl a3), (4, .inl a4), (5, .inr (.inr ((12, 0, 0), v1))), (6, .inl x4)] [] s8) ?_ ?_
        · intro s8 hf
          refine am_blk hX 47 1 (am_nl (Z := fun x9 => X 94 [(6, .inl x9), (0, .inr (.inr ((7, 0, 0), o0))), (1, .inr (.inr ((4, 0, 0), o1))), (2, .inr (.inr ((2, 0, 0), o2))), (3, .inl a3), (4, .inl a4), (5, .inr (.inr ((12, 0, 0), v1)))] [] s8) hf (fun x9 hf => ?_))
          refine am_blk hX 48 1 (?_)
          show X 10 [(6, .inl x9), (0, .inr (.inr ((7, 0, 0), o0))), (1, .inr (.inr ((4, 0, 0), o1))), (2, .inr (.inr ((2, 0, 0), o2))), (3, .inl a3), (4, .inl a4), (5, .inr (.inr ((12, 0, 0), v1)))] [] s8
          exact am_wk hX [1, 2, 3, 4, 5, 6, 0] (ih10 s8 x9 hf)
        · intro J91 hJ91 hf
          refine am_blk hX 15 5 (And.intro rfl (And.intro rfl (Exists.intro s6 (Exists.intro (some (.inl v7)) (And.intro (tX1_isSham l (d + 1) hcv7) (And.intro (fun hb => ?_) (fun hb => ?_)))))))
          · have hf := am_it hf hb
            show X 51 [(0, .inr (.inr ((7, 0, 0), o0))), (1, .inr (.inr ((4, 0, 0), o1))), (2, .inr (.inr ((2, 0, 0), o2))), (3, .inl a3), (4, .inl a4), (5, .inr (.inr ((12, 0, 0), v1))), (6, .inl x4)] [] s6
            obtain ⟨v10, hcv10, hf⟩ := am_r_of hf
            refine am_blk hX 27 5 (And.intro rfl (And.intro rfl (Exists.intro s6 (Exists.intro (some (.inl v10)) (And.intro (tX8_holds l (d + 1) hcv10) (And.intro (fun hb => ?_) (fun hb => ?_)))))))
            · have hf := am_it hf hb
              show X 91 [(0, .inr (.inr ((7, 0, 0), o0))), (1, .inr (.inr ((4, 0, 0), o1))), (2, .inr (.inr ((2, 0, 0), o2))), (3, .inl a3), (4, .inl a4), (5, .inr (.inr ((12, 0, 0), v1))), (6, .inl x4)] [] s6
              exact am_wk hX [0, 1, 2, 3, 4, 5, 6] (hJ91 s6 hf)
            · have hf := am_if hf hb
              show X 63 [(0, .inr (.inr ((7, 0, 0), o0))), (1, .inr (.inr ((4, 0, 0), o1))), (2, .inr (.inr ((2, 0, 0), o2))), (3, .inl a3), (4, .inl a4), (5, .inr (.inr ((12, 0, 0), v1))), (6, .inl x4)] [] s6
              obtain ⟨g11, hf⟩ := am_g_of hf
              refine am_blk hX 32 2 (And.intro g11 (And.intro (fun hb => ?_) (fun hb => ?_)))
              · have hf := am_it hf hb
                show X 91 [(0, .inr (.inr ((7, 0, 0), o0))), (1, .inr (.inr ((4, 0, 0), o1))), (2, .inr (.inr ((2, 0, 0), o2))), (3, .inl a3), (4, .inl a4), (5, .inr (.inr ((12, 0, 0), v1))), (6, .inl x4)] [] s6
                exact am_wk hX [0, 1, 2, 3, 4, 5, 6] (hJ91 s6 hf)
              · have hf := am_if hf hb
                show X 68 [(0, .inr (.inr ((7, 0, 0), o0))), (1, .inr (.inr ((4, 0, 0), o1))), (2, .inr (.inr ((2, 0, 0), o2))), (3, .inl a3), (4, .inl a4), (5, .inr (.inr ((12, 0, 0), v1))), (6, .inl x4)] [] s6
                obtain ⟨g12, hf⟩ := am_g_of hf
                obtain ⟨g13, hf⟩ := am_g_of hf
                obtain ⟨g14, hf⟩ := am_g_of hf
                obtain ⟨g15, hf⟩ := am_g_of hf
                obtain ⟨v16, hcv16, hf⟩ := am_r_of hf
                obtain ⟨g17, hf⟩ := am_g_of hf
                refine am_blk hX 34 13 (And.intro rfl (And.intro g12 (And.intro rfl (And.intro g13 (And.intro rfl (And.intro g14 (And.intro rfl (And.intro rfl (And.intro g15 (Exists.intro s6 (Exists.intro (some (.inl v16)) (And.intro (tX7_nextOf l (d + 0) hcv16) (And.intro rfl (And.intro g17 (am_nl (Z := fun s18 => X 91 [(0, .inr (.inr ((7, 0, 0), o0))), (1, .inr (.inr ((4, 0, 0), o1))), (2, .inr (.inr ((2, 0, 0), o2))), (3, .inl a3), (4, .inl a4), (5, .inr (.inr ((12, 0, 0), v1))), (6, .inl x4)] [] s18) hf (fun s18 hf => ?_))))))))))))))))
                exact am_wk hX [0, 1, 2, 3, 4, 5, 6] (hJ91 s18 hf)
          · have hf := am_if hf hb
            show X 37 [(0, .inr (.inr ((7, 0, 0), o0))), (1, .inr (.inr ((4, 0, 0), o1))), (2, .inr (.inr ((2, 0, 0), o2))), (3, .inl a3), (4, .inl a4), (5, .inr (.inr ((12, 0, 0), v1))), (6, .inl x4)] [] s6
            obtain ⟨g19, hf⟩ := am_g_of hf
            refine am_blk hX 20 6 (And.intro rfl (And.intro rfl (And.intro rfl (And.intro g19 (am_nl (Z := fun s20 => X 48 [(0, .inr (.inr ((7, 0, 0), o0))), (1, .inr (.inr ((4, 0, 0), o1))), (2, .inr (.inr ((2, 0, 0), o2))), (3, .inl a3), (4, .inl a4), (5, .inr (.inr ((12, 0, 0), v1))), (6, .inl x4)] [] s20) hf (fun s20 hf => ?_))))))
            refine am_blk hX 26 1 (?_)
            show X 91 [(0, .inr (.inr ((7, 0, 0), o0))), (1, .inr (.inr ((4, 0, 0), o1))), (2, .inr (.inr ((2, 0, 0), o2))), (3, .inl a3), (4, .inl a4), (5, .inr (.inr ((12, 0, 0), v1))), (6, .inl x4)] [] s20
            exact am_wk hX [0, 1, 2, 3, 4, 5, 6] (hJ91 s20 hf)
  refine am_blk hX 0 6 (And.intro rfl (And.intro rfl (Exists.intro s0 (Exists.intro (some (.inr (.inr ((12, 0, 0), v1)))) (And.intro (tX1_waysAt l (d + 1) hcv1) (And.intro g2 (?_)))))))
  show X 10 [(6, .inl (0 : Int32)), (5, .inr (.inr ((12, 0, 0), v1))), (0, .inr (.inr ((7, 0, 0), o0))), (1, .inr (.inr ((4, 0, 0), o1))), (2, .inr (.inr ((2, 0, 0), o2))), (3, .inl a3), (4, .inl a4)] [] s0
  exact am_wk hX [2, 3, 4, 5, 6, 1, 0] (hL10 am_fu s0 (0 : Int32) hf)
def fX6_leaveAt_L3 (o0 : Nat) (o1 : Nat) (a2 : Int32) (a3 : Int32) : Nat → AS → Int32 → Option (AS × Unit)
  | 0, _, _ => none
  | n3 + 1, s1, x2 =>
    if (s1.1 o1 6) ≤ x2 then (some (s1, ())) else (am_r (fX8_holds (s1.1 o0 10) x2) (fun (v3 : Int32) => am_let (fun (s4 : AS) => am_let (x2 + (1 : Int32)) (fun (x5 : Int32) => fX6_leaveAt_L3 o0 o1 a2 a3 n3 s4 x5)) (fun J60 => if v3 = 0 then (J60 s1) else (am_g (¬ (x2 < 0 ∨ 8 ≤ x2.toNatClampNeg)) (am_g (¬ ((1 : Int32) < 0 ∨ 5 ≤ (1 : Int32).toNatClampNeg)) (if (s1.1 (o1 + 12 + 1 + x2.toNatClampNeg) ((1 : Int32).toNatClampNeg)) = a3 then (am_let (am_si s1 o0 10 ((s1.1 o0 10) &&& (((1 : Int32) <<< (x2 &&& 31)) ^^^ (-1 : Int32)))) (fun (s8 : AS) => am_g (¬ (x2 < 0 ∨ 8 ≤ x2.toNatClampNeg)) (am_let (am_si s8 (o0 + 5) (x2.toNatClampNeg) a2) (fun (s10 : AS) => J60 s10)))) else (J60 s1)))))))
def fX6_leaveAt (s0 : AS) (o0 : Nat) (o1 : Nat) (a2 : Int32) (a3 : Int32) : Option (AS × Unit) :=
  fX6_leaveAt_L3 o0 o1 a2 a3 am_fu s0 (0 : Int32)
def kX6_leaveAt : List (Nat × Instr × Nat) := [(0, .iconst 0, 1), (1, .istore 4, 2), (3, .iload 4, 2), (5, .aload_n 1, 1), (6, .getfield 97, 3), (9, .if_icmp .ge 57, 3), (12, .aload_n 0, 1), (13, .getfield 66, 3), (16, .iload 4, 2), (18, .invokestatic 110, 3), (21, .ifCond .eq 39, 3), (24, .aload_n 1, 1), (25, .getfield 102, 3), (28, .iload 4, 2), (30, .aaload, 1), (31, .iconst 1, 1), (32, .iaload, 1), (33, .iload_n 3, 1), (34, .if_icmp .ne 26, 3), (37, .aload_n 0, 1), (38, .dup, 1), (39, .getfield 66, 3), (42, .iconst 1, 1), (43, .iload 4, 2), (45, .ishl, 1), (46, .iconst (-1), 1), (47, .ixor, 1), (48, .iand, 1), (49, .putfield 66, 3), (52, .aload_n 0, 1), (53, .getfield 24, 3), (56, .iload 4, 2), (58, .iload_n 2, 1), (59, .iastore, 1), (60, .iinc 4 1, 3), (63, .goto (-60), 3), (66, .return_, 1)]
theorem qX6_leaveAt : ∀ q ∈ kX6_leaveAt, decode mX6_leaveAt.2.2.1 q.1 = .ok (q.2.1, q.2.2) ∧ am_iok mX6_leaveAt.2.2.2.1 q.1 q.2.1 q.2.2 = true := by decide +kernel
set_option maxRecDepth 100000 in
theorem wX6_leaveAt : Cond.code mX6_leaveAt.2.1 mX6_leaveAt.2.2.1 mX6_leaveAt.2.2.2.1 mX6_leaveAt.2.2.2.2.1 ∈ am_T := List.mem_filter.mpr ⟨List.mem_of_getElem? (i := 779) rfl, rfl⟩
set_option maxHeartbeats 4000000 in
set_option maxRecDepth 100000 in
theorem tX6_leaveAt (l : Launch) (d : Nat) {s0 : AS} {o0 : Nat} {o1 : Nat} {a2 : Int32} {a3 : Int32} {sE : AS} {rE : Unit} (hf : fX6_leaveAt s0 o0 o1 a2 a3 = some (sE, rE)) : am_Ct l (d + 2) mX6_leaveAt [.inr (.inr ((7, 0, 0), o0)), .inr (.inr ((4, 0, 0), o1)), .inl a2, .inl a3] s0 sE none := by
  refine am_sim l (d + 1) (code := kX6_leaveAt) (by decide +kernel) wX6_leaveAt qX6_leaveAt (Nat.le_of_ble_eq_true rfl) ?_
  intro X hX
  show X 0 [(0, .inr (.inr ((7, 0, 0), o0))), (1, .inr (.inr ((4, 0, 0), o1))), (2, .inl a2), (3, .inl a3)] [] s0
  unfold fX6_leaveAt at hf
  have hL3 : ∀ (n3 : Nat) (s1 : AS) (x2 : Int32), fX6_leaveAt_L3 o0 o1 a2 a3 n3 s1 x2 = some (sE, rE) → X 3 [(0, .inr (.inr ((7, 0, 0), o0))), (1, .inr (.inr ((4, 0, 0), o1))), (2, .inl a2), (3, .inl a3), (4, .inl x2)] [] s1 := by
    intro n3
    induction n3 with
    | zero => intro s1 x2 hf; exact am_no (show none = some _ from hf)
    | succ n3 ih3 =>
      intro s1 x2 hf
      refine am_blk hX 2 4 (And.intro rfl (And.intro (fun hb => ?_) (fun hb => ?_)))
      · have hf := am_it hf hb
        show X 66 [(0, .inr (.inr ((7, 0, 0), o0))), (1, .inr (.inr ((4, 0, 0), o1))), (2, .inl a2), (3, .inl a3), (4, .inl x2)] [] s1
        refine am_blk hX 36 1 (And.intro rfl (am_rv hf))
      · have hf := am_if hf hb
        show X 12 [(0, .inr (.inr ((7, 0, 0), o0))), (1, .inr (.inr ((4, 0, 0), o1))), (2, .inl a2), (3, .inl a3), (4, .inl x2)] [] s1
        obtain ⟨v3, hcv3, hf⟩ := am_r_of hf
        refine am_jn hf (fun J60 => ∀ (s4 : AS), J60 s4 = some (sE, rE) → X 60 [(0, .inr (.inr ((7, 0, 0), o0))), (1, .inr (.inr ((4, 0, 0), o1))), (2, .inl a2), (3, .inl a3), (4, .inl x2)] [] s4) ?_ ?_
        · intro s4 hf
          refine am_blk hX 34 1 (am_nl (Z := fun x5 => X 63 [(4, .inl x5), (0, .inr (.inr ((7, 0, 0), o0))), (1, .inr (.inr ((4, 0, 0), o1))), (2, .inl a2), (3, .inl a3)] [] s4) hf (fun x5 hf => ?_))
          refine am_blk hX 35 1 (?_)
          show X 3 [(4, .inl x5), (0, .inr (.inr ((7, 0, 0), o0))), (1, .inr (.inr ((4, 0, 0), o1))), (2, .inl a2), (3, .inl a3)] [] s4
          exact am_wk hX [1, 2, 3, 4, 0] (ih3 s4 x5 hf)
        · intro J60 hJ60 hf
          refine am_blk hX 6 5 (And.intro rfl (And.intro rfl (Exists.intro s1 (Exists.intro (some (.inl v3)) (And.intro (tX8_holds l (d + 0) hcv3) (And.intro (fun hb => ?_) (fun hb => ?_)))))))
          · have hf := am_it hf hb
            show X 60 [(0, .inr (.inr ((7, 0, 0), o0))), (1, .inr (.inr ((4, 0, 0), o1))), (2, .inl a2), (3, .inl a3), (4, .inl x2)] [] s1
            exact am_wk hX [0, 1, 2, 3, 4] (hJ60 s1 hf)
          · have hf := am_if hf hb
            show X 24 [(0, .inr (.inr ((7, 0, 0), o0))), (1, .inr (.inr ((4, 0, 0), o1))), (2, .inl a2), (3, .inl a3), (4, .inl x2)] [] s1
            obtain ⟨g6, hf⟩ := am_g_of hf
            obtain ⟨g7, hf⟩ := am_g_of hf
            refine am_blk hX 11 8 (And.intro rfl (And.intro g6 (And.intro rfl (And.intro g7 (And.intro (fun hb => ?_) (fun hb => ?_))))))
            · have hf := am_if hf hb
              show X 60 [(0, .inr (.inr ((7, 0, 0), o0))), (1, .inr (.inr ((4, 0, 0), o1))), (2, .inl a2), (3, .inl a3), (4, .inl x2)] [] s1
              exact am_wk hX [0, 1, 2, 3, 4] (hJ60 s1 hf)
            · have hf := am_it hf hb
              show X 37 [(0, .inr (.inr ((7, 0, 0), o0))), (1, .inr (.inr ((4, 0, 0), o1))), (2, .inl a2), (3, .inl a3), (4, .inl x2)] [] s1
              refine am_blk hX 19 10 (And.intro rfl (And.intro rfl (am_nl (Z := fun s8 => X 52 [(0, .inr (.inr ((7, 0, 0), o0))), (1, .inr (.inr ((4, 0, 0), o1))), (2, .inl a2), (3, .inl a3), (4, .inl x2)] [] s8) hf (fun s8 hf => ?_))))
              obtain ⟨g9, hf⟩ := am_g_of hf
              refine am_blk hX 29 5 (And.intro rfl (And.intro rfl (And.intro g9 (am_nl (Z := fun s10 => X 60 [(0, .inr (.inr ((7, 0, 0), o0))), (1, .inr (.inr ((4, 0, 0), o1))), (2, .inl a2), (3, .inl a3), (4, .inl x2)] [] s10) hf (fun s10 hf => ?_)))))
              exact am_wk hX [0, 1, 2, 3, 4] (hJ60 s10 hf)
  refine am_blk hX 0 2 (?_)
  show X 3 [(4, .inl (0 : Int32)), (0, .inr (.inr ((7, 0, 0), o0))), (1, .inr (.inr ((4, 0, 0), o1))), (2, .inl a2), (3, .inl a3)] [] s0
  exact am_wk hX [1, 2, 3, 4, 0] (hL3 am_fu s0 (0 : Int32) hf)
