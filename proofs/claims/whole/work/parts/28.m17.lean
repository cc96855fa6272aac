/-! METHODS, printed by gen.py. -/
def fX9_need (s0 : AS) (a1 : Int32) (a2 : Int32) : Option (AS × Int32) :=
  am_let (am_si s0 215 0 (0 : Int32)) (fun (s1 : AS) => am_r (fX9_isPerson s1 a1.toInt64) (fun (v2 : Int32) => am_let (some (s1, (-2 : Int32))) (fun J26 => if v2 = 0 then (J26) else (am_r (fX9_in a2.toInt64 (0 : Int64) (9 : Int64)) (fun (v3 : Int32) => if v3 = 0 then (J26) else (am_g (¬ ((6 : Int32) < 0 ∨ 35 ≤ (6 : Int32).toNatClampNeg)) (if (s1.1 222 ((6 : Int32).toNatClampNeg)) ≤ 0 then (am_g (¬ ((((5 : Int32) * a1) + (3 : Int32)) < 0 ∨ 200 ≤ (((5 : Int32) * a1) + (3 : Int32)).toNatClampNeg)) (am_let (s1.1 224 ((((5 : Int32) * a1) + (3 : Int32)).toNatClampNeg)) (fun (x6 : Int32) => am_g (¬ ((((5 : Int32) * a1) + (3 : Int32)) < 0 ∨ 200 ≤ (((5 : Int32) * a1) + (3 : Int32)).toNatClampNeg)) (am_let (am_si s1 224 ((((5 : Int32) * a1) + (3 : Int32)).toNatClampNeg) a2) (fun (s8 : AS) => some (s8, x6)))))) else (some (s1, (-5 : Int32))))))))))
def kX9_need : List (Nat × Instr × Nat) := [(0, .aload_n 0, 1), (1, .iconst 0, 1), (2, .putfield 80, 3), (5, .aload_n 0, 1), (6, .iload_n 1, 1), (7, .i2l, 1), (8, .invokevirtual 344, 3), (11, .ifCond .eq 15, 3), (14, .iload_n 2, 1), (15, .i2l, 1), (16, .lconst 0, 1), (17, .ldc2_w 456, 3), (20, .invokestatic 85, 3), (23, .ifCond .ne 6, 3), (26, .bipush (-2), 2), (28, .ireturn, 1), (29, .aload_n 0, 1), (30, .getfield 34, 3), (33, .bipush 6, 2), (35, .iaload, 1), (36, .ifCond .le 6, 3), (39, .bipush (-5), 2), (41, .ireturn, 1), (42, .aload_n 0, 1), (43, .getfield 40, 3), (46, .iconst 5, 1), (47, .iload_n 1, 1), (48, .imul, 1), (49, .iconst 3, 1), (50, .iadd, 1), (51, .iaload, 1), (52, .istore_n 3, 1), (53, .aload_n 0, 1), (54, .getfield 40, 3), (57, .iconst 5, 1), (58, .iload_n 1, 1), (59, .imul, 1), (60, .iconst 3, 1), (61, .iadd, 1), (62, .iload_n 2, 1), (63, .iastore, 1), (64, .iload_n 3, 1), (65, .ireturn, 1)]
theorem qX9_need : ∀ q ∈ kX9_need, decode mX9_need.2.2.1 q.1 = .ok (q.2.1, q.2.2) ∧ am_iok mX9_need.2.2.2.1 q.1 q.2.1 q.2.2 = true := by decide +kernel
set_option maxRecDepth 100000 in
theorem wX9_need : Cond.code mX9_need.2.1 mX9_need.2.2.1 mX9_need.2.2.2.1 mX9_need.2.2.2.2.1 ∈ am_T := List.mem_filter.mpr ⟨List.mem_of_getElem? (i := 2007) rfl, rfl⟩
set_option maxHeartbeats 4000000 in
set_option maxRecDepth 100000 in
theorem tX9_need (l : Launch) (d : Nat) {s0 : AS} {a1 : Int32} {a2 : Int32} {sE : AS} {rE : Int32} (hf : fX9_need s0 a1 a2 = some (sE, rE)) : am_Ct l (d + 3) mX9_need [.inr (.inr ((10, 0, 0), 215)), .inl a1, .inl a2] s0 sE (some (.inl rE)) := by
  refine am_sim l (d + 2) (code := kX9_need) (by decide +kernel) wX9_need qX9_need (Nat.le_of_ble_eq_true rfl) ?_
  intro X hX
  show X 0 [(0, .inr (.inr ((10, 0, 0), 215))), (1, .inl a1), (2, .inl a2)] [] s0
  unfold fX9_need at hf
  refine am_blk hX 0 3 (And.intro rfl (am_nl (Z := fun s1 => X 5 [(0, .inr (.inr ((10, 0, 0), 215))), (1, .inl a1), (2, .inl a2)] [] s1) hf (fun s1 hf => ?_)))
  obtain ⟨v2, hcv2, hf⟩ := am_r_of hf
  refine am_jn hf (fun J26 => J26 = some (sE, rE) → X 26 [] [] s1) ?_ ?_
  · intro hf
    refine am_blk hX 14 2 (am_ri hf)
  · intro J26 hJ26 hf
    refine am_blk hX 3 5 (And.intro rfl (And.intro rfl (Exists.intro s1 (Exists.intro (some (.inl v2)) (And.intro (tX9_isPerson l (d + 0) hcv2) (And.intro (fun hb => ?_) (fun hb => ?_)))))))
    · have hf := am_it hf hb
      show X 26 [(0, .inr (.inr ((10, 0, 0), 215))), (1, .inl a1), (2, .inl a2)] [] s1
      exact am_wk hX [] (hJ26 hf)
    · have hf := am_if hf hb
      show X 14 [(0, .inr (.inr ((10, 0, 0), 215))), (1, .inl a1), (2, .inl a2)] [] s1
      obtain ⟨v3, hcv3, hf⟩ := am_r_of hf
      refine am_blk hX 8 6 (And.intro rfl (Exists.intro s1 (Exists.intro (some (.inl v3)) (And.intro (tX9_in l (d + 1) hcv3) (And.intro (fun hb => ?_) (fun hb => ?_))))))
      · have hf := am_if hf hb
        show X 29 [(0, .inr (.inr ((10, 0, 0), 215))), (1, .inl a1), (2, .inl a2)] [] s1
        obtain ⟨g4, hf⟩ := am_g_of hf
        refine am_blk hX 16 5 (And.intro rfl (And.intro rfl (And.intro g4 (And.intro (fun hb => ?_) (fun hb => ?_)))))
        · have hf := am_it hf hb
          show X 42 [(0, .inr (.inr ((10, 0, 0), 215))), (1, .inl a1), (2, .inl a2)] [] s1
          obtain ⟨g5, hf⟩ := am_g_of hf
          refine am_blk hX 23 9 (And.intro rfl (And.intro rfl (And.intro g5 (am_nl (Z := fun x6 => X 53 [(3, .inl x6), (0, .inr (.inr ((10, 0, 0), 215))), (1, .inl a1), (2, .inl a2)] [] s1) hf (fun x6 hf => ?_)))))
          obtain ⟨g7, hf⟩ := am_g_of hf
          refine am_blk hX 32 9 (And.intro rfl (And.intro rfl (And.intro g7 (am_nl (Z := fun s8 => X 64 [(3, .inl x6), (0, .inr (.inr ((10, 0, 0), 215))), (1, .inl a1), (2, .inl a2)] [] s8) hf (fun s8 hf => ?_)))))
          refine am_blk hX 41 2 (am_ri hf)
        · have hf := am_if hf hb
          show X 39 [(0, .inr (.inr ((10, 0, 0), 215))), (1, .inl a1), (2, .inl a2)] [] s1
          refine am_blk hX 21 2 (am_ri hf)
      · have hf := am_it hf hb
        show X 26 [(0, .inr (.inr ((10, 0, 0), 215))), (1, .inl a1), (2, .inl a2)] [] s1
        exact am_wk hX [] (hJ26 hf)
def fX9_needed_L37 (a1 : Int32) : Nat → AS → Int32 → Int32 → Option (AS × Int32)
  | 0, _, _, _ => none
  | n37 + 1, s6, x7, x8 =>
    am_r (fX9_people s6) (fun (v9 : Int32) => if v9 ≤ x8 then (some (s6, x7)) else (am_let (fun (s10 : AS) (x11 : Int32) => am_let (x8 + (1 : Int32)) (fun (x12 : Int32) => fX9_needed_L37 a1 n37 s10 x11 x12)) (fun J82 => if x8 = a1 then (J82 s6 x7) else (am_let (am_si s6 215 30 x8) (fun (s13 : AS) => am_c (fX9_runs s13) (fun (s15 : AS) (v14 : Unit) => am_g (¬ (a1 < 0 ∨ 8 ≤ a1.toNatClampNeg)) (am_let (fun (x17 : Int32) => am_let (x7 ||| x17) (fun (x18 : Int32) => J82 s15 x18)) (fun J80 => if (s15.1 233 a1.toNatClampNeg) = (-1 : Int32) then (J80 ((1 : Int32) <<< (x8 &&& 31))) else (J80 (0 : Int32))))))))))
def fX9_needed (s0 : AS) (a1 : Int32) : Option (AS × Int32) :=
  am_let (am_si s0 215 0 (0 : Int32)) (fun (s1 : AS) => am_r (fX9_isPerson s1 a1.toInt64) (fun (v2 : Int32) => if v2 = 0 then (some (s1, (-2 : Int32))) else (am_c (fX9_laysNow s1) (fun (s4 : AS) (v3 : Unit) => am_g (¬ (a1 < 0 ∨ 8 ≤ a1.toNatClampNeg)) (if (s4.1 233 a1.toNatClampNeg) = (-1 : Int32) then (some (s4, (0 : Int32))) else (fX9_needed_L37 a1 am_fu s4 (0 : Int32) (0 : Int32)))))))
def kX9_needed : List (Nat × Instr × Nat) := [(0, .aload_n 0, 1), (1, .iconst 0, 1), (2, .putfield 80, 3), (5, .aload_n 0, 1), (6, .iload_n 1, 1), (7, .i2l, 1), (8, .invokevirtual 344, 3), (11, .ifCond .ne 6, 3), (14, .bipush (-2), 2), (16, .ireturn, 1), (17, .aload_n 0, 1), (18, .invokevirtual 358, 3), (21, .aload_n 0, 1), (22, .getfield 68, 3), (25, .iload_n 1, 1), (26, .iaload, 1), (27, .iconst (-1), 1), (28, .if_icmp .ne 5, 3), (31, .iconst 0, 1), (32, .ireturn, 1), (33, .iconst 0, 1), (34, .istore_n 2, 1), (35, .iconst 0, 1), (36, .istore_n 3, 1), (37, .iload_n 3, 1), (38, .aload_n 0, 1), (39, .invokevirtual 248, 3), (42, .if_icmp .ge 46, 3), (45, .iload_n 3, 1), (46, .iload_n 1, 1), (47, .if_icmp .ne 6, 3), (50, .goto 32, 3), (53, .aload_n 0, 1), (54, .iload_n 3, 1), (55, .putfield 271, 3), (58, .aload_n 0, 1), (59, .invokevirtual 339, 3), (62, .iload_n 2, 1), (63, .aload_n 0, 1), (64, .getfield 68, 3), (67, .iload_n 1, 1), (68, .iaload, 1), (69, .iconst (-1), 1), (70, .if_icmp .ne 9, 3), (73, .iconst 1, 1), (74, .iload_n 3, 1), (75, .ishl, 1), (76, .goto 4, 3), (79, .iconst 0, 1), (80, .ior, 1), (81, .istore_n 2, 1), (82, .iinc 3 1, 3), (85, .goto (-48), 3), (88, .iload_n 2, 1), (89, .ireturn, 1)]
theorem qX9_needed : ∀ q ∈ kX9_needed, decode mX9_needed.2.2.1 q.1 = .ok (q.2.1, q.2.2) ∧ am_iok mX9_needed.2.2.2.1 q.1 q.2.1 q.2.2 = true := by decide +kernel
set_option maxRecDepth 100000 in
theorem wX9_needed : Cond.code mX9_needed.2.1 mX9_needed.2.2.1 mX9_needed.2.2.2.1 mX9_needed.2.2.2.2.1 ∈ am_T := List.mem_filter.mpr ⟨List.mem_of_getElem? (i := 1818) rfl, rfl⟩
set_option maxHeartbeats 4000000 in
set_option maxRecDepth 100000 in
theorem tX9_needed (l : Launch) (d : Nat) {s0 : AS} {a1 : Int32} {sE : AS} {rE : Int32} (hf : fX9_needed s0 a1 = some (sE, rE)) : am_Ct l (d + 6) mX9_needed [.inr (.inr ((10, 0, 0), 215)), .inl a1] s0 sE (some (.inl rE)) := by
  refine am_sim l (d + 5) (code := kX9_needed) (by decide +kernel) wX9_needed qX9_needed (Nat.le_of_ble_eq_true rfl) ?_
  intro X hX
  show X 0 [(0, .inr (.inr ((10, 0, 0), 215))), (1, .inl a1)] [] s0
  unfold fX9_needed at hf
  refine am_blk hX 0 3 (And.intro rfl (am_nl (Z := fun s1 => X 5 [(0, .inr (.inr ((10, 0, 0), 215))), (1, .inl a1)] [] s1) hf (fun s1 hf => ?_)))
  obtain ⟨v2, hcv2, hf⟩ := am_r_of hf
  refine am_blk hX 3 5 (And.intro rfl (And.intro rfl (Exists.intro s1 (Exists.intro (some (.inl v2)) (And.intro (tX9_isPerson l (d + 3) hcv2) (And.intro (fun hb => ?_) (fun hb => ?_)))))))
  · have hf := am_if hf hb
    show X 17 [(0, .inr (.inr ((10, 0, 0), 215))), (1, .inl a1)] [] s1
    obtain ⟨s4, v3, hcv3, hf⟩ := am_c_of hf
    obtain ⟨g5, hf⟩ := am_g_of hf
    refine am_blk hX 10 8 (And.intro rfl (And.intro rfl (Exists.intro s4 (Exists.intro none (And.intro (tX9_laysNow l (d + 0) hcv3) (And.intro rfl (And.intro rfl (And.intro g5 (And.intro (fun hb => ?_) (fun hb => ?_))))))))))
    · have hf := am_if hf hb
      show X 33 [(0, .inr (.inr ((10, 0, 0), 215))), (1, .inl a1)] [] s4
      have hL37 : ∀ (n37 : Nat) (s6 : AS) (x7 : Int32) (x8 : Int32), fX9_needed_L37 a1 n37 s6 x7 x8 = some (sE, rE) → X 37 [(0, .inr (.inr ((10, 0, 0), 215))), (1, .inl a1), (2, .inl x7), (3, .inl x8)] [] s6 := by
        intro n37
        induction n37 with
        | zero => intro s6 x7 x8 hf; exact am_no (show none = some _ from hf)
        | succ n37 ih37 =>
          intro s6 x7 x8 hf
          obtain ⟨v9, hcv9, hf⟩ := am_r_of hf
          refine am_blk hX 24 4 (And.intro rfl (And.intro rfl (Exists.intro s6 (Exists.intro (some (.inl v9)) (And.intro (tX9_people l (d + 4) hcv9) (And.intro (fun hb => ?_) (fun hb => ?_)))))))
          · have hf := am_it hf hb
            show X 88 [(0, .inr (.inr ((10, 0, 0), 215))), (1, .inl a1), (2, .inl x7), (3, .inl x8)] [] s6
            refine am_blk hX 53 2 (am_ri hf)
          · have hf := am_if hf hb
            show X 45 [(0, .inr (.inr ((10, 0, 0), 215))), (1, .inl a1), (2, .inl x7), (3, .inl x8)] [] s6
            refine am_jn hf (fun J82 => ∀ (s10 : AS) (x11 : Int32), J82 s10 x11 = some (sE, rE) → X 82 [(0, .inr (.inr ((10, 0, 0), 215))), (1, .inl a1), (2, .inl x11), (3, .inl x8)] [] s10) ?_ ?_
            · intro s10 x11 hf
              refine am_blk hX 51 1 (am_nl (Z := fun x12 => X 85 [(3, .inl x12), (0, .inr (.inr ((10, 0, 0), 215))), (1, .inl a1), (2, .inl x11)] [] s10) hf (fun x12 hf => ?_))
              refine am_blk hX 52 1 (?_)
              show X 37 [(3, .inl x12), (0, .inr (.inr ((10, 0, 0), 215))), (1, .inl a1), (2, .inl x11)] [] s10
              exact am_wk hX [1, 2, 3, 0] (ih37 s10 x11 x12 hf)
            · intro J82 hJ82 hf
              refine am_blk hX 28 3 (And.intro (fun hb => ?_) (fun hb => ?_))
              · have hf := am_if hf hb
                show X 53 [(0, .inr (.inr ((10, 0, 0), 215))), (1, .inl a1), (2, .inl x7), (3, .inl x8)] [] s6
                refine am_blk hX 32 3 (And.intro rfl (am_nl (Z := fun s13 => X 58 [(0, .inr (.inr ((10, 0, 0), 215))), (1, .inl a1), (2, .inl x7), (3, .inl x8)] [] s13) hf (fun s13 hf => ?_)))
                obtain ⟨s15, v14, hcv14, hf⟩ := am_c_of hf
                obtain ⟨g16, hf⟩ := am_g_of hf
                refine am_jn hf (fun J80 => ∀ (x17 : Int32), J80 x17 = some (sE, rE) → X 80 [(0, .inr (.inr ((10, 0, 0), 215))), (1, .inl a1), (3, .inl x8)] [.inl x17, .inl x7] s15) ?_ ?_
                · intro x17 hf
                  refine am_blk hX 49 2 (am_nl (Z := fun x18 => X 82 [(2, .inl x18), (0, .inr (.inr ((10, 0, 0), 215))), (1, .inl a1), (3, .inl x8)] [] s15) hf (fun x18 hf => ?_))
                  exact am_wk hX [1, 2, 0, 3] (hJ82 s15 x18 hf)
                · intro J80 hJ80 hf
                  refine am_blk hX 35 9 (And.intro rfl (And.intro rfl (Exists.intro s15 (Exists.intro none (And.intro (tX9_runs l (d + 1) hcv14) (And.intro rfl (And.intro rfl (And.intro g16 (And.intro (fun hb => ?_) (fun hb => ?_))))))))))
                  · have hf := am_if hf hb
                    show X 79 [(0, .inr (.inr ((10, 0, 0), 215))), (1, .inl a1), (2, .inl x7), (3, .inl x8)] [.inl x7] s15
                    refine am_blk hX 48 1 (?_)
                    show X 80 [(0, .inr (.inr ((10, 0, 0), 215))), (1, .inl a1), (2, .inl x7), (3, .inl x8)] [.inl (0 : Int32), .inl x7] s15
                    exact am_wk hX [0, 1, 3] (hJ80 (0 : Int32) hf)
                  · have hf := am_it hf hb
                    show X 73 [(0, .inr (.inr ((10, 0, 0), 215))), (1, .inl a1), (2, .inl x7), (3, .inl x8)] [.inl x7] s15
                    refine am_blk hX 44 4 (?_)
                    show X 80 [(0, .inr (.inr ((10, 0, 0), 215))), (1, .inl a1), (2, .inl x7), (3, .inl x8)] [.inl ((1 : Int32) <<< (x8 &&& 31)), .inl x7] s15
                    exact am_wk hX [0, 1, 3] (hJ80 ((1 : Int32) <<< (x8 &&& 31)) hf)
              · have hf := am_it hf hb
                show X 50 [(0, .inr (.inr ((10, 0, 0), 215))), (1, .inl a1), (2, .inl x7), (3, .inl x8)] [] s6
                refine am_blk hX 31 1 (?_)
                show X 82 [(0, .inr (.inr ((10, 0, 0), 215))), (1, .inl a1), (2, .inl x7), (3, .inl x8)] [] s6
                exact am_wk hX [0, 1, 2, 3] (hJ82 s6 x7 hf)
      refine am_blk hX 20 4 (?_)
      show X 37 [(3, .inl (0 : Int32)), (2, .inl (0 : Int32)), (0, .inr (.inr ((10, 0, 0), 215))), (1, .inl a1)] [] s4
      exact am_wk hX [2, 3, 1, 0] (hL37 am_fu s4 (0 : Int32) (0 : Int32) hf)
    · have hf := am_it hf hb
      show X 31 [(0, .inr (.inr ((10, 0, 0), 215))), (1, .inl a1)] [] s4
      refine am_blk hX 18 2 (am_ri hf)
  · have hf := am_it hf hb
    show X 14 [(0, .inr (.inr ((10, 0, 0), 215))), (1, .inl a1)] [] s1
    refine am_blk hX 8 2 (am_ri hf)
def fX9_next (s0 : AS) (a1 : Int32) (a2 : Int32) : Option (AS × Int32) :=
  am_let (am_si s0 215 0 (0 : Int32)) (fun (s1 : AS) => am_c (fX9_arePlaces s1 a1 a2) (fun (s3 : AS) (v2 : Int32) => am_let (fun (x4 : Int32) => some (s3, x4)) (fun J25 => if v2 = 0 then (J25 (-2 : Int32)) else (am_r (fX9_nextOf s3 a1 a2) (fun (v5 : Int32) => J25 v5)))))
def kX9_next : List (Nat × Instr × Nat) := [(0, .aload_n 0, 1), (1, .iconst 0, 1), (2, .putfield 80, 3), (5, .aload_n 0, 1), (6, .iload_n 1, 1), (7, .iload_n 2, 1), (8, .invokevirtual 352, 3), (11, .ifCond .eq 12, 3), (14, .aload_n 0, 1), (15, .iload_n 1, 1), (16, .iload_n 2, 1), (17, .invokevirtual 330, 3), (20, .goto 5, 3), (23, .bipush (-2), 2), (25, .ireturn, 1)]
theorem qX9_next : ∀ q ∈ kX9_next, decode mX9_next.2.2.1 q.1 = .ok (q.2.1, q.2.2) ∧ am_iok mX9_next.2.2.2.1 q.1 q.2.1 q.2.2 = true := by decide +kernel
set_option maxRecDepth 100000 in
theorem wX9_next : Cond.code mX9_next.2.1 mX9_next.2.2.1 mX9_next.2.2.2.1 mX9_next.2.2.2.2.1 ∈ am_T := List.mem_filter.mpr ⟨List.mem_of_getElem? (i := 1642) rfl, rfl⟩
set_option maxHeartbeats 4000000 in
set_option maxRecDepth 100000 in
theorem tX9_next (l : Launch) (d : Nat) {s0 : AS} {a1 : Int32} {a2 : Int32} {sE : AS} {rE : Int32} (hf : fX9_next s0 a1 a2 = some (sE, rE)) : am_Ct l (d + 4) mX9_next [.inr (.inr ((10, 0, 0), 215)), .inl a1, .inl a2] s0 sE (some (.inl rE)) := by
  refine am_sim l (d + 3) (code := kX9_next) (by decide +kernel) wX9_next qX9_next (Nat.le_of_ble_eq_true rfl) ?_
  intro X hX
  show X 0 [(0, .inr (.inr ((10, 0, 0), 215))), (1, .inl a1), (2, .inl a2)] [] s0
  unfold fX9_next at hf
  refine am_blk hX 0 3 (And.intro rfl (am_nl (Z := fun s1 => X 5 [(0, .inr (.inr ((10, 0, 0), 215))), (1, .inl a1), (2, .inl a2)] [] s1) hf (fun s1 hf => ?_)))
  obtain ⟨s3, v2, hcv2, hf⟩ := am_c_of hf
  refine am_jn hf (fun J25 => ∀ (x4 : Int32), J25 x4 = some (sE, rE) → X 25 [] [.inl x4] s3) ?_ ?_
  · intro x4 hf
    refine am_blk hX 14 1 (am_ri hf)
  · intro J25 hJ25 hf
    refine am_blk hX 3 5 (And.intro rfl (And.intro rfl (Exists.intro s3 (Exists.intro (some (.inl v2)) (And.intro (tX9_arePlaces l (d + 0) hcv2) (And.intro (fun hb => ?_) (fun hb => ?_)))))))
    · have hf := am_it hf hb
      show X 23 [(0, .inr (.inr ((10, 0, 0), 215))), (1, .inl a1), (2, .inl a2)] [] s3
      refine am_blk hX 13 1 (?_)
      show X 25 [(0, .inr (.inr ((10, 0, 0), 215))), (1, .inl a1), (2, .inl a2)] [.inl (-2 : Int32)] s3
      exact am_wk hX [] (hJ25 (-2 : Int32) hf)
    · have hf := am_if hf hb
      show X 14 [(0, .inr (.inr ((10, 0, 0), 215))), (1, .inl a1), (2, .inl a2)] [] s3
      obtain ⟨v5, hcv5, hf⟩ := am_r_of hf
      refine am_blk hX 8 5 (And.intro rfl (And.intro rfl (Exists.intro s3 (Exists.intro (some (.inl v5)) (And.intro (tX9_nextOf l (d + 1) hcv5) (?_))))))
      show X 25 [(0, .inr (.inr ((10, 0, 0), 215))), (1, .inl a1), (2, .inl a2)] [.inl v5] s3
      exact am_wk hX [] (hJ25 v5 hf)
def fX9_often_L25 (a1 : Int32) (s4 : AS) : Nat → Int32 → Int32 → Option (AS × Int32)
  | 0, _, _ => none
  | n25 + 1, x5, x6 =>
    if (60 : Int32) < x6 then (some (s4, x5)) else (am_g (¬ (x6 < 0 ∨ 61 ≤ x6.toNatClampNeg)) (am_let (fun (x8 : Int32) => am_let (x5 + x8) (fun (x9 : Int32) => am_let (x6 + (1 : Int32)) (fun (x10 : Int32) => fX9_often_L25 a1 s4 n25 x9 x10))) (fun J47 => if (s4.1 229 x6.toNatClampNeg) = a1 then (J47 (1 : Int32)) else (J47 (0 : Int32)))))
def fX9_often (s0 : AS) (a1 : Int32) : Option (AS × Int32) :=
  am_let (am_si s0 215 0 (0 : Int32)) (fun (s1 : AS) => am_r (fX9_isPlace s1 a1.toInt64) (fun (v2 : Int32) => if v2 = 0 then (some (s1, (-2 : Int32))) else (am_c (fX9_laysNow s1) (fun (s4 : AS) (v3 : Unit) => fX9_often_L25 a1 s4 am_fu (0 : Int32) (0 : Int32)))))
def kX9_often : List (Nat × Instr × Nat) := [(0, .aload_n 0, 1), (1, .iconst 0, 1), (2, .putfield 80, 3), (5, .aload_n 0, 1), (6, .iload_n 1, 1), (7, .i2l, 1), (8, .invokevirtual 349, 3), (11, .ifCond .ne 6, 3), (14, .bipush (-2), 2), (16, .ireturn, 1), (17, .aload_n 0, 1), (18, .invokevirtual 358, 3), (21, .iconst 0, 1), (22, .istore_n 2, 1), (23, .iconst 0, 1), (24, .istore_n 3, 1), (25, .iload_n 3, 1), (26, .bipush 60, 2), (28, .if_icmp .gt 27, 3), (31, .iload_n 2, 1), (32, .aload_n 0, 1), (33, .getfield 56, 3), (36, .iload_n 3, 1), (37, .iaload, 1), (38, .iload_n 1, 1), (39, .if_icmp .ne 7, 3), (42, .iconst 1, 1), (43, .goto 4, 3), (46, .iconst 0, 1), (47, .iadd, 1), (48, .istore_n 2, 1), (49, .iinc 3 1, 3), (52, .goto (-27), 3), (55, .iload_n 2, 1), (56, .ireturn, 1)]
theorem qX9_often : ∀ q ∈ kX9_often, decode mX9_often.2.2.1 q.1 = .ok (q.2.1, q.2.2) ∧ am_iok mX9_often.2.2.2.1 q.1 q.2.1 q.2.2 = true := by decide +kernel
set_option maxRecDepth 100000 in
theorem wX9_often : Cond.code mX9_often.2.1 mX9_often.2.2.1 mX9_often.2.2.2.1 mX9_often.2.2.2.2.1 ∈ am_T := List.mem_filter.mpr ⟨List.mem_of_getElem? (i := 1734) rfl, rfl⟩
set_option maxHeartbeats 4000000 in
set_option maxRecDepth 100000 in
theorem tX9_often (l : Launch) (d : Nat) {s0 : AS} {a1 : Int32} {sE : AS} {rE : Int32} (hf : fX9_often s0 a1 = some (sE, rE)) : am_Ct l (d + 6) mX9_often [.inr (.inr ((10, 0, 0), 215)), .inl a1] s0 sE (some (.inl rE)) := by
  refine am_sim l (d + 5) (code := kX9_often) (by decide +kernel) wX9_often qX9_often (Nat.le_of_ble_eq_true rfl) ?_
  intro X hX
  show X 0 [(0, .inr (.inr ((10, 0, 0), 215))), (1, .inl a1)] [] s0
  unfold fX9_often at hf
  refine am_blk hX 0 3 (And.intro rfl (am_nl (Z := fun s1 => X 5 [(0, .inr (.inr ((10, 0, 0), 215))), (1, .inl a1)] [] s1) hf (fun s1 hf => ?_)))
  obtain ⟨v2, hcv2, hf⟩ := am_r_of hf
  refine am_blk hX 3 5 (And.intro rfl (And.intro rfl (Exists.intro s1 (Exists.intro (some (.inl v2)) (And.intro (tX9_isPlace l (d + 3) hcv2) (And.intro (fun hb => ?_) (fun hb => ?_)))))))
  · have hf := am_if hf hb
    show X 17 [(0, .inr (.inr ((10, 0, 0), 215))), (1, .inl a1)] [] s1
    obtain ⟨s4, v3, hcv3, hf⟩ := am_c_of hf
    have hL25 : ∀ (n25 : Nat) (x5 : Int32) (x6 : Int32), fX9_often_L25 a1 s4 n25 x5 x6 = some (sE, rE) → X 25 [(0, .inr (.inr ((10, 0, 0), 215))), (1, .inl a1), (2, .inl x5), (3, .inl x6)] [] s4 := by
      intro n25
      induction n25 with
      | zero => intro x5 x6 hf; exact am_no (show none = some _ from hf)
      | succ n25 ih25 =>
        intro x5 x6 hf
        refine am_blk hX 16 3 (And.intro (fun hb => ?_) (fun hb => ?_))
        · have hf := am_it hf hb
          show X 55 [(0, .inr (.inr ((10, 0, 0), 215))), (1, .inl a1), (2, .inl x5), (3, .inl x6)] [] s4
          refine am_blk hX 33 2 (am_ri hf)
        · have hf := am_if hf hb
          show X 31 [(0, .inr (.inr ((10, 0, 0), 215))), (1, .inl a1), (2, .inl x5), (3, .inl x6)] [] s4
          obtain ⟨g7, hf⟩ := am_g_of hf
          refine am_jn hf (fun J47 => ∀ (x8 : Int32), J47 x8 = some (sE, rE) → X 47 [(0, .inr (.inr ((10, 0, 0), 215))), (1, .inl a1), (3, .inl x6)] [.inl x8, .inl x5] s4) ?_ ?_
          · intro x8 hf
            refine am_blk hX 29 2 (am_nl (Z := fun x9 => X 49 [(2, .inl x9), (0, .inr (.inr ((10, 0, 0), 215))), (1, .inl a1), (3, .inl x6)] [] s4) hf (fun x9 hf => ?_))
            refine am_blk hX 31 1 (am_nl (Z := fun x10 => X 52 [(3, .inl x10), (2, .inl x9), (0, .inr (.inr ((10, 0, 0), 215))), (1, .inl a1)] [] s4) hf (fun x10 hf => ?_))
            refine am_blk hX 32 1 (?_)
            show X 25 [(3, .inl x10), (2, .inl x9), (0, .inr (.inr ((10, 0, 0), 215))), (1, .inl a1)] [] s4
            exact am_wk hX [2, 3, 1, 0] (ih25 x9 x10 hf)
          · intro J47 hJ47 hf
            refine am_blk hX 19 7 (And.intro rfl (And.intro rfl (And.intro g7 (And.intro (fun hb => ?_) (fun hb => ?_)))))
            · have hf := am_if hf hb
              show X 46 [(0, .inr (.inr ((10, 0, 0), 215))), (1, .inl a1), (2, .inl x5), (3, .inl x6)] [.inl x5] s4
              refine am_blk hX 28 1 (?_)
              show X 47 [(0, .inr (.inr ((10, 0, 0), 215))), (1, .inl a1), (2, .inl x5), (3, .inl x6)] [.inl (0 : Int32), .inl x5] s4
              exact am_wk hX [0, 1, 3] (hJ47 (0 : Int32) hf)
            · have hf := am_it hf hb
              show X 42 [(0, .inr (.inr ((10, 0, 0), 215))), (1, .inl a1), (2, .inl x5), (3, .inl x6)] [.inl x5] s4
              refine am_blk hX 26 2 (?_)
              show X 47 [(0, .inr (.inr ((10, 0, 0), 215))), (1, .inl a1), (2, .inl x5), (3, .inl x6)] [.inl (1 : Int32), .inl x5] s4
              exact am_wk hX [0, 1, 3] (hJ47 (1 : Int32) hf)
    refine am_blk hX 10 6 (And.intro rfl (And.intro rfl (Exists.intro s4 (Exists.intro none (And.intro (tX9_laysNow l (d + 0) hcv3) (?_))))))
    show X 25 [(3, .inl (0 : Int32)), (2, .inl (0 : Int32)), (0, .inr (.inr ((10, 0, 0), 215))), (1, .inl a1)] [] s4
    exact am_wk hX [2, 3, 1, 0] (hL25 am_fu (0 : Int32) (0 : Int32) hf)
  · have hf := am_it hf hb
    show X 14 [(0, .inr (.inr ((10, 0, 0), 215))), (1, .inl a1)] [] s1
    refine am_blk hX 8 2 (am_ri hf)
def fX9_over (s0 : AS) : Option (AS × Int32) :=
  am_let (am_si s0 215 0 (0 : Int32)) (fun (s1 : AS) => am_r (fX9_isMarch s1) (fun (v2 : Int32) => if v2 = 0 then (some (s1, (-2 : Int32))) else (am_c (fX9_laysNow s1) (fun (s4 : AS) (v3 : Unit) => some (s4, s4.1 215 45)))))
def kX9_over : List (Nat × Instr × Nat) := [(0, .aload_n 0, 1), (1, .iconst 0, 1), (2, .putfield 80, 3), (5, .aload_n 0, 1), (6, .invokevirtual 251, 3), (9, .ifCond .ne 6, 3), (12, .bipush (-2), 2), (14, .ireturn, 1), (15, .aload_n 0, 1), (16, .invokevirtual 358, 3), (19, .aload_n 0, 1), (20, .getfield 309, 3), (23, .ireturn, 1)]
theorem qX9_over : ∀ q ∈ kX9_over, decode mX9_over.2.2.1 q.1 = .ok (q.2.1, q.2.2) ∧ am_iok mX9_over.2.2.2.1 q.1 q.2.1 q.2.2 = true := by decide +kernel
set_option maxRecDepth 100000 in
theorem wX9_over : Cond.code mX9_over.2.1 mX9_over.2.2.1 mX9_over.2.2.2.1 mX9_over.2.2.2.2.1 ∈ am_T := List.mem_filter.mpr ⟨List.mem_of_getElem? (i := 1718) rfl, rfl⟩
set_option maxHeartbeats 4000000 in
set_option maxRecDepth 100000 in
theorem tX9_over (l : Launch) (d : Nat) {s0 : AS} {sE : AS} {rE : Int32} (hf : fX9_over s0 = some (sE, rE)) : am_Ct l (d + 6) mX9_over [.inr (.inr ((10, 0, 0), 215))] s0 sE (some (.inl rE)) := by
  refine am_sim l (d + 5) (code := kX9_over) (by decide +kernel) wX9_over qX9_over (Nat.le_of_ble_eq_true rfl) ?_
  intro X hX
  show X 0 [(0, .inr (.inr ((10, 0, 0), 215)))] [] s0
  unfold fX9_over at hf
  refine am_blk hX 0 3 (And.intro rfl (am_nl (Z := fun s1 => X 5 [(0, .inr (.inr ((10, 0, 0), 215)))] [] s1) hf (fun s1 hf => ?_)))
  obtain ⟨v2, hcv2, hf⟩ := am_r_of hf
  refine am_blk hX 3 3 (And.intro rfl (And.intro rfl (Exists.intro s1 (Exists.intro (some (.inl v2)) (And.intro (tX9_isMarch l (d + 4) hcv2) (And.intro (fun hb => ?_) (fun hb => ?_)))))))
  · have hf := am_if hf hb
    show X 15 [(0, .inr (.inr ((10, 0, 0), 215)))] [] s1
    obtain ⟨s4, v3, hcv3, hf⟩ := am_c_of hf
    refine am_blk hX 8 5 (And.intro rfl (And.intro rfl (Exists.intro s4 (Exists.intro none (And.intro (tX9_laysNow l (d + 0) hcv3) (And.intro rfl (am_ri hf)))))))
  · have hf := am_it hf hb
    show X 12 [(0, .inr (.inr ((10, 0, 0), 215)))] [] s1
    refine am_blk hX 6 2 (am_ri hf)
def fX9_roadOf_L6 (a1 : Int32) (a2 : Int32) (s0 : AS) : Nat → Int32 → Int32 → Option Int32
  | 0, _, _ => none
  | n6 + 1, x1, x2 =>
    am_g (¬ ((4 : Int32) < 0 ∨ 35 ≤ (4 : Int32).toNatClampNeg)) (if (s0.1 222 ((4 : Int32).toNatClampNeg)) ≤ x2 then (some x1) else (am_g (¬ (((3 : Int32) * x2) < 0 ∨ 150 ≤ ((3 : Int32) * x2).toNatClampNeg)) (am_let (fun (x5 : Int32) => am_let (fun (x6 : Int32) => am_let (x2 + (1 : Int32)) (fun (x7 : Int32) => fX9_roadOf_L6 a1 a2 s0 n6 x6 x7)) (fun J124 => if x5 = 0 then (J124 x1) else (am_r (fX9_isBit (s0.1 215 24) x2) (fun (v8 : Int32) => if v8 = 0 then (am_g (¬ ((((3 : Int32) * x2) + (2 : Int32)) < 0 ∨ 150 ≤ (((3 : Int32) * x2) + (2 : Int32)).toNatClampNeg)) (if x1 ≤ (s0.1 223 ((((3 : Int32) * x2) + (2 : Int32)).toNatClampNeg)) then (J124 x1) else (am_g (¬ ((((3 : Int32) * x2) + (2 : Int32)) < 0 ∨ 150 ≤ (((3 : Int32) * x2) + (2 : Int32)).toNatClampNeg)) (am_let (s0.1 223 ((((3 : Int32) * x2) + (2 : Int32)).toNatClampNeg)) (fun (x11 : Int32) => J124 x11))))) else (J124 x1))))) (fun J78 => am_let (J78 (1 : Int32)) (fun J73 => am_let (am_g (¬ (((3 : Int32) * x2) < 0 ∨ 150 ≤ ((3 : Int32) * x2).toNatClampNeg)) (am_let (J78 (0 : Int32)) (fun J77 => if (s0.1 223 (((3 : Int32) * x2).toNatClampNeg)) = a2 then (am_g (¬ ((((3 : Int32) * x2) + (1 : Int32)) < 0 ∨ 150 ≤ (((3 : Int32) * x2) + (1 : Int32)).toNatClampNeg)) (if (s0.1 223 ((((3 : Int32) * x2) + (1 : Int32)).toNatClampNeg)) = a1 then (J73) else (J77))) else (J77)))) (fun J45 => if (s0.1 223 (((3 : Int32) * x2).toNatClampNeg)) = a1 then (am_g (¬ ((((3 : Int32) * x2) + (1 : Int32)) < 0 ∨ 150 ≤ (((3 : Int32) * x2) + (1 : Int32)).toNatClampNeg)) (if (s0.1 223 ((((3 : Int32) * x2) + (1 : Int32)).toNatClampNeg)) = a2 then (J73) else (J45))) else (J45)))))))
def fX9_roadOf (s0 : AS) (a1 : Int32) (a2 : Int32) : Option Int32 :=
  fX9_roadOf_L6 a1 a2 s0 am_fu (100000 : Int32) (0 : Int32)
def kX9_roadOf : List (Nat × Instr × Nat) := [(0, .ldc 130, 2), (2, .istore_n 3, 1), (3, .iconst 0, 1), (4, .istore 4, 2), (6, .iload 4, 2), (8, .aload_n 0, 1), (9, .getfield 34, 3), (12, .iconst 4, 1), (13, .iaload, 1), (14, .if_icmp .ge 116, 3), (17, .aload_n 0, 1), (18, .getfield 37, 3), (21, .iconst 3, 1), (22, .iload 4, 2), (24, .imul, 1), (25, .iaload, 1), (26, .iload_n 1, 1), (27, .if_icmp .ne 18, 3), (30, .aload_n 0, 1), (31, .getfield 37, 3), (34, .iconst 3, 1), (35, .iload 4, 2), (37, .imul, 1), (38, .iconst 1, 1), (39, .iadd, 1), (40, .iaload, 1), (41, .iload_n 2, 1), (42, .if_icmp .eq 31, 3), (45, .aload_n 0, 1), (46, .getfield 37, 3), (49, .iconst 3, 1), (50, .iload 4, 2), (52, .imul, 1), (53, .iaload, 1), (54, .iload_n 2, 1), (55, .if_icmp .ne 22, 3), (58, .aload_n 0, 1), (59, .getfield 37, 3), (62, .iconst 3, 1), (63, .iload 4, 2), (65, .imul, 1), (66, .iconst 1, 1), (67, .iadd, 1), (68, .iaload, 1), (69, .iload_n 1, 1), (70, .if_icmp .ne 7, 3), (73, .iconst 1, 1), (74, .goto 4, 3), (77, .iconst 0, 1), (78, .istore 5, 2), (80, .iload 5, 2), (82, .ifCond .eq 42, 3), (85, .aload_n 0, 1), (86, .getfield 259, 3), (89, .iload 4, 2), (91, .invokestatic 280, 3), (94, .ifCond .ne 30, 3), (97, .aload_n 0, 1), (98, .getfield 37, 3), (101, .iconst 3, 1), (102, .iload 4, 2), (104, .imul, 1), (105, .iconst 2, 1), (106, .iadd, 1), (107, .iaload, 1), (108, .iload_n 3, 1), (109, .if_icmp .ge 15, 3), (112, .aload_n 0, 1), (113, .getfield 37, 3), (116, .iconst 3, 1), (117, .iload 4, 2), (119, .imul, 1), (120, .iconst 2, 1), (121, .iadd, 1), (122, .iaload, 1), (123, .istore_n 3, 1), (124, .iinc 4 1, 3), (127, .goto (-121), 3), (130, .iload_n 3, 1), (131, .ireturn, 1)]
theorem qX9_roadOf : ∀ q ∈ kX9_roadOf, decode mX9_roadOf.2.2.1 q.1 = .ok (q.2.1, q.2.2) ∧ am_iok mX9_roadOf.2.2.2.1 q.1 q.2.1 q.2.2 = true := by decide +kernel
set_option maxRecDepth 100000 in
theorem wX9_roadOf : Cond.code mX9_roadOf.2.1 mX9_roadOf.2.2.1 mX9_roadOf.2.2.2.1 mX9_roadOf.2.2.2.2.1 ∈ am_T := List.mem_filter.mpr ⟨List.mem_of_getElem? (i := 1742) rfl, rfl⟩
set_option maxHeartbeats 4000000 in
set_option maxRecDepth 100000 in
theorem tX9_roadOf (l : Launch) (d : Nat) {s0 : AS} {a1 : Int32} {a2 : Int32} {rE : Int32} (hf : fX9_roadOf s0 a1 a2 = some rE) : am_Ct l (d + 2) mX9_roadOf [.inr (.inr ((10, 0, 0), 215)), .inl a1, .inl a2] s0 s0 (some (.inl rE)) := by
  refine am_sim l (d + 1) (code := kX9_roadOf) (by decide +kernel) wX9_roadOf qX9_roadOf (Nat.le_of_ble_eq_true rfl) ?_
  intro X hX
  show X 0 [(0, .inr (.inr ((10, 0, 0), 215))), (1, .inl a1), (2, .inl a2)] [] s0
  unfold fX9_roadOf at hf
  have hL6 : ∀ (n6 : Nat) (x1 : Int32) (x2 : Int32), fX9_roadOf_L6 a1 a2 s0 n6 x1 x2 = some rE → X 6 [(0, .inr (.inr ((10, 0, 0), 215))), (1, .inl a1), (2, .inl a2), (3, .inl x1), (4, .inl x2)] [] s0 := by
    intro n6
    induction n6 with
    | zero => intro x1 x2 hf; exact am_no (show none = some _ from hf)
    | succ n6 ih6 =>
      intro x1 x2 hf
      obtain ⟨g3, hf⟩ := am_g_of hf
      refine am_blk hX 4 6 (And.intro rfl (And.intro rfl (And.intro g3 (And.intro (fun hb => ?_) (fun hb => ?_)))))
      · have hf := am_it hf hb
        show X 130 [(0, .inr (.inr ((10, 0, 0), 215))), (1, .inl a1), (2, .inl a2), (3, .inl x1), (4, .inl x2)] [] s0
        refine am_blk hX 78 2 (am_rpi hf)
      · have hf := am_if hf hb
        show X 17 [(0, .inr (.inr ((10, 0, 0), 215))), (1, .inl a1), (2, .inl a2), (3, .inl x1), (4, .inl x2)] [] s0
        obtain ⟨g4, hf⟩ := am_g_of hf
        refine am_jn hf (fun J78 => ∀ (x5 : Int32), J78 x5 = some rE → X 78 [(0, .inr (.inr ((10, 0, 0), 215))), (1, .inl a1), (2, .inl a2), (3, .inl x1), (4, .inl x2)] [.inl x5] s0) ?_ ?_
        · intro x5 hf
          refine am_jn hf (fun J124 => ∀ (x6 : Int32), J124 x6 = some rE → X 124 [(0, .inr (.inr ((10, 0, 0), 215))), (1, .inl a1), (2, .inl a2), (3, .inl x6), (4, .inl x2)] [] s0) ?_ ?_
          · intro x6 hf
            refine am_blk hX 76 1 (am_nl (Z := fun x7 => X 127 [(4, .inl x7), (0, .inr (.inr ((10, 0, 0), 215))), (1, .inl a1), (2, .inl a2), (3, .inl x6)] [] s0) hf (fun x7 hf => ?_))
            refine am_blk hX 77 1 (?_)
            show X 6 [(4, .inl x7), (0, .inr (.inr ((10, 0, 0), 215))), (1, .inl a1), (2, .inl a2), (3, .inl x6)] [] s0
            exact am_wk hX [1, 2, 3, 4, 0] (ih6 x6 x7 hf)
          · intro J124 hJ124 hf
            refine am_blk hX 49 3 (And.intro (fun hb => ?_) (fun hb => ?_))
            · have hf := am_it hf hb
              show X 124 [(5, .inl x5), (0, .inr (.inr ((10, 0, 0), 215))), (1, .inl a1), (2, .inl a2), (3, .inl x1), (4, .inl x2)] [] s0
              exact am_wk hX [1, 2, 3, 4, 5] (hJ124 x1 hf)
            · have hf := am_if hf hb
              show X 85 [(5, .inl x5), (0, .inr (.inr ((10, 0, 0), 215))), (1, .inl a1), (2, .inl a2), (3, .inl x1), (4, .inl x2)] [] s0
              obtain ⟨v8, hcv8, hf⟩ := am_r_of hf
              refine am_blk hX 52 5 (And.intro rfl (And.intro rfl (Exists.intro s0 (Exists.intro (some (.inl v8)) (And.intro (tX9_isBit l (d + 0) hcv8) (And.intro (fun hb => ?_) (fun hb => ?_)))))))
              · have hf := am_if hf hb
                show X 124 [(5, .inl x5), (0, .inr (.inr ((10, 0, 0), 215))), (1, .inl a1), (2, .inl a2), (3, .inl x1), (4, .inl x2)] [] s0
                exact am_wk hX [1, 2, 3, 4, 5] (hJ124 x1 hf)
              · have hf := am_it hf hb
                show X 97 [(5, .inl x5), (0, .inr (.inr ((10, 0, 0), 215))), (1, .inl a1), (2, .inl a2), (3, .inl x1), (4, .inl x2)] [] s0
                obtain ⟨g9, hf⟩ := am_g_of hf
                refine am_blk hX 57 10 (And.intro rfl (And.intro rfl (And.intro g9 (And.intro (fun hb => ?_) (fun hb => ?_)))))
                · have hf := am_it hf hb
                  show X 124 [(5, .inl x5), (0, .inr (.inr ((10, 0, 0), 215))), (1, .inl a1), (2, .inl a2), (3, .inl x1), (4, .inl x2)] [] s0
                  exact am_wk hX [1, 2, 3, 4, 5] (hJ124 x1 hf)
                · have hf := am_if hf hb
                  show X 112 [(5, .inl x5), (0, .inr (.inr ((10, 0, 0), 215))), (1, .inl a1), (2, .inl a2), (3, .inl x1), (4, .inl x2)] [] s0
                  obtain ⟨g10, hf⟩ := am_g_of hf
                  refine am_blk hX 67 9 (And.intro rfl (And.intro rfl (And.intro g10 (am_nl (Z := fun x11 => X 124 [(3, .inl x11), (5, .inl x5), (0, .inr (.inr ((10, 0, 0), 215))), (1, .inl a1), (2, .inl a2), (4, .inl x2)] [] s0) hf (fun x11 hf => ?_)))))
                  exact am_wk hX [2, 3, 4, 0, 5] (hJ124 x11 hf)
        · intro J78 hJ78 hf
          refine am_jn hf (fun J73 => J73 = some rE → X 73 [(0, .inr (.inr ((10, 0, 0), 215))), (1, .inl a1), (2, .inl a2), (3, .inl x1), (4, .inl x2)] [] s0) ?_ ?_
          · intro hf
            refine am_blk hX 46 2 (?_)
            show X 78 [(0, .inr (.inr ((10, 0, 0), 215))), (1, .inl a1), (2, .inl a2), (3, .inl x1), (4, .inl x2)] [.inl (1 : Int32)] s0
            exact am_wk hX [0, 1, 2, 3, 4] (hJ78 (1 : Int32) hf)
          · intro J73 hJ73 hf
            refine am_jn hf (fun J45 => J45 = some rE → X 45 [(0, .inr (.inr ((10, 0, 0), 215))), (1, .inl a1), (2, .inl a2), (3, .inl x1), (4, .inl x2)] [] s0) ?_ ?_
            · intro hf
              obtain ⟨g12, hf⟩ := am_g_of hf
              refine am_jn hf (fun J77 => J77 = some rE → X 77 [(0, .inr (.inr ((10, 0, 0), 215))), (1, .inl a1), (2, .inl a2), (3, .inl x1), (4, .inl x2)] [] s0) ?_ ?_
              · intro hf
                refine am_blk hX 48 1 (?_)
                show X 78 [(0, .inr (.inr ((10, 0, 0), 215))), (1, .inl a1), (2, .inl a2), (3, .inl x1), (4, .inl x2)] [.inl (0 : Int32)] s0
                exact am_wk hX [0, 1, 2, 3, 4] (hJ78 (0 : Int32) hf)
              · intro J77 hJ77 hf
                refine am_blk hX 28 8 (And.intro rfl (And.intro rfl (And.intro g12 (And.intro (fun hb => ?_) (fun hb => ?_)))))
                · have hf := am_if hf hb
                  show X 77 [(0, .inr (.inr ((10, 0, 0), 215))), (1, .inl a1), (2, .inl a2), (3, .inl x1), (4, .inl x2)] [] s0
                  exact am_wk hX [0, 1, 2, 3, 4] (hJ77 hf)
                · have hf := am_it hf hb
                  show X 58 [(0, .inr (.inr ((10, 0, 0), 215))), (1, .inl a1), (2, .inl a2), (3, .inl x1), (4, .inl x2)] [] s0
                  obtain ⟨g13, hf⟩ := am_g_of hf
                  refine am_blk hX 36 10 (And.intro rfl (And.intro rfl (And.intro g13 (And.intro (fun hb => ?_) (fun hb => ?_)))))
                  · have hf := am_if hf hb
                    show X 77 [(0, .inr (.inr ((10, 0, 0), 215))), (1, .inl a1), (2, .inl a2), (3, .inl x1), (4, .inl x2)] [] s0
                    exact am_wk hX [0, 1, 2, 3, 4] (hJ77 hf)
                  · have hf := am_it hf hb
                    show X 73 [(0, .inr (.inr ((10, 0, 0), 215))), (1, .inl a1), (2, .inl a2), (3, .inl x1), (4, .inl x2)] [] s0
                    exact am_wk hX [0, 1, 2, 3, 4] (hJ73 hf)
            · intro J45 hJ45 hf
              refine am_blk hX 10 8 (And.intro rfl (And.intro rfl (And.intro g4 (And.intro (fun hb => ?_) (fun hb => ?_)))))
              · have hf := am_if hf hb
                show X 45 [(0, .inr (.inr ((10, 0, 0), 215))), (1, .inl a1), (2, .inl a2), (3, .inl x1), (4, .inl x2)] [] s0
                exact am_wk hX [0, 1, 2, 3, 4] (hJ45 hf)
              · have hf := am_it hf hb
                show X 30 [(0, .inr (.inr ((10, 0, 0), 215))), (1, .inl a1), (2, .inl a2), (3, .inl x1), (4, .inl x2)] [] s0
                obtain ⟨g14, hf⟩ := am_g_of hf
                refine am_blk hX 18 10 (And.intro rfl (And.intro rfl (And.intro g14 (And.intro (fun hb => ?_) (fun hb => ?_)))))
                · have hf := am_it hf hb
                  show X 73 [(0, .inr (.inr ((10, 0, 0), 215))), (1, .inl a1), (2, .inl a2), (3, .inl x1), (4, .inl x2)] [] s0
                  exact am_wk hX [0, 1, 2, 3, 4] (hJ73 hf)
                · have hf := am_if hf hb
                  show X 45 [(0, .inr (.inr ((10, 0, 0), 215))), (1, .inl a1), (2, .inl a2), (3, .inl x1), (4, .inl x2)] [] s0
                  exact am_wk hX [0, 1, 2, 3, 4] (hJ45 hf)
  refine am_blk hX 0 4 (?_)
  show X 6 [(4, .inl (0 : Int32)), (3, .inl (100000 : Int32)), (0, .inr (.inr ((10, 0, 0), 215))), (1, .inl a1), (2, .inl a2)] [] s0
  exact am_wk hX [2, 3, 4, 1, 0] (hL6 am_fu (100000 : Int32) (0 : Int32) hf)
def fX9_paces_L24 (a1 : Int32) (s4 : AS) : Nat → Int32 → Int32 → Option (AS × Int32)
  | 0, _, _ => none
  | n24 + 1, x5, x6 =>
    if a1 < x6 then (some (s4, x5)) else (am_g (¬ (x6 < 0 ∨ 61 ≤ x6.toNatClampNeg)) (am_let (fun (x8 : Int32) => am_let (x5 + x8) (fun (x9 : Int32) => am_let (x6 + (1 : Int32)) (fun (x10 : Int32) => fX9_paces_L24 a1 s4 n24 x9 x10))) (fun J62 => if (s4.1 229 x6.toNatClampNeg) = (-1 : Int32) then (J62 (0 : Int32)) else (am_g (¬ ((x6 - (1 : Int32)) < 0 ∨ 61 ≤ (x6 - (1 : Int32)).toNatClampNeg)) (am_g (¬ (x6 < 0 ∨ 61 ≤ x6.toNatClampNeg)) (am_r (fX9_roadOf s4 (s4.1 229 ((x6 - (1 : Int32)).toNatClampNeg)) (s4.1 229 x6.toNatClampNeg)) (fun (v13 : Int32) => J62 v13)))))))
def fX9_paces (s0 : AS) (a1 : Int32) : Option (AS × Int32) :=
  am_let (am_si s0 215 0 (0 : Int32)) (fun (s1 : AS) => am_r (fX9_isStep s1 a1) (fun (v2 : Int32) => if v2 = 0 then (some (s1, (-2 : Int32))) else (am_c (fX9_laysNow s1) (fun (s4 : AS) (v3 : Unit) => fX9_paces_L24 a1 s4 am_fu (0 : Int32) (1 : Int32)))))
def kX9_paces : List (Nat × Instr × Nat) := [(0, .aload_n 0, 1), (1, .iconst 0, 1), (2, .putfield 80, 3), (5, .aload_n 0, 1), (6, .iload_n 1, 1), (7, .invokevirtual 355, 3), (10, .ifCond .ne 6, 3), (13, .bipush (-2), 2), (15, .ireturn, 1), (16, .aload_n 0, 1), (17, .invokevirtual 358, 3), (20, .iconst 0, 1), (21, .istore_n 2, 1), (22, .iconst 1, 1), (23, .istore_n 3, 1), (24, .iload_n 3, 1), (25, .iload_n 1, 1), (26, .if_icmp .gt 44, 3), (29, .iload_n 2, 1), (30, .aload_n 0, 1), (31, .getfield 56, 3), (34, .iload_n 3, 1), (35, .iaload, 1), (36, .iconst (-1), 1), (37, .if_icmp .ne 7, 3), (40, .iconst 0, 1), (41, .goto 21, 3), (44, .aload_n 0, 1), (45, .aload_n 0, 1), (46, .getfield 56, 3), (49, .iload_n 3, 1), (50, .iconst 1, 1), (51, .isub, 1), (52, .iaload, 1), (53, .aload_n 0, 1), (54, .getfield 56, 3), (57, .iload_n 3, 1), (58, .iaload, 1), (59, .invokevirtual 364, 3), (62, .iadd, 1), (63, .istore_n 2, 1), (64, .iinc 3 1, 3), (67, .goto (-43), 3), (70, .iload_n 2, 1), (71, .ireturn, 1)]
theorem qX9_paces : ∀ q ∈ kX9_paces, decode mX9_paces.2.2.1 q.1 = .ok (q.2.1, q.2.2) ∧ am_iok mX9_paces.2.2.2.1 q.1 q.2.1 q.2.2 = true := by decide +kernel
set_option maxRecDepth 100000 in
theorem wX9_paces : Cond.code mX9_paces.2.1 mX9_paces.2.2.1 mX9_paces.2.2.2.1 mX9_paces.2.2.2.2.1 ∈ am_T := List.mem_filter.mpr ⟨List.mem_of_getElem? (i := 1738) rfl, rfl⟩
set_option maxHeartbeats 4000000 in
set_option maxRecDepth 100000 in
theorem tX9_paces (l : Launch) (d : Nat) {s0 : AS} {a1 : Int32} {sE : AS} {rE : Int32} (hf : fX9_paces s0 a1 = some (sE, rE)) : am_Ct l (d + 6) mX9_paces [.inr (.inr ((10, 0, 0), 215)), .inl a1] s0 sE (some (.inl rE)) := by
  refine am_sim l (d + 5) (code := kX9_paces) (by decide +kernel) wX9_paces qX9_paces (Nat.le_of_ble_eq_true rfl) ?_
  intro X hX
  show X 0 [(0, .inr (.inr ((10, 0, 0), 215))), (1, .inl a1)] [] s0
  unfold fX9_paces at hf
  refine am_blk hX 0 3 (And.intro rfl (am_nl (Z := fun s1 => X 5 [(0, .inr (.inr ((10, 0, 0), 215))), (1, .inl a1)] [] s1) hf (fun s1 hf => ?_)))
  obtain ⟨v2, hcv2, hf⟩ := am_r_of hf
  refine am_blk hX 3 4 (And.intro rfl (And.intro rfl (Exists.intro s1 (Exists.intro (some (.inl v2)) (And.intro (tX9_isStep l (d + 3) hcv2) (And.intro (fun hb => ?_) (fun hb => ?_)))))))
  · have hf := am_if hf hb
    show X 16 [(0, .inr (.inr ((10, 0, 0), 215))), (1, .inl a1)] [] s1
    obtain ⟨s4, v3, hcv3, hf⟩ := am_c_of hf
    have hL24 : ∀ (n24 : Nat) (x5 : Int32) (x6 : Int32), fX9_paces_L24 a1 s4 n24 x5 x6 = some (sE, rE) → X 24 [(0, .inr (.inr ((10, 0, 0), 215))), (1, .inl a1), (2, .inl x5), (3, .inl x6)] [] s4 := by
      intro n24
      induction n24 with
      | zero => intro x5 x6 hf; exact am_no (show none = some _ from hf)
      | succ n24 ih24 =>
        intro x5 x6 hf
        refine am_blk hX 15 3 (And.intro (fun hb => ?_) (fun hb => ?_))
        · have hf := am_it hf hb
          show X 70 [(0, .inr (.inr ((10, 0, 0), 215))), (1, .inl a1), (2, .inl x5), (3, .inl x6)] [] s4
          refine am_blk hX 43 2 (am_ri hf)
        · have hf := am_if hf hb
          show X 29 [(0, .inr (.inr ((10, 0, 0), 215))), (1, .inl a1), (2, .inl x5), (3, .inl x6)] [] s4
          obtain ⟨g7, hf⟩ := am_g_of hf
          refine am_jn hf (fun J62 => ∀ (x8 : Int32), J62 x8 = some (sE, rE) → X 62 [(0, .inr (.inr ((10, 0, 0), 215))), (1, .inl a1), (3, .inl x6)] [.inl x8, .inl x5] s4) ?_ ?_
          · intro x8 hf
            refine am_blk hX 39 2 (am_nl (Z := fun x9 => X 64 [(2, .inl x9), (0, .inr (.inr ((10, 0, 0), 215))), (1, .inl a1), (3, .inl x6)] [] s4) hf (fun x9 hf => ?_))
            refine am_blk hX 41 1 (am_nl (Z := fun x10 => X 67 [(3, .inl x10), (2, .inl x9), (0, .inr (.inr ((10, 0, 0), 215))), (1, .inl a1)] [] s4) hf (fun x10 hf => ?_))
            refine am_blk hX 42 1 (?_)
            show X 24 [(3, .inl x10), (2, .inl x9), (0, .inr (.inr ((10, 0, 0), 215))), (1, .inl a1)] [] s4
            exact am_wk hX [2, 3, 1, 0] (ih24 x9 x10 hf)
          · intro J62 hJ62 hf
            refine am_blk hX 18 7 (And.intro rfl (And.intro rfl (And.intro g7 (And.intro (fun hb => ?_) (fun hb => ?_)))))
            · have hf := am_if hf hb
              show X 44 [(0, .inr (.inr ((10, 0, 0), 215))), (1, .inl a1), (2, .inl x5), (3, .inl x6)] [.inl x5] s4
              obtain ⟨g11, hf⟩ := am_g_of hf
              obtain ⟨g12, hf⟩ := am_g_of hf
              obtain ⟨v13, hcv13, hf⟩ := am_r_of hf
              refine am_blk hX 27 12 (And.intro rfl (And.intro rfl (And.intro g11 (And.intro rfl (And.intro rfl (And.intro g12 (And.intro rfl (And.intro rfl (Exists.intro s4 (Exists.intro (some (.inl v13)) (And.intro (tX9_roadOf l (d + 3) hcv13) (?_))))))))))))
              show X 62 [(0, .inr (.inr ((10, 0, 0), 215))), (1, .inl a1), (2, .inl x5), (3, .inl x6)] [.inl v13, .inl x5] s4
              exact am_wk hX [0, 1, 3] (hJ62 v13 hf)
            · have hf := am_it hf hb
              show X 40 [(0, .inr (.inr ((10, 0, 0), 215))), (1, .inl a1), (2, .inl x5), (3, .inl x6)] [.inl x5] s4
              refine am_blk hX 25 2 (?_)
              show X 62 [(0, .inr (.inr ((10, 0, 0), 215))), (1, .inl a1), (2, .inl x5), (3, .inl x6)] [.inl (0 : Int32), .inl x5] s4
              exact am_wk hX [0, 1, 3] (hJ62 (0 : Int32) hf)
    refine am_blk hX 9 6 (And.intro rfl (And.intro rfl (Exists.intro s4 (Exists.intro none (And.intro (tX9_laysNow l (d + 0) hcv3) (?_))))))
    show X 24 [(3, .inl (1 : Int32)), (2, .inl (0 : Int32)), (0, .inr (.inr ((10, 0, 0), 215))), (1, .inl a1)] [] s4
    exact am_wk hX [2, 3, 1, 0] (hL24 am_fu (0 : Int32) (1 : Int32) hf)
  · have hf := am_it hf hb
    show X 13 [(0, .inr (.inr ((10, 0, 0), 215))), (1, .inl a1)] [] s1
    refine am_blk hX 7 2 (am_ri hf)
def fX9_parties_L24 (a1 : Int32) (s4 : AS) : Nat → Int32 → Int32 → Option (AS × Int32)
  | 0, _, _ => none
  | n24 + 1, x5, x6 =>
    am_r (fX9_people s4) (fun (v7 : Int32) => if v7 ≤ x6 then (am_r (fX9_sizeOf x5) (fun (v8 : Int32) => some (s4, v8))) else (am_g (¬ (a1 < 0 ∨ 61 ≤ a1.toNatClampNeg)) (am_r (fX9_isBit (s4.1 230 a1.toNatClampNeg) x6) (fun (v10 : Int32) => am_let (fun (x11 : Int32) => am_let (x5 ||| x11) (fun (x12 : Int32) => am_let (x6 + (1 : Int32)) (fun (x13 : Int32) => fX9_parties_L24 a1 s4 n24 x12 x13))) (fun J57 => if v10 = 0 then (J57 (0 : Int32)) else (am_r (fX9_wantsOf s4 x6) (fun (v14 : Int32) => J57 ((1 : Int32) <<< (v14 &&& 31)))))))))
def fX9_parties (s0 : AS) (a1 : Int32) : Option (AS × Int32) :=
  am_let (am_si s0 215 0 (0 : Int32)) (fun (s1 : AS) => am_r (fX9_isStep s1 a1) (fun (v2 : Int32) => if v2 = 0 then (some (s1, (-2 : Int32))) else (am_c (fX9_laysNow s1) (fun (s4 : AS) (v3 : Unit) => fX9_parties_L24 a1 s4 am_fu (0 : Int32) (0 : Int32)))))
def kX9_parties : List (Nat × Instr × Nat) := [(0, .aload_n 0, 1), (1, .iconst 0, 1), (2, .putfield 80, 3), (5, .aload_n 0, 1), (6, .iload_n 1, 1), (7, .invokevirtual 355, 3), (10, .ifCond .ne 6, 3), (13, .bipush (-2), 2), (15, .ireturn, 1), (16, .aload_n 0, 1), (17, .invokevirtual 358, 3), (20, .iconst 0, 1), (21, .istore_n 2, 1), (22, .iconst 0, 1), (23, .istore_n 3, 1), (24, .iload_n 3, 1), (25, .aload_n 0, 1), (26, .invokevirtual 248, 3), (29, .if_icmp .ge 36, 3), (32, .iload_n 2, 1), (33, .aload_n 0, 1), (34, .getfield 59, 3), (37, .iload_n 1, 1), (38, .iaload, 1), (39, .iload_n 3, 1), (40, .invokestatic 280, 3), (43, .ifCond .eq 13, 3), (46, .iconst 1, 1), (47, .aload_n 0, 1), (48, .iload_n 3, 1), (49, .invokevirtual 299, 3), (52, .ishl, 1), (53, .goto 4, 3), (56, .iconst 0, 1), (57, .ior, 1), (58, .istore_n 2, 1), (59, .iinc 3 1, 3), (62, .goto (-38), 3), (65, .iload_n 2, 1), (66, .invokestatic 293, 3), (69, .ireturn, 1)]
theorem qX9_parties : ∀ q ∈ kX9_parties, decode mX9_parties.2.2.1 q.1 = .ok (q.2.1, q.2.2) ∧ am_iok mX9_parties.2.2.2.1 q.1 q.2.1 q.2.2 = true := by decide +kernel
set_option maxRecDepth 100000 in
theorem wX9_parties : Cond.code mX9_parties.2.1 mX9_parties.2.2.1 mX9_parties.2.2.2.1 mX9_parties.2.2.2.2.1 ∈ am_T := List.mem_filter.mpr ⟨List.mem_of_getElem? (i := 1778) rfl, rfl⟩
set_option maxHeartbeats 4000000 in
set_option maxRecDepth 100000 in
theorem tX9_parties (l : Launch) (d : Nat) {s0 : AS} {a1 : Int32} {sE : AS} {rE : Int32} (hf : fX9_parties s0 a1 = some (sE, rE)) : am_Ct l (d + 6) mX9_parties [.inr (.inr ((10, 0, 0), 215)), .inl a1] s0 sE (some (.inl rE)) := by
  refine am_sim l (d + 5) (code := kX9_parties) (by decide +kernel) wX9_parties qX9_parties (Nat.le_of_ble_eq_true rfl) ?_
  intro X hX
  show X 0 [(0, .inr (.inr ((10, 0, 0), 215))), (1, .inl a1)] [] s0
  unfold fX9_parties at hf
  refine am_blk hX 0 3 (And.intro rfl (am_nl (Z := fun s1 => X 5 [(0, .inr (.inr ((10, 0, 0), 215))), (1, .inl a1)] [] s1) hf (fun s1 hf => ?_)))
  obtain ⟨v2, hcv2, hf⟩ := am_r_of hf
  refine am_blk hX 3 4 (And.intro rfl (And.intro rfl (Exists.intro s1 (Exists.intro (some (.inl v2)) (And.intro (tX9_isStep l (d + 3) hcv2) (And.intro (fun hb => ?_) (fun hb => ?_)))))))
  · have hf := am_if hf hb
    show X 16 [(0, .inr (.inr ((10, 0, 0), 215))), (1, .inl a1)] [] s1
    obtain ⟨s4, v3, hcv3, hf⟩ := am_c_of hf
    have hL24 : ∀ (n24 : Nat) (x5 : Int32) (x6 : Int32), fX9_parties_L24 a1 s4 n24 x5 x6 = some (sE, rE) → X 24 [(0, .inr (.inr ((10, 0, 0), 215))), (1, .inl a1), (2, .inl x5), (3, .inl x6)] [] s4 := by
      intro n24
      induction n24 with
      | zero => intro x5 x6 hf; exact am_no (show none = some _ from hf)
      | succ n24 ih24 =>
        intro x5 x6 hf
        obtain ⟨v7, hcv7, hf⟩ := am_r_of hf
        refine am_blk hX 15 4 (And.intro rfl (And.intro rfl (Exists.intro s4 (Exists.intro (some (.inl v7)) (And.intro (tX9_people l (d + 4) hcv7) (And.intro (fun hb => ?_) (fun hb => ?_)))))))
        · have hf := am_it hf hb
          show X 65 [(0, .inr (.inr ((10, 0, 0), 215))), (1, .inl a1), (2, .inl x5), (3, .inl x6)] [] s4
          obtain ⟨v8, hcv8, hf⟩ := am_r_of hf
          refine am_blk hX 38 3 (And.intro rfl (Exists.intro s4 (Exists.intro (some (.inl v8)) (And.intro (tX9_sizeOf l (d + 4) hcv8) (am_ri hf)))))
        · have hf := am_if hf hb
          show X 32 [(0, .inr (.inr ((10, 0, 0), 215))), (1, .inl a1), (2, .inl x5), (3, .inl x6)] [] s4
          obtain ⟨g9, hf⟩ := am_g_of hf
          obtain ⟨v10, hcv10, hf⟩ := am_r_of hf
          refine am_jn hf (fun J57 => ∀ (x11 : Int32), J57 x11 = some (sE, rE) → X 57 [(0, .inr (.inr ((10, 0, 0), 215))), (1, .inl a1), (3, .inl x6)] [.inl x11, .inl x5] s4) ?_ ?_
          · intro x11 hf
            refine am_blk hX 34 2 (am_nl (Z := fun x12 => X 59 [(2, .inl x12), (0, .inr (.inr ((10, 0, 0), 215))), (1, .inl a1), (3, .inl x6)] [] s4) hf (fun x12 hf => ?_))
            refine am_blk hX 36 1 (am_nl (Z := fun x13 => X 62 [(3, .inl x13), (2, .inl x12), (0, .inr (.inr ((10, 0, 0), 215))), (1, .inl a1)] [] s4) hf (fun x13 hf => ?_))
            refine am_blk hX 37 1 (?_)
            show X 24 [(3, .inl x13), (2, .inl x12), (0, .inr (.inr ((10, 0, 0), 215))), (1, .inl a1)] [] s4
            exact am_wk hX [2, 3, 1, 0] (ih24 x12 x13 hf)
          · intro J57 hJ57 hf
            refine am_blk hX 19 8 (And.intro rfl (And.intro rfl (And.intro g9 (And.intro rfl (Exists.intro s4 (Exists.intro (some (.inl v10)) (And.intro (tX9_isBit l (d + 4) hcv10) (And.intro (fun hb => ?_) (fun hb => ?_)))))))))
            · have hf := am_it hf hb
              show X 56 [(0, .inr (.inr ((10, 0, 0), 215))), (1, .inl a1), (2, .inl x5), (3, .inl x6)] [.inl x5] s4
              refine am_blk hX 33 1 (?_)
              show X 57 [(0, .inr (.inr ((10, 0, 0), 215))), (1, .inl a1), (2, .inl x5), (3, .inl x6)] [.inl (0 : Int32), .inl x5] s4
              exact am_wk hX [0, 1, 3] (hJ57 (0 : Int32) hf)
            · have hf := am_if hf hb
              show X 46 [(0, .inr (.inr ((10, 0, 0), 215))), (1, .inl a1), (2, .inl x5), (3, .inl x6)] [.inl x5] s4
              obtain ⟨v14, hcv14, hf⟩ := am_r_of hf
              refine am_blk hX 27 6 (And.intro rfl (And.intro rfl (Exists.intro s4 (Exists.intro (some (.inl v14)) (And.intro (tX9_wantsOf l (d + 4) hcv14) (?_))))))
              show X 57 [(0, .inr (.inr ((10, 0, 0), 215))), (1, .inl a1), (2, .inl x5), (3, .inl x6)] [.inl ((1 : Int32) <<< (v14 &&& 31)), .inl x5] s4
              exact am_wk hX [0, 1, 3] (hJ57 ((1 : Int32) <<< (v14 &&& 31)) hf)
    refine am_blk hX 9 6 (And.intro rfl (And.intro rfl (Exists.intro s4 (Exists.intro none (And.intro (tX9_laysNow l (d + 0) hcv3) (?_))))))
    show X 24 [(3, .inl (0 : Int32)), (2, .inl (0 : Int32)), (0, .inr (.inr ((10, 0, 0), 215))), (1, .inl a1)] [] s4
    exact am_wk hX [2, 3, 1, 0] (hL24 am_fu (0 : Int32) (0 : Int32) hf)
  · have hf := am_it hf hb
    show X 13 [(0, .inr (.inr ((10, 0, 0), 215))), (1, .inl a1)] [] s1
    refine am_blk hX 7 2 (am_ri hf)
def fX9_paste_L155 (a3 : Int32) (a4 : Int32) (a5 : Int32) : Nat → AS → Int32 → Option (AS × Int32)
  | 0, _, _ => none
  | n155 + 1, s11, x12 =>
    if a5 ≤ x12 then (some (s11, (0 : Int32))) else (am_g (¬ (x12 < 0 ∨ 60 ≤ x12.toNatClampNeg)) (am_g (¬ (((((60 : Int32) * a3) + a4) + x12) < 0 ∨ 240 ≤ ((((60 : Int32) * a3) + a4) + x12).toNatClampNeg)) (am_let (am_sj s11 218 (((((60 : Int32) * a3) + a4) + x12).toNatClampNeg) (s11.2 219 x12.toNatClampNeg)) (fun (s15 : AS) => am_let (x12 + (1 : Int32)) (fun (x16 : Int32) => fX9_paste_L155 a3 a4 a5 n155 s15 x16)))))
def fX9_paste_L118 (a1 : Int32) (a2 : Int32) (a5 : Int32) (J152 : AS → Option (AS × Int32)) : Nat → AS → Int32 → Option (AS × Int32)
  | 0, _, _ => none
  | n118 + 1, s17, x18 =>
    if a5 ≤ x18 then (J152 s17) else (am_g (¬ (((((60 : Int32) * a1) + a2) + x18) < 0 ∨ 240 ≤ ((((60 : Int32) * a1) + a2) + x18).toNatClampNeg)) (am_g (¬ (x18 < 0 ∨ 60 ≤ x18.toNatClampNeg)) (am_let (am_sj s17 219 (x18.toNatClampNeg) (s17.2 218 (((((60 : Int32) * a1) + a2) + x18).toNatClampNeg))) (fun (s21 : AS) => am_let (x18 + (1 : Int32)) (fun (x22 : Int32) => fX9_paste_L118 a1 a2 a5 J152 n118 s21 x22)))))
def fX9_paste (s0 : AS) (a1 : Int32) (a2 : Int32) (a3 : Int32) (a4 : Int32) (a5 : Int32) : Option (AS × Int32) :=
  am_let (am_si s0 215 0 (0 : Int32)) (fun (s1 : AS) => am_r (fX9_isSlot a1) (fun (v2 : Int32) => am_let (some (s1, (-2 : Int32))) (fun J19 => if v2 = 0 then (J19) else (am_r (fX9_isSlot a3) (fun (v3 : Int32) => if v3 = 0 then (J19) else (am_g (¬ (a1 < 0 ∨ 4 ≤ a1.toNatClampNeg)) (am_let (some (s1, (-6 : Int32))) (fun J42 => if (s1.1 216 a1.toNatClampNeg) = (-1 : Int32) then (J42) else (am_g (¬ (a3 < 0 ∨ 4 ≤ a3.toNatClampNeg)) (if (s1.1 216 a3.toNatClampNeg) = (-1 : Int32) then (J42) else (am_g (¬ (a1 < 0 ∨ 4 ≤ a1.toNatClampNeg)) (am_g (¬ (a3 < 0 ∨ 4 ≤ a3.toNatClampNeg)) (if (s1.1 216 a1.toNatClampNeg) = (s1.1 216 a3.toNatClampNeg) then (am_let (some (s1, (-7 : Int32))) (fun J112 => if a2 < 0 then (J112) else (if a4 < 0 then (J112) else (if a5 < 0 then (J112) else (am_g (¬ (a1 < 0 ∨ 4 ≤ a1.toNatClampNeg)) (if 0 < (lg_cmp (a2.toInt64 + a5.toInt64) ((s1.1 217 a1.toNatClampNeg).toInt64)) then (J112) else (am_g (¬ (a3 < 0 ∨ 4 ≤ a3.toNatClampNeg)) (if (lg_cmp (a4.toInt64 + a5.toInt64) ((s1.1 217 a3.toNatClampNeg).toInt64)) ≤ 0 then (am_let (fun (s10 : AS) => fX9_paste_L155 a3 a4 a5 am_fu s10 (0 : Int32)) (fun J152 => fX9_paste_L118 a1 a2 a5 J152 am_fu s1 (0 : Int32))) else (J112))))))))) else (some (s1, (-8 : Int32))))))))))))))))
def kX9_paste : List (Nat × Instr × Nat) := [(0, .aload_n 0, 1), (1, .iconst 0, 1), (2, .putfield 80, 3), (5, .iload_n 1, 1), (6, .invokestatic 89, 3), (9, .ifCond .eq 10, 3), (12, .iload_n 3, 1), (13, .invokestatic 89, 3), (16, .ifCond .ne 6, 3), (19, .bipush (-2), 2), (21, .ireturn, 1), (22, .aload_n 0, 1), (23, .getfield 7, 3), (26, .iload_n 1, 1), (27, .iaload, 1), (28, .iconst (-1), 1), (29, .if_icmp .eq 13, 3), (32, .aload_n 0, 1), (33, .getfield 7, 3), (36, .iload_n 3, 1), (37, .iaload, 1), (38, .iconst (-1), 1), (39, .if_icmp .ne 6, 3), (42, .bipush (-6), 2), (44, .ireturn, 1), (45, .aload_n 0, 1), (46, .getfield 7, 3), (49, .iload_n 1, 1), (50, .iaload, 1), (51, .aload_n 0, 1), (52, .getfield 7, 3), (55, .iload_n 3, 1), (56, .iaload, 1), (57, .if_icmp .eq 6, 3), (60, .bipush (-8), 2), (62, .ireturn, 1), (63, .iload_n 2, 1), (64, .ifCond .lt 48, 3), (67, .iload 4, 2), (69, .ifCond .lt 43, 3), (72, .iload 5, 2), (74, .ifCond .lt 38, 3), (77, .iload_n 2, 1), (78, .i2l, 1), (79, .iload 5, 2), (81, .i2l, 1), (82, .ladd, 1), (83, .aload_n 0, 1), (84, .getfield 13, 3), (87, .iload_n 1, 1), (88, .iaload, 1), (89, .i2l, 1), (90, .lcmp, 1), (91, .ifCond .gt 21, 3), (94, .iload 4, 2), (96, .i2l, 1), (97, .iload 5, 2), (99, .i2l, 1), (100, .ladd, 1), (101, .aload_n 0, 1), (102, .getfield 13, 3), (105, .iload_n 3, 1), (106, .iaload, 1), (107, .i2l, 1), (108, .lcmp, 1), (109, .ifCond .le 6, 3), (112, .bipush (-7), 2), (114, .ireturn, 1), (115, .iconst 0, 1), (116, .istore 6, 2), (118, .iload 6, 2), (120, .iload 5, 2), (122, .if_icmp .ge 30, 3), (125, .aload_n 0, 1), (126, .getfield 20, 3), (129, .iload 6, 2), (131, .aload_n 0, 1), (132, .getfield 16, 3), (135, .bipush 60, 2), (137, .iload_n 1, 1), (138, .imul, 1), (139, .iload_n 2, 1), (140, .iadd, 1), (141, .iload 6, 2), (143, .iadd, 1), (144, .laload, 1), (145, .lastore, 1), (146, .iinc 6 1, 3), (149, .goto (-31), 3), (152, .iconst 0, 1), (153, .istore 6, 2), (155, .iload 6, 2), (157, .iload 5, 2), (159, .if_icmp .ge 31, 3), (162, .aload_n 0, 1), (163, .getfield 16, 3), (166, .bipush 60, 2), (168, .iload_n 3, 1), (169, .imul, 1), (170, .iload 4, 2), (172, .iadd, 1), (173, .iload 6, 2), (175, .iadd, 1), (176, .aload_n 0, 1), (177, .getfield 20, 3), (180, .iload 6, 2), (182, .laload, 1), (183, .lastore, 1), (184, .iinc 6 1, 3), (187, .goto (-32), 3), (190, .iconst 0, 1), (191, .ireturn, 1)]
theorem qX9_paste : ∀ q ∈ kX9_paste, decode mX9_paste.2.2.1 q.1 = .ok (q.2.1, q.2.2) ∧ am_iok mX9_paste.2.2.2.1 q.1 q.2.1 q.2.2 = true := by decide +kernel
set_option maxRecDepth 100000 in
theorem wX9_paste : Cond.code mX9_paste.2.1 mX9_paste.2.2.1 mX9_paste.2.2.2.1 mX9_paste.2.2.2.2.1 ∈ am_T := List.mem_filter.mpr ⟨List.mem_of_getElem? (i := 1465) rfl, rfl⟩
set_option maxHeartbeats 4000000 in
set_option maxRecDepth 100000 in
theorem tX9_paste (l : Launch) (d : Nat) {s0 : AS} {a1 : Int32} {a2 : Int32} {a3 : Int32} {a4 : Int32} {a5 : Int32} {sE : AS} {rE : Int32} (hf : fX9_paste s0 a1 a2 a3 a4 a5 = some (sE, rE)) : am_Ct l (d + 3) mX9_paste [.inr (.inr ((10, 0, 0), 215)), .inl a1, .inl a2, .inl a3, .inl a4, .inl a5] s0 sE (some (.inl rE)) := by
  refine am_sim l (d + 2) (code := kX9_paste) (by decide +kernel) wX9_paste qX9_paste (Nat.le_of_ble_eq_true rfl) ?_
  intro X hX
  show X 0 [(0, .inr (.inr ((10, 0, 0), 215))), (1, .inl a1), (2, .inl a2), (3, .inl a3), (4, .inl a4), (5, .inl a5)] [] s0
  unfold fX9_paste at hf
  refine am_blk hX 0 3 (And.intro rfl (am_nl (Z := fun s1 => X 5 [(0, .inr (.inr ((10, 0, 0), 215))), (1, .inl a1), (2, .inl a2), (3, .inl a3), (4, .inl a4), (5, .inl a5)] [] s1) hf (fun s1 hf => ?_)))
  obtain ⟨v2, hcv2, hf⟩ := am_r_of hf
  refine am_jn hf (fun J19 => J19 = some (sE, rE) → X 19 [] [] s1) ?_ ?_
  · intro hf
    refine am_blk hX 9 2 (am_ri hf)
  · intro J19 hJ19 hf
    refine am_blk hX 3 3 (And.intro rfl (Exists.intro s1 (Exists.intro (some (.inl v2)) (And.intro (tX9_isSlot l (d + 0) hcv2) (And.intro (fun hb => ?_) (fun hb => ?_))))))
    · have hf := am_it hf hb
      show X 19 [(0, .inr (.inr ((10, 0, 0), 215))), (1, .inl a1), (2, .inl a2), (3, .inl a3), (4, .inl a4), (5, .inl a5)] [] s1
      exact am_wk hX [] (hJ19 hf)
    · have hf := am_if hf hb
      show X 12 [(0, .inr (.inr ((10, 0, 0), 215))), (1, .inl a1), (2, .inl a2), (3, .inl a3), (4, .inl a4), (5, .inl a5)] [] s1
      obtain ⟨v3, hcv3, hf⟩ := am_r_of hf
      refine am_blk hX 6 3 (And.intro rfl (Exists.intro s1 (Exists.intro (some (.inl v3)) (And.intro (tX9_isSlot l (d + 0) hcv3) (And.intro (fun hb => ?_) (fun hb => ?_))))))
      · have hf := am_if hf hb
        show X 22 [(0, .inr (.inr ((10, 0, 0), 215))), (1, .inl a1), (2, .inl a2), (3, .inl a3), (4, .inl a4), (5, .inl a5)] [] s1
        obtain ⟨g4, hf⟩ := am_g_of hf
        refine am_jn hf (fun J42 => J42 = some (sE, rE) → X 42 [] [] s1) ?_ ?_
        · intro hf
          refine am_blk hX 23 2 (am_ri hf)
        · intro J42 hJ42 hf
          refine am_blk hX 11 6 (And.intro rfl (And.intro rfl (And.intro g4 (And.intro (fun hb => ?_) (fun hb => ?_)))))
          · have hf := am_it hf hb
            show X 42 [(0, .inr (.inr ((10, 0, 0), 215))), (1, .inl a1), (2, .inl a2), (3, .inl a3), (4, .inl a4), (5, .inl a5)] [] s1
            exact am_wk hX [] (hJ42 hf)
          · have hf := am_if hf hb
            show X 32 [(0, .inr (.inr ((10, 0, 0), 215))), (1, .inl a1), (2, .inl a2), (3, .inl a3), (4, .inl a4), (5, .inl a5)] [] s1
            obtain ⟨g5, hf⟩ := am_g_of hf
            refine am_blk hX 17 6 (And.intro rfl (And.intro rfl (And.intro g5 (And.intro (fun hb => ?_) (fun hb => ?_)))))
            · have hf := am_if hf hb
              show X 45 [(0, .inr (.inr ((10, 0, 0), 215))), (1, .inl a1), (2, .inl a2), (3, .inl a3), (4, .inl a4), (5, .inl a5)] [] s1
              obtain ⟨g6, hf⟩ := am_g_of hf
              obtain ⟨g7, hf⟩ := am_g_of hf
              refine am_blk hX 25 9 (And.intro rfl (And.intro rfl (And.intro g6 (And.intro rfl (And.intro rfl (And.intro g7 (And.intro (fun hb => ?_) (fun hb => ?_))))))))
              · have hf := am_it hf hb
                show X 63 [(0, .inr (.inr ((10, 0, 0), 215))), (1, .inl a1), (2, .inl a2), (3, .inl a3), (4, .inl a4), (5, .inl a5)] [] s1
                refine am_jn hf (fun J112 => J112 = some (sE, rE) → X 112 [] [] s1) ?_ ?_
                · intro hf
                  refine am_blk hX 66 2 (am_ri hf)
                · intro J112 hJ112 hf
                  refine am_blk hX 36 2 (And.intro (fun hb => ?_) (fun hb => ?_))
                  · have hf := am_it hf hb
                    show X 112 [(0, .inr (.inr ((10, 0, 0), 215))), (1, .inl a1), (2, .inl a2), (3, .inl a3), (4, .inl a4), (5, .inl a5)] [] s1
                    exact am_wk hX [] (hJ112 hf)
                  · have hf := am_if hf hb
                    show X 67 [(0, .inr (.inr ((10, 0, 0), 215))), (1, .inl a1), (2, .inl a2), (3, .inl a3), (4, .inl a4), (5, .inl a5)] [] s1
                    refine am_blk hX 38 2 (And.intro (fun hb => ?_) (fun hb => ?_))
                    · have hf := am_it hf hb
                      show X 112 [(0, .inr (.inr ((10, 0, 0), 215))), (1, .inl a1), (2, .inl a2), (3, .inl a3), (4, .inl a4), (5, .inl a5)] [] s1
                      exact am_wk hX [] (hJ112 hf)
                    · have hf := am_if hf hb
                      show X 72 [(0, .inr (.inr ((10, 0, 0), 215))), (1, .inl a1), (2, .inl a2), (3, .inl a3), (4, .inl a4), (5, .inl a5)] [] s1
                      refine am_blk hX 40 2 (And.intro (fun hb => ?_) (fun hb => ?_))
                      · have hf := am_it hf hb
                        show X 112 [(0, .inr (.inr ((10, 0, 0), 215))), (1, .inl a1), (2, .inl a2), (3, .inl a3), (4, .inl a4), (5, .inl a5)] [] s1
                        exact am_wk hX [] (hJ112 hf)
                      · have hf := am_if hf hb
                        show X 77 [(0, .inr (.inr ((10, 0, 0), 215))), (1, .inl a1), (2, .inl a2), (3, .inl a3), (4, .inl a4), (5, .inl a5)] [] s1
                        obtain ⟨g8, hf⟩ := am_g_of hf
                        refine am_blk hX 42 12 (And.intro rfl (And.intro rfl (And.intro g8 (And.intro (fun hb => ?_) (fun hb => ?_)))))
                        · have hf := am_it hf hb
                          show X 112 [(0, .inr (.inr ((10, 0, 0), 215))), (1, .inl a1), (2, .inl a2), (3, .inl a3), (4, .inl a4), (5, .inl a5)] [] s1
                          exact am_wk hX [] (hJ112 hf)
                        · have hf := am_if hf hb
                          show X 94 [(0, .inr (.inr ((10, 0, 0), 215))), (1, .inl a1), (2, .inl a2), (3, .inl a3), (4, .inl a4), (5, .inl a5)] [] s1
                          obtain ⟨g9, hf⟩ := am_g_of hf
                          refine am_blk hX 54 12 (And.intro rfl (And.intro rfl (And.intro g9 (And.intro (fun hb => ?_) (fun hb => ?_)))))
                          · have hf := am_it hf hb
                            show X 115 [(0, .inr (.inr ((10, 0, 0), 215))), (1, .inl a1), (2, .inl a2), (3, .inl a3), (4, .inl a4), (5, .inl a5)] [] s1
                            refine am_jn hf (fun J152 => ∀ (s10 : AS), J152 s10 = some (sE, rE) → X 152 [(0, .inr (.inr ((10, 0, 0), 215))), (3, .inl a3), (4, .inl a4), (5, .inl a5)] [] s10) ?_ ?_
                            · intro s10 hf
                              have hL155 : ∀ (n155 : Nat) (s11 : AS) (x12 : Int32), fX9_paste_L155 a3 a4 a5 n155 s11 x12 = some (sE, rE) → X 155 [(0, .inr (.inr ((10, 0, 0), 215))), (3, .inl a3), (4, .inl a4), (5, .inl a5), (6, .inl x12)] [] s11 := by
                                intro n155
                                induction n155 with
                                | zero => intro s11 x12 hf; exact am_no (show none = some _ from hf)
                                | succ n155 ih155 =>
                                  intro s11 x12 hf
                                  refine am_blk hX 91 3 (And.intro (fun hb => ?_) (fun hb => ?_))
                                  · have hf := am_it hf hb
                                    show X 190 [(0, .inr (.inr ((10, 0, 0), 215))), (3, .inl a3), (4, .inl a4), (5, .inl a5), (6, .inl x12)] [] s11
                                    refine am_blk hX 110 2 (am_ri hf)
                                  · have hf := am_if hf hb
                                    show X 162 [(0, .inr (.inr ((10, 0, 0), 215))), (3, .inl a3), (4, .inl a4), (5, .inl a5), (6, .inl x12)] [] s11
                                    obtain ⟨g13, hf⟩ := am_g_of hf
                                    obtain ⟨g14, hf⟩ := am_g_of hf
                                    refine am_blk hX 94 14 (And.intro rfl (And.intro rfl (And.intro rfl (And.intro g13 (And.intro rfl (And.intro g14 (am_nl (Z := fun s15 => X 184 [(0, .inr (.inr ((10, 0, 0), 215))), (3, .inl a3), (4, .inl a4), (5, .inl a5), (6, .inl x12)] [] s15) hf (fun s15 hf => ?_))))))))
                                    refine am_blk hX 108 1 (am_nl (Z := fun x16 => X 187 [(6, .inl x16), (0, .inr (.inr ((10, 0, 0), 215))), (3, .inl a3), (4, .inl a4), (5, .inl a5)] [] s15) hf (fun x16 hf => ?_))
                                    refine am_blk hX 109 1 (?_)
                                    show X 155 [(6, .inl x16), (0, .inr (.inr ((10, 0, 0), 215))), (3, .inl a3), (4, .inl a4), (5, .inl a5)] [] s15
                                    exact am_wk hX [1, 2, 3, 4, 0] (ih155 s15 x16 hf)
                              refine am_blk hX 89 2 (?_)
                              show X 155 [(6, .inl (0 : Int32)), (0, .inr (.inr ((10, 0, 0), 215))), (3, .inl a3), (4, .inl a4), (5, .inl a5)] [] s10
                              exact am_wk hX [1, 2, 3, 4, 0] (hL155 am_fu s10 (0 : Int32) hf)
                            · intro J152 hJ152 hf
                              have hL118 : ∀ (n118 : Nat) (s17 : AS) (x18 : Int32), fX9_paste_L118 a1 a2 a5 J152 n118 s17 x18 = some (sE, rE) → X 118 [(0, .inr (.inr ((10, 0, 0), 215))), (1, .inl a1), (2, .inl a2), (3, .inl a3), (4, .inl a4), (5, .inl a5), (6, .inl x18)] [] s17 := by
                                intro n118
                                induction n118 with
                                | zero => intro s17 x18 hf; exact am_no (show none = some _ from hf)
                                | succ n118 ih118 =>
                                  intro s17 x18 hf
                                  refine am_blk hX 70 3 (And.intro (fun hb => ?_) (fun hb => ?_))
                                  · have hf := am_it hf hb
                                    show X 152 [(0, .inr (.inr ((10, 0, 0), 215))), (1, .inl a1), (2, .inl a2), (3, .inl a3), (4, .inl a4), (5, .inl a5), (6, .inl x18)] [] s17
                                    exact am_wk hX [0, 3, 4, 5] (hJ152 s17 hf)
                                  · have hf := am_if hf hb
                                    show X 125 [(0, .inr (.inr ((10, 0, 0), 215))), (1, .inl a1), (2, .inl a2), (3, .inl a3), (4, .inl a4), (5, .inl a5), (6, .inl x18)] [] s17
                                    obtain ⟨g19, hf⟩ := am_g_of hf
                                    obtain ⟨g20, hf⟩ := am_g_of hf
                                    refine am_blk hX 73 14 (And.intro rfl (And.intro rfl (And.intro rfl (And.intro g19 (And.intro rfl (And.intro g20 (am_nl (Z := fun s21 => X 146 [(0, .inr (.inr ((10, 0, 0), 215))), (1, .inl a1), (2, .inl a2), (3, .inl a3), (4, .inl a4), (5, .inl a5), (6, .inl x18)] [] s21) hf (fun s21 hf => ?_))))))))
                                    refine am_blk hX 87 1 (am_nl (Z := fun x22 => X 149 [(6, .inl x22), (0, .inr (.inr ((10, 0, 0), 215))), (1, .inl a1), (2, .inl a2), (3, .inl a3), (4, .inl a4), (5, .inl a5)] [] s21) hf (fun x22 hf => ?_))
                                    refine am_blk hX 88 1 (?_)
                                    show X 118 [(6, .inl x22), (0, .inr (.inr ((10, 0, 0), 215))), (1, .inl a1), (2, .inl a2), (3, .inl a3), (4, .inl a4), (5, .inl a5)] [] s21
                                    exact am_wk hX [1, 2, 3, 4, 5, 6, 0] (ih118 s21 x22 hf)
                              refine am_blk hX 68 2 (?_)
                              show X 118 [(6, .inl (0 : Int32)), (0, .inr (.inr ((10, 0, 0), 215))), (1, .inl a1), (2, .inl a2), (3, .inl a3), (4, .inl a4), (5, .inl a5)] [] s1
                              exact am_wk hX [1, 2, 3, 4, 5, 6, 0] (hL118 am_fu s1 (0 : Int32) hf)
                          · have hf := am_if hf hb
                            show X 112 [(0, .inr (.inr ((10, 0, 0), 215))), (1, .inl a1), (2, .inl a2), (3, .inl a3), (4, .inl a4), (5, .inl a5)] [] s1
                            exact am_wk hX [] (hJ112 hf)
              · have hf := am_if hf hb
                show X 60 [(0, .inr (.inr ((10, 0, 0), 215))), (1, .inl a1), (2, .inl a2), (3, .inl a3), (4, .inl a4), (5, .inl a5)] [] s1
                refine am_blk hX 34 2 (am_ri hf)
            · have hf := am_it hf hb
              show X 42 [(0, .inr (.inr ((10, 0, 0), 215))), (1, .inl a1), (2, .inl a2), (3, .inl a3), (4, .inl a4), (5, .inl a5)] [] s1
              exact am_wk hX [] (hJ42 hf)
      · have hf := am_it hf hb
        show X 19 [(0, .inr (.inr ((10, 0, 0), 215))), (1, .inl a1), (2, .inl a2), (3, .inl a3), (4, .inl a4), (5, .inl a5)] [] s1
        exact am_wk hX [] (hJ19 hf)
def fX9_peak (s0 : AS) : Option (AS × Int32) :=
  am_let (am_si s0 215 0 (0 : Int32)) (fun (s1 : AS) => am_r (fX9_isMarch s1) (fun (v2 : Int32) => if v2 = 0 then (some (s1, (-2 : Int32))) else (am_c (fX9_laysNow s1) (fun (s4 : AS) (v3 : Unit) => am_r (fX9_peakOf s4) (fun (v5 : Int32) => some (s4, v5))))))
def kX9_peak : List (Nat × Instr × Nat) := [(0, .aload_n 0, 1), (1, .iconst 0, 1), (2, .putfield 80, 3), (5, .aload_n 0, 1), (6, .invokevirtual 251, 3), (9, .ifCond .ne 6, 3), (12, .bipush (-2), 2), (14, .ireturn, 1), (15, .aload_n 0, 1), (16, .invokevirtual 358, 3), (19, .aload_n 0, 1), (20, .invokevirtual 367, 3), (23, .ireturn, 1)]
theorem qX9_peak : ∀ q ∈ kX9_peak, decode mX9_peak.2.2.1 q.1 = .ok (q.2.1, q.2.2) ∧ am_iok mX9_peak.2.2.2.1 q.1 q.2.1 q.2.2 = true := by decide +kernel
set_option maxRecDepth 100000 in
theorem wX9_peak : Cond.code mX9_peak.2.1 mX9_peak.2.2.1 mX9_peak.2.2.2.1 mX9_peak.2.2.2.2.1 ∈ am_T := List.mem_filter.mpr ⟨List.mem_of_getElem? (i := 1754) rfl, rfl⟩
set_option maxHeartbeats 4000000 in
set_option maxRecDepth 100000 in
theorem tX9_peak (l : Launch) (d : Nat) {s0 : AS} {sE : AS} {rE : Int32} (hf : fX9_peak s0 = some (sE, rE)) : am_Ct l (d + 6) mX9_peak [.inr (.inr ((10, 0, 0), 215))] s0 sE (some (.inl rE)) := by
  refine am_sim l (d + 5) (code := kX9_peak) (by decide +kernel) wX9_peak qX9_peak (Nat.le_of_ble_eq_true rfl) ?_
  intro X hX
  show X 0 [(0, .inr (.inr ((10, 0, 0), 215)))] [] s0
  unfold fX9_peak at hf
  refine am_blk hX 0 3 (And.intro rfl (am_nl (Z := fun s1 => X 5 [(0, .inr (.inr ((10, 0, 0), 215)))] [] s1) hf (fun s1 hf => ?_)))
  obtain ⟨v2, hcv2, hf⟩ := am_r_of hf
  refine am_blk hX 3 3 (And.intro rfl (And.intro rfl (Exists.intro s1 (Exists.intro (some (.inl v2)) (And.intro (tX9_isMarch l (d + 4) hcv2) (And.intro (fun hb => ?_) (fun hb => ?_)))))))
  · have hf := am_if hf hb
    show X 15 [(0, .inr (.inr ((10, 0, 0), 215)))] [] s1
    obtain ⟨s4, v3, hcv3, hf⟩ := am_c_of hf
    obtain ⟨v5, hcv5, hf⟩ := am_r_of hf
    refine am_blk hX 8 5 (And.intro rfl (And.intro rfl (Exists.intro s4 (Exists.intro none (And.intro (tX9_laysNow l (d + 0) hcv3) (And.intro rfl (And.intro rfl (Exists.intro s4 (Exists.intro (some (.inl v5)) (And.intro (tX9_peakOf l (d + 3) hcv5) (am_ri hf)))))))))))
  · have hf := am_it hf hb
    show X 12 [(0, .inr (.inr ((10, 0, 0), 215)))] [] s1
    refine am_blk hX 6 2 (am_ri hf)
def fX9_person (s0 : AS) (a1 : Int32) (a2 : Int32) : Option (AS × Int32) :=
  am_let (am_si s0 215 0 (0 : Int32)) (fun (s1 : AS) => am_r (fX9_isPerson s1 a1.toInt64) (fun (v2 : Int32) => am_let (fun (x3 : Int32) => some (s1, x3)) (fun J41 => am_let (J41 (-2 : Int32)) (fun J39 => if v2 = 0 then (J39) else (am_r (fX9_in a2.toInt64 (0 : Int64) (4 : Int64)) (fun (v4 : Int32) => if v4 = 0 then (J39) else (am_g (¬ ((((5 : Int32) * a1) + a2) < 0 ∨ 200 ≤ (((5 : Int32) * a1) + a2).toNatClampNeg)) (J41 (s1.1 224 ((((5 : Int32) * a1) + a2).toNatClampNeg))))))))))
def kX9_person : List (Nat × Instr × Nat) := [(0, .aload_n 0, 1), (1, .iconst 0, 1), (2, .putfield 80, 3), (5, .aload_n 0, 1), (6, .iload_n 1, 1), (7, .i2l, 1), (8, .invokevirtual 344, 3), (11, .ifCond .eq 28, 3), (14, .iload_n 2, 1), (15, .i2l, 1), (16, .lconst 0, 1), (17, .ldc2_w 347, 3), (20, .invokestatic 85, 3), (23, .ifCond .eq 16, 3), (26, .aload_n 0, 1), (27, .getfield 40, 3), (30, .iconst 5, 1), (31, .iload_n 1, 1), (32, .imul, 1), (33, .iload_n 2, 1), (34, .iadd, 1), (35, .iaload, 1), (36, .goto 5, 3), (39, .bipush (-2), 2), (41, .ireturn, 1)]
theorem qX9_person : ∀ q ∈ kX9_person, decode mX9_person.2.2.1 q.1 = .ok (q.2.1, q.2.2) ∧ am_iok mX9_person.2.2.2.1 q.1 q.2.1 q.2.2 = true := by decide +kernel
set_option maxRecDepth 100000 in
theorem wX9_person : Cond.code mX9_person.2.1 mX9_person.2.2.1 mX9_person.2.2.2.1 mX9_person.2.2.2.2.1 ∈ am_T := List.mem_filter.mpr ⟨List.mem_of_getElem? (i := 1606) rfl, rfl⟩
set_option maxHeartbeats 4000000 in
set_option maxRecDepth 100000 in
theorem tX9_person (l : Launch) (d : Nat) {s0 : AS} {a1 : Int32} {a2 : Int32} {sE : AS} {rE : Int32} (hf : fX9_person s0 a1 a2 = some (sE, rE)) : am_Ct l (d + 3) mX9_person [.inr (.inr ((10, 0, 0), 215)), .inl a1, .inl a2] s0 sE (some (.inl rE)) := by
  refine am_sim l (d + 2) (code := kX9_person) (by decide +kernel) wX9_person qX9_person (Nat.le_of_ble_eq_true rfl) ?_
  intro X hX
  show X 0 [(0, .inr (.inr ((10, 0, 0), 215))), (1, .inl a1), (2, .inl a2)] [] s0
  unfold fX9_person at hf
  refine am_blk hX 0 3 (And.intro rfl (am_nl (Z := fun s1 => X 5 [(0, .inr (.inr ((10, 0, 0), 215))), (1, .inl a1), (2, .inl a2)] [] s1) hf (fun s1 hf => ?_)))
  obtain ⟨v2, hcv2, hf⟩ := am_r_of hf
  refine am_jn hf (fun J41 => ∀ (x3 : Int32), J41 x3 = some (sE, rE) → X 41 [] [.inl x3] s1) ?_ ?_
  · intro x3 hf
    refine am_blk hX 24 1 (am_ri hf)
  · intro J41 hJ41 hf
    refine am_jn hf (fun J39 => J39 = some (sE, rE) → X 39 [] [] s1) ?_ ?_
    · intro hf
      refine am_blk hX 23 1 (?_)
      show X 41 [] [.inl (-2 : Int32)] s1
      exact am_wk hX [] (hJ41 (-2 : Int32) hf)
    · intro J39 hJ39 hf
      refine am_blk hX 3 5 (And.intro rfl (And.intro rfl (Exists.intro s1 (Exists.intro (some (.inl v2)) (And.intro (tX9_isPerson l (d + 0) hcv2) (And.intro (fun hb => ?_) (fun hb => ?_)))))))
      · have hf := am_it hf hb
        show X 39 [(0, .inr (.inr ((10, 0, 0), 215))), (1, .inl a1), (2, .inl a2)] [] s1
        exact am_wk hX [] (hJ39 hf)
      · have hf := am_if hf hb
        show X 14 [(0, .inr (.inr ((10, 0, 0), 215))), (1, .inl a1), (2, .inl a2)] [] s1
        obtain ⟨v4, hcv4, hf⟩ := am_r_of hf
        refine am_blk hX 8 6 (And.intro rfl (Exists.intro s1 (Exists.intro (some (.inl v4)) (And.intro (tX9_in l (d + 1) hcv4) (And.intro (fun hb => ?_) (fun hb => ?_))))))
        · have hf := am_it hf hb
          show X 39 [(0, .inr (.inr ((10, 0, 0), 215))), (1, .inl a1), (2, .inl a2)] [] s1
          exact am_wk hX [] (hJ39 hf)
        · have hf := am_if hf hb
          show X 26 [(0, .inr (.inr ((10, 0, 0), 215))), (1, .inl a1), (2, .inl a2)] [] s1
          obtain ⟨g5, hf⟩ := am_g_of hf
          refine am_blk hX 14 9 (And.intro rfl (And.intro rfl (And.intro g5 (?_))))
          show X 41 [(0, .inr (.inr ((10, 0, 0), 215))), (1, .inl a1), (2, .inl a2)] [.inl (s1.1 224 ((((5 : Int32) * a1) + a2).toNatClampNeg))] s1
          exact am_wk hX [] (hJ41 (s1.1 224 ((((5 : Int32) * a1) + a2).toNatClampNeg)) hf)
def fX9_reach_L21 (a1 : Int32) (s3 : AS) : Nat → Int32 → Int32 → Option (AS × Int32)
  | 0, _, _ => none
  | n21 + 1, x4, x5 =>
    am_g (¬ ((0 : Int32) < 0 ∨ 35 ≤ (0 : Int32).toNatClampNeg)) (if (s3.1 222 ((0 : Int32).toNatClampNeg)) ≤ x5 then (some (s3, x4)) else (am_g (¬ ((((7 : Int32) * a1) + x5) < 0 ∨ 49 ≤ (((7 : Int32) * a1) + x5).toNatClampNeg)) (am_let (fun (x8 : Int32) => am_let (x4 ||| x8) (fun (x9 : Int32) => am_let (x5 + (1 : Int32)) (fun (x10 : Int32) => fX9_reach_L21 a1 s3 n21 x9 x10))) (fun J55 => if (100000 : Int32) ≤ (s3.1 228 ((((7 : Int32) * a1) + x5).toNatClampNeg)) then (J55 (0 : Int32)) else (J55 ((1 : Int32) <<< (x5 &&& 31)))))))
def fX9_reach (s0 : AS) (a1 : Int32) : Option (AS × Int32) :=
  am_let (am_si s0 215 0 (0 : Int32)) (fun (s1 : AS) => am_c (fX9_arePlaces s1 a1 a1) (fun (s3 : AS) (v2 : Int32) => if v2 = 0 then (some (s3, (-2 : Int32))) else (fX9_reach_L21 a1 s3 am_fu (0 : Int32) (0 : Int32))))
def kX9_reach : List (Nat × Instr × Nat) := [(0, .aload_n 0, 1), (1, .iconst 0, 1), (2, .putfield 80, 3), (5, .aload_n 0, 1), (6, .iload_n 1, 1), (7, .iload_n 1, 1), (8, .invokevirtual 352, 3), (11, .ifCond .ne 6, 3), (14, .bipush (-2), 2), (16, .ireturn, 1), (17, .iconst 0, 1), (18, .istore_n 2, 1), (19, .iconst 0, 1), (20, .istore_n 3, 1), (21, .iload_n 3, 1), (22, .aload_n 0, 1), (23, .getfield 34, 3), (26, .iconst 0, 1), (27, .iaload, 1), (28, .if_icmp .ge 35, 3), (31, .iload_n 2, 1), (32, .aload_n 0, 1), (33, .getfield 53, 3), (36, .bipush 7, 2), (38, .iload_n 1, 1), (39, .imul, 1), (40, .iload_n 3, 1), (41, .iadd, 1), (42, .iaload, 1), (43, .ldc 130, 2), (45, .if_icmp .ge 9, 3), (48, .iconst 1, 1), (49, .iload_n 3, 1), (50, .ishl, 1), (51, .goto 4, 3), (54, .iconst 0, 1), (55, .ior, 1), (56, .istore_n 2, 1), (57, .iinc 3 1, 3), (60, .goto (-39), 3), (63, .iload_n 2, 1), (64, .ireturn, 1)]
theorem qX9_reach : ∀ q ∈ kX9_reach, decode mX9_reach.2.2.1 q.1 = .ok (q.2.1, q.2.2) ∧ am_iok mX9_reach.2.2.2.1 q.1 q.2.1 q.2.2 = true := by decide +kernel
set_option maxRecDepth 100000 in
theorem wX9_reach : Cond.code mX9_reach.2.1 mX9_reach.2.2.1 mX9_reach.2.2.2.1 mX9_reach.2.2.2.2.1 ∈ am_T := List.mem_filter.mpr ⟨List.mem_of_getElem? (i := 1650) rfl, rfl⟩
set_option maxHeartbeats 4000000 in
set_option maxRecDepth 100000 in
theorem tX9_reach (l : Launch) (d : Nat) {s0 : AS} {a1 : Int32} {sE : AS} {rE : Int32} (hf : fX9_reach s0 a1 = some (sE, rE)) : am_Ct l (d + 4) mX9_reach [.inr (.inr ((10, 0, 0), 215)), .inl a1] s0 sE (some (.inl rE)) := by
  refine am_sim l (d + 3) (code := kX9_reach) (by decide +kernel) wX9_reach qX9_reach (Nat.le_of_ble_eq_true rfl) ?_
  intro X hX
  show X 0 [(0, .inr (.inr ((10, 0, 0), 215))), (1, .inl a1)] [] s0
  unfold fX9_reach at hf
  refine am_blk hX 0 3 (And.intro rfl (am_nl (Z := fun s1 => X 5 [(0, .inr (.inr ((10, 0, 0), 215))), (1, .inl a1)] [] s1) hf (fun s1 hf => ?_)))
  obtain ⟨s3, v2, hcv2, hf⟩ := am_c_of hf
  refine am_blk hX 3 5 (And.intro rfl (And.intro rfl (Exists.intro s3 (Exists.intro (some (.inl v2)) (And.intro (tX9_arePlaces l (d + 0) hcv2) (And.intro (fun hb => ?_) (fun hb => ?_)))))))
  · have hf := am_if hf hb
    show X 17 [(0, .inr (.inr ((10, 0, 0), 215))), (1, .inl a1)] [] s3
    have hL21 : ∀ (n21 : Nat) (x4 : Int32) (x5 : Int32), fX9_reach_L21 a1 s3 n21 x4 x5 = some (sE, rE) → X 21 [(0, .inr (.inr ((10, 0, 0), 215))), (1, .inl a1), (2, .inl x4), (3, .inl x5)] [] s3 := by
      intro n21
      induction n21 with
      | zero => intro x4 x5 hf; exact am_no (show none = some _ from hf)
      | succ n21 ih21 =>
        intro x4 x5 hf
        obtain ⟨g6, hf⟩ := am_g_of hf
        refine am_blk hX 14 6 (And.intro rfl (And.intro rfl (And.intro g6 (And.intro (fun hb => ?_) (fun hb => ?_)))))
        · have hf := am_it hf hb
          show X 63 [(0, .inr (.inr ((10, 0, 0), 215))), (1, .inl a1), (2, .inl x4), (3, .inl x5)] [] s3
          refine am_blk hX 40 2 (am_ri hf)
        · have hf := am_if hf hb
          show X 31 [(0, .inr (.inr ((10, 0, 0), 215))), (1, .inl a1), (2, .inl x4), (3, .inl x5)] [] s3
          obtain ⟨g7, hf⟩ := am_g_of hf
          refine am_jn hf (fun J55 => ∀ (x8 : Int32), J55 x8 = some (sE, rE) → X 55 [(0, .inr (.inr ((10, 0, 0), 215))), (1, .inl a1), (3, .inl x5)] [.inl x8, .inl x4] s3) ?_ ?_
          · intro x8 hf
            refine am_blk hX 36 2 (am_nl (Z := fun x9 => X 57 [(2, .inl x9), (0, .inr (.inr ((10, 0, 0), 215))), (1, .inl a1), (3, .inl x5)] [] s3) hf (fun x9 hf => ?_))
            refine am_blk hX 38 1 (am_nl (Z := fun x10 => X 60 [(3, .inl x10), (2, .inl x9), (0, .inr (.inr ((10, 0, 0), 215))), (1, .inl a1)] [] s3) hf (fun x10 hf => ?_))
            refine am_blk hX 39 1 (?_)
            show X 21 [(3, .inl x10), (2, .inl x9), (0, .inr (.inr ((10, 0, 0), 215))), (1, .inl a1)] [] s3
            exact am_wk hX [2, 3, 1, 0] (ih21 x9 x10 hf)
          · intro J55 hJ55 hf
            refine am_blk hX 20 11 (And.intro rfl (And.intro rfl (And.intro g7 (And.intro (fun hb => ?_) (fun hb => ?_)))))
            · have hf := am_it hf hb
              show X 54 [(0, .inr (.inr ((10, 0, 0), 215))), (1, .inl a1), (2, .inl x4), (3, .inl x5)] [.inl x4] s3
              refine am_blk hX 35 1 (?_)
              show X 55 [(0, .inr (.inr ((10, 0, 0), 215))), (1, .inl a1), (2, .inl x4), (3, .inl x5)] [.inl (0 : Int32), .inl x4] s3
              exact am_wk hX [0, 1, 3] (hJ55 (0 : Int32) hf)
            · have hf := am_if hf hb
              show X 48 [(0, .inr (.inr ((10, 0, 0), 215))), (1, .inl a1), (2, .inl x4), (3, .inl x5)] [.inl x4] s3
              refine am_blk hX 31 4 (?_)
              show X 55 [(0, .inr (.inr ((10, 0, 0), 215))), (1, .inl a1), (2, .inl x4), (3, .inl x5)] [.inl ((1 : Int32) <<< (x5 &&& 31)), .inl x4] s3
              exact am_wk hX [0, 1, 3] (hJ55 ((1 : Int32) <<< (x5 &&& 31)) hf)
    refine am_blk hX 10 4 (?_)
    show X 21 [(3, .inl (0 : Int32)), (2, .inl (0 : Int32)), (0, .inr (.inr ((10, 0, 0), 215))), (1, .inl a1)] [] s3
    exact am_wk hX [2, 3, 1, 0] (hL21 am_fu (0 : Int32) (0 : Int32) hf)
  · have hf := am_it hf hb
    show X 14 [(0, .inr (.inr ((10, 0, 0), 215))), (1, .inl a1)] [] s3
    refine am_blk hX 8 2 (am_ri hf)
def fX9_road (s0 : AS) (a1 : Int32) (a2 : Int32) : Option (AS × Int32) :=
  am_let (am_si s0 215 0 (0 : Int32)) (fun (s1 : AS) => am_g (¬ ((4 : Int32) < 0 ∨ 35 ≤ (4 : Int32).toNatClampNeg)) (am_r (fX9_in a1.toInt64 (0 : Int64) (((s1.1 222 ((4 : Int32).toNatClampNeg)) - (1 : Int32)).toInt64)) (fun (v3 : Int32) => am_let (fun (x4 : Int32) => some (s1, x4)) (fun J50 => am_let (J50 (-2 : Int32)) (fun J48 => if v3 = 0 then (J48) else (am_r (fX9_in a2.toInt64 (0 : Int64) (2 : Int64)) (fun (v5 : Int32) => if v5 = 0 then (J48) else (am_g (¬ ((((3 : Int32) * a1) + a2) < 0 ∨ 150 ≤ (((3 : Int32) * a1) + a2).toNatClampNeg)) (J50 (s1.1 223 ((((3 : Int32) * a1) + a2).toNatClampNeg)))))))))))
def kX9_road : List (Nat × Instr × Nat) := [(0, .aload_n 0, 1), (1, .iconst 0, 1), (2, .putfield 80, 3), (5, .iload_n 1, 1), (6, .i2l, 1), (7, .lconst 0, 1), (8, .aload_n 0, 1), (9, .getfield 34, 3), (12, .iconst 4, 1), (13, .iaload, 1), (14, .iconst 1, 1), (15, .isub, 1), (16, .i2l, 1), (17, .invokestatic 85, 3), (20, .ifCond .eq 28, 3), (23, .iload_n 2, 1), (24, .i2l, 1), (25, .lconst 0, 1), (26, .ldc2_w 342, 3), (29, .invokestatic 85, 3), (32, .ifCond .eq 16, 3), (35, .aload_n 0, 1), (36, .getfield 37, 3), (39, .iconst 3, 1), (40, .iload_n 1, 1), (41, .imul, 1), (42, .iload_n 2, 1), (43, .iadd, 1), (44, .iaload, 1), (45, .goto 5, 3), (48, .bipush (-2), 2), (50, .ireturn, 1)]
theorem qX9_road : ∀ q ∈ kX9_road, decode mX9_road.2.2.1 q.1 = .ok (q.2.1, q.2.2) ∧ am_iok mX9_road.2.2.2.1 q.1 q.2.1 q.2.2 = true := by decide +kernel
set_option maxRecDepth 100000 in
theorem wX9_road : Cond.code mX9_road.2.1 mX9_road.2.2.1 mX9_road.2.2.2.1 mX9_road.2.2.2.2.1 ∈ am_T := List.mem_filter.mpr ⟨List.mem_of_getElem? (i := 1601) rfl, rfl⟩
set_option maxHeartbeats 4000000 in
set_option maxRecDepth 100000 in
theorem tX9_road (l : Launch) (d : Nat) {s0 : AS} {a1 : Int32} {a2 : Int32} {sE : AS} {rE : Int32} (hf : fX9_road s0 a1 a2 = some (sE, rE)) : am_Ct l (d + 2) mX9_road [.inr (.inr ((10, 0, 0), 215)), .inl a1, .inl a2] s0 sE (some (.inl rE)) := by
  refine am_sim l (d + 1) (code := kX9_road) (by decide +kernel) wX9_road qX9_road (Nat.le_of_ble_eq_true rfl) ?_
  intro X hX
  show X 0 [(0, .inr (.inr ((10, 0, 0), 215))), (1, .inl a1), (2, .inl a2)] [] s0
  unfold fX9_road at hf
  refine am_blk hX 0 3 (And.intro rfl (am_nl (Z := fun s1 => X 5 [(0, .inr (.inr ((10, 0, 0), 215))), (1, .inl a1), (2, .inl a2)] [] s1) hf (fun s1 hf => ?_)))
  obtain ⟨g2, hf⟩ := am_g_of hf
  obtain ⟨v3, hcv3, hf⟩ := am_r_of hf
  refine am_jn hf (fun J50 => ∀ (x4 : Int32), J50 x4 = some (sE, rE) → X 50 [] [.inl x4] s1) ?_ ?_
  · intro x4 hf
    refine am_blk hX 31 1 (am_ri hf)
  · intro J50 hJ50 hf
    refine am_jn hf (fun J48 => J48 = some (sE, rE) → X 48 [] [] s1) ?_ ?_
    · intro hf
      refine am_blk hX 30 1 (?_)
      show X 50 [] [.inl (-2 : Int32)] s1
      exact am_wk hX [] (hJ50 (-2 : Int32) hf)
    · intro J48 hJ48 hf
      refine am_blk hX 3 12 (And.intro rfl (And.intro rfl (And.intro g2 (And.intro rfl (Exists.intro s1 (Exists.intro (some (.inl v3)) (And.intro (tX9_in l (d + 0) hcv3) (And.intro (fun hb => ?_) (fun hb => ?_)))))))))
      · have hf := am_it hf hb
        show X 48 [(0, .inr (.inr ((10, 0, 0), 215))), (1, .inl a1), (2, .inl a2)] [] s1
        exact am_wk hX [] (hJ48 hf)
      · have hf := am_if hf hb
        show X 23 [(0, .inr (.inr ((10, 0, 0), 215))), (1, .inl a1), (2, .inl a2)] [] s1
        obtain ⟨v5, hcv5, hf⟩ := am_r_of hf
        refine am_blk hX 15 6 (And.intro rfl (Exists.intro s1 (Exists.intro (some (.inl v5)) (And.intro (tX9_in l (d + 0) hcv5) (And.intro (fun hb => ?_) (fun hb => ?_))))))
        · have hf := am_it hf hb
          show X 48 [(0, .inr (.inr ((10, 0, 0), 215))), (1, .inl a1), (2, .inl a2)] [] s1
          exact am_wk hX [] (hJ48 hf)
        · have hf := am_if hf hb
          show X 35 [(0, .inr (.inr ((10, 0, 0), 215))), (1, .inl a1), (2, .inl a2)] [] s1
          obtain ⟨g6, hf⟩ := am_g_of hf
          refine am_blk hX 21 9 (And.intro rfl (And.intro rfl (And.intro g6 (?_))))
          show X 50 [(0, .inr (.inr ((10, 0, 0), 215))), (1, .inl a1), (2, .inl a2)] [.inl (s1.1 223 ((((3 : Int32) * a1) + a2).toNatClampNeg))] s1
          exact am_wk hX [] (hJ50 (s1.1 223 ((((3 : Int32) * a1) + a2).toNatClampNeg)) hf)
