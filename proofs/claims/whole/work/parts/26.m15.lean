/-! METHODS, printed by gen.py. -/
def fX9_cut__L28 (a1 : Int32) (a2 : Int32) (x4 : Int32) : Nat → AS → Int32 → Int32 → Option (AS × Int32)
  | 0, _, _, _ => none
  | n28 + 1, s5, x6, x7 =>
    am_g (¬ ((4 : Int32) < 0 ∨ 35 ≤ (4 : Int32).toNatClampNeg)) (if ((1 : Int32) <<< ((s5.1 222 ((4 : Int32).toNatClampNeg)) &&& 31)) ≤ x7 then (some (s5, x6)) else (am_let (fun (s9 : AS) (x10 : Int32) => am_let (x7 + (1 : Int32)) (fun (x11 : Int32) => fX9_cut__L28 a1 a2 x4 n28 s9 x10 x11)) (fun J102 => if (x7 &&& x4) = 0 then (am_let (am_let (am_si s5 215 24 (x4 ||| x7)) (fun (s12 : AS) => am_c (fX9_laysWays s12) (fun (s14 : AS) (v13 : Unit) => am_g (¬ ((((7 : Int32) * a1) + a2) < 0 ∨ 49 ≤ (((7 : Int32) * a1) + a2).toNatClampNeg)) (if (s14.1 228 ((((7 : Int32) * a1) + a2).toNatClampNeg)) < (100000 : Int32) then (J102 s14 x6) else (am_r (fX9_sizeOf x7) (fun (v16 : Int32) => J102 s14 v16)))))) (fun J67 => if x6 = (-1 : Int32) then (J67) else (am_r (fX9_sizeOf x7) (fun (v17 : Int32) => if v17 < x6 then (J67) else (J102 s5 x6))))) else (J102 s5 x6))))
def fX9_cut_ (s0 : AS) (a1 : Int32) (a2 : Int32) : Option (AS × Int32) :=
  am_let (am_si s0 215 0 (0 : Int32)) (fun (s1 : AS) => am_c (fX9_arePlaces s1 a1 a2) (fun (s3 : AS) (v2 : Int32) => if v2 = 0 then (some (s3, (-2 : Int32))) else (am_let (s3.1 215 24) (fun (x4 : Int32) => fX9_cut__L28 a1 a2 x4 am_fu s3 (-1 : Int32) (0 : Int32)))))
def kX9_cut_ : List (Nat × Instr × Nat) := [(0, .aload_n 0, 1), (1, .iconst 0, 1), (2, .putfield 80, 3), (5, .aload_n 0, 1), (6, .iload_n 1, 1), (7, .iload_n 2, 1), (8, .invokevirtual 352, 3), (11, .ifCond .ne 6, 3), (14, .bipush (-2), 2), (16, .ireturn, 1), (17, .aload_n 0, 1), (18, .getfield 259, 3), (21, .istore_n 3, 1), (22, .iconst (-1), 1), (23, .istore 4, 2), (25, .iconst 0, 1), (26, .istore 5, 2), (28, .iload 5, 2), (30, .iconst 1, 1), (31, .aload_n 0, 1), (32, .getfield 34, 3), (35, .iconst 4, 1), (36, .iaload, 1), (37, .ishl, 1), (38, .if_icmp .ge 70, 3), (41, .iload 5, 2), (43, .iload_n 3, 1), (44, .iand, 1), (45, .ifCond .ne 57, 3), (48, .iload 4, 2), (50, .iconst (-1), 1), (51, .if_icmp .eq 16, 3), (54, .iload 5, 2), (56, .invokestatic 293, 3), (59, .iload 4, 2), (61, .if_icmp .lt 6, 3), (64, .goto 38, 3), (67, .aload_n 0, 1), (68, .iload_n 3, 1), (69, .iload 5, 2), (71, .ior, 1), (72, .putfield 259, 3), (75, .aload_n 0, 1), (76, .invokevirtual 306, 3), (79, .aload_n 0, 1), (80, .getfield 53, 3), (83, .bipush 7, 2), (85, .iload_n 1, 1), (86, .imul, 1), (87, .iload_n 2, 1), (88, .iadd, 1), (89, .iaload, 1), (90, .ldc 130, 2), (92, .if_icmp .lt 10, 3), (95, .iload 5, 2), (97, .invokestatic 293, 3), (100, .istore 4, 2), (102, .iinc 5 1, 3), (105, .goto (-77), 3), (108, .iload 4, 2), (110, .ireturn, 1)]
theorem qX9_cut_ : ∀ q ∈ kX9_cut_, decode mX9_cut_.2.2.1 q.1 = .ok (q.2.1, q.2.2) ∧ am_iok mX9_cut_.2.2.2.1 q.1 q.2.1 q.2.2 = true := by decide +kernel
set_option maxRecDepth 100000 in
theorem wX9_cut_ : Cond.code mX9_cut_.2.1 mX9_cut_.2.2.1 mX9_cut_.2.2.2.1 mX9_cut_.2.2.2.2.1 ∈ am_T := List.mem_filter.mpr ⟨List.mem_of_getElem? (i := 1880) rfl, rfl⟩
set_option maxHeartbeats 4000000 in
set_option maxRecDepth 100000 in
theorem tX9_cut_ (l : Launch) (d : Nat) {s0 : AS} {a1 : Int32} {a2 : Int32} {sE : AS} {rE : Int32} (hf : fX9_cut_ s0 a1 a2 = some (sE, rE)) : am_Ct l (d + 4) mX9_cut_ [.inr (.inr ((10, 0, 0), 215)), .inl a1, .inl a2] s0 sE (some (.inl rE)) := by
  refine am_sim l (d + 3) (code := kX9_cut_) (by decide +kernel) wX9_cut_ qX9_cut_ (Nat.le_of_ble_eq_true rfl) ?_
  intro X hX
  show X 0 [(0, .inr (.inr ((10, 0, 0), 215))), (1, .inl a1), (2, .inl a2)] [] s0
  unfold fX9_cut_ at hf
  refine am_blk hX 0 3 (And.intro rfl (am_nl (Z := fun s1 => X 5 [(0, .inr (.inr ((10, 0, 0), 215))), (1, .inl a1), (2, .inl a2)] [] s1) hf (fun s1 hf => ?_)))
  obtain ⟨s3, v2, hcv2, hf⟩ := am_c_of hf
  refine am_blk hX 3 5 (And.intro rfl (And.intro rfl (Exists.intro s3 (Exists.intro (some (.inl v2)) (And.intro (tX9_arePlaces l (d + 0) hcv2) (And.intro (fun hb => ?_) (fun hb => ?_)))))))
  · have hf := am_if hf hb
    show X 17 [(0, .inr (.inr ((10, 0, 0), 215))), (1, .inl a1), (2, .inl a2)] [] s3
    refine am_blk hX 10 3 (And.intro rfl (am_nl (Z := fun x4 => X 22 [(3, .inl x4), (0, .inr (.inr ((10, 0, 0), 215))), (1, .inl a1), (2, .inl a2)] [] s3) hf (fun x4 hf => ?_)))
    have hL28 : ∀ (n28 : Nat) (s5 : AS) (x6 : Int32) (x7 : Int32), fX9_cut__L28 a1 a2 x4 n28 s5 x6 x7 = some (sE, rE) → X 28 [(0, .inr (.inr ((10, 0, 0), 215))), (1, .inl a1), (2, .inl a2), (3, .inl x4), (4, .inl x6), (5, .inl x7)] [] s5 := by
      intro n28
      induction n28 with
      | zero => intro s5 x6 x7 hf; exact am_no (show none = some _ from hf)
      | succ n28 ih28 =>
        intro s5 x6 x7 hf
        obtain ⟨g8, hf⟩ := am_g_of hf
        refine am_blk hX 17 8 (And.intro rfl (And.intro rfl (And.intro g8 (And.intro (fun hb => ?_) (fun hb => ?_)))))
        · have hf := am_it hf hb
          show X 108 [(0, .inr (.inr ((10, 0, 0), 215))), (1, .inl a1), (2, .inl a2), (3, .inl x4), (4, .inl x6), (5, .inl x7)] [] s5
          refine am_blk hX 59 2 (am_ri hf)
        · have hf := am_if hf hb
          show X 41 [(0, .inr (.inr ((10, 0, 0), 215))), (1, .inl a1), (2, .inl a2), (3, .inl x4), (4, .inl x6), (5, .inl x7)] [] s5
          refine am_jn hf (fun J102 => ∀ (s9 : AS) (x10 : Int32), J102 s9 x10 = some (sE, rE) → X 102 [(0, .inr (.inr ((10, 0, 0), 215))), (1, .inl a1), (2, .inl a2), (3, .inl x4), (4, .inl x10), (5, .inl x7)] [] s9) ?_ ?_
          · intro s9 x10 hf
            refine am_blk hX 57 1 (am_nl (Z := fun x11 => X 105 [(5, .inl x11), (0, .inr (.inr ((10, 0, 0), 215))), (1, .inl a1), (2, .inl a2), (3, .inl x4), (4, .inl x10)] [] s9) hf (fun x11 hf => ?_))
            refine am_blk hX 58 1 (?_)
            show X 28 [(5, .inl x11), (0, .inr (.inr ((10, 0, 0), 215))), (1, .inl a1), (2, .inl a2), (3, .inl x4), (4, .inl x10)] [] s9
            exact am_wk hX [1, 2, 3, 4, 5, 0] (ih28 s9 x10 x11 hf)
          · intro J102 hJ102 hf
            refine am_blk hX 25 4 (And.intro (fun hb => ?_) (fun hb => ?_))
            · have hf := am_if hf hb
              show X 102 [(0, .inr (.inr ((10, 0, 0), 215))), (1, .inl a1), (2, .inl a2), (3, .inl x4), (4, .inl x6), (5, .inl x7)] [] s5
              exact am_wk hX [0, 1, 2, 3, 4, 5] (hJ102 s5 x6 hf)
            · have hf := am_it hf hb
              show X 48 [(0, .inr (.inr ((10, 0, 0), 215))), (1, .inl a1), (2, .inl a2), (3, .inl x4), (4, .inl x6), (5, .inl x7)] [] s5
              refine am_jn hf (fun J67 => J67 = some (sE, rE) → X 67 [(0, .inr (.inr ((10, 0, 0), 215))), (1, .inl a1), (2, .inl a2), (3, .inl x4), (4, .inl x6), (5, .inl x7)] [] s5) ?_ ?_
              · intro hf
                refine am_blk hX 37 5 (And.intro rfl (am_nl (Z := fun s12 => X 75 [(0, .inr (.inr ((10, 0, 0), 215))), (1, .inl a1), (2, .inl a2), (3, .inl x4), (4, .inl x6), (5, .inl x7)] [] s12) hf (fun s12 hf => ?_)))
                obtain ⟨s14, v13, hcv13, hf⟩ := am_c_of hf
                obtain ⟨g15, hf⟩ := am_g_of hf
                refine am_blk hX 42 12 (And.intro rfl (And.intro rfl (Exists.intro s14 (Exists.intro none (And.intro (tX9_laysWays l (d + 1) hcv13) (And.intro rfl (And.intro rfl (And.intro g15 (And.intro (fun hb => ?_) (fun hb => ?_))))))))))
                · have hf := am_it hf hb
                  show X 102 [(0, .inr (.inr ((10, 0, 0), 215))), (1, .inl a1), (2, .inl a2), (3, .inl x4), (4, .inl x6), (5, .inl x7)] [] s14
                  exact am_wk hX [0, 1, 2, 3, 4, 5] (hJ102 s14 x6 hf)
                · have hf := am_if hf hb
                  show X 95 [(0, .inr (.inr ((10, 0, 0), 215))), (1, .inl a1), (2, .inl a2), (3, .inl x4), (4, .inl x6), (5, .inl x7)] [] s14
                  obtain ⟨v16, hcv16, hf⟩ := am_r_of hf
                  refine am_blk hX 54 3 (And.intro rfl (Exists.intro s14 (Exists.intro (some (.inl v16)) (And.intro (tX9_sizeOf l (d + 2) hcv16) (?_)))))
                  show X 102 [(4, .inl v16), (0, .inr (.inr ((10, 0, 0), 215))), (1, .inl a1), (2, .inl a2), (3, .inl x4), (5, .inl x7)] [] s14
                  exact am_wk hX [1, 2, 3, 4, 0, 5] (hJ102 s14 v16 hf)
              · intro J67 hJ67 hf
                refine am_blk hX 29 3 (And.intro (fun hb => ?_) (fun hb => ?_))
                · have hf := am_it hf hb
                  show X 67 [(0, .inr (.inr ((10, 0, 0), 215))), (1, .inl a1), (2, .inl a2), (3, .inl x4), (4, .inl x6), (5, .inl x7)] [] s5
                  exact am_wk hX [0, 1, 2, 3, 4, 5] (hJ67 hf)
                · have hf := am_if hf hb
                  show X 54 [(0, .inr (.inr ((10, 0, 0), 215))), (1, .inl a1), (2, .inl a2), (3, .inl x4), (4, .inl x6), (5, .inl x7)] [] s5
                  obtain ⟨v17, hcv17, hf⟩ := am_r_of hf
                  refine am_blk hX 32 4 (And.intro rfl (Exists.intro s5 (Exists.intro (some (.inl v17)) (And.intro (tX9_sizeOf l (d + 2) hcv17) (And.intro (fun hb => ?_) (fun hb => ?_))))))
                  · have hf := am_it hf hb
                    show X 67 [(0, .inr (.inr ((10, 0, 0), 215))), (1, .inl a1), (2, .inl a2), (3, .inl x4), (4, .inl x6), (5, .inl x7)] [] s5
                    exact am_wk hX [0, 1, 2, 3, 4, 5] (hJ67 hf)
                  · have hf := am_if hf hb
                    show X 64 [(0, .inr (.inr ((10, 0, 0), 215))), (1, .inl a1), (2, .inl a2), (3, .inl x4), (4, .inl x6), (5, .inl x7)] [] s5
                    refine am_blk hX 36 1 (?_)
                    show X 102 [(0, .inr (.inr ((10, 0, 0), 215))), (1, .inl a1), (2, .inl a2), (3, .inl x4), (4, .inl x6), (5, .inl x7)] [] s5
                    exact am_wk hX [0, 1, 2, 3, 4, 5] (hJ102 s5 x6 hf)
    refine am_blk hX 13 4 (?_)
    show X 28 [(5, .inl (0 : Int32)), (4, .inl (-1 : Int32)), (3, .inl x4), (0, .inr (.inr ((10, 0, 0), 215))), (1, .inl a1), (2, .inl a2)] [] s3
    exact am_wk hX [3, 4, 5, 2, 1, 0] (hL28 am_fu s3 (-1 : Int32) (0 : Int32) hf)
  · have hf := am_it hf hb
    show X 14 [(0, .inr (.inr ((10, 0, 0), 215))), (1, .inl a1), (2, .inl a2)] [] s3
    refine am_blk hX 8 2 (am_ri hf)
def fX9_isSeed (s0 : AS) (a1 : Int32) : Option Int32 :=
  am_r (fX9_isMarch s0) (fun (v1 : Int32) => am_let (fun (x2 : Int32) => am_g (x2 = 0 ∨ x2 = 1) (some x2)) (fun J24 => am_let (J24 (0 : Int32)) (fun J23 => if v1 = 0 then (J23) else (am_r (fX9_in a1.toInt64 (0 : Int64) (2000000000 : Int64)) (fun (v4 : Int32) => if v4 = 0 then (J23) else (J24 (1 : Int32)))))))
def kX9_isSeed : List (Nat × Instr × Nat) := [(0, .aload_n 0, 1), (1, .invokevirtual 251, 3), (4, .ifCond .eq 19, 3), (7, .iload_n 1, 1), (8, .i2l, 1), (9, .lconst 0, 1), (10, .ldc2_w 440, 3), (13, .invokestatic 85, 3), (16, .ifCond .eq 7, 3), (19, .iconst 1, 1), (20, .goto 4, 3), (23, .iconst 0, 1), (24, .ireturn, 1)]
theorem qX9_isSeed : ∀ q ∈ kX9_isSeed, decode mX9_isSeed.2.2.1 q.1 = .ok (q.2.1, q.2.2) ∧ am_iok mX9_isSeed.2.2.2.1 q.1 q.2.1 q.2.2 = true := by decide +kernel
set_option maxRecDepth 100000 in
theorem wX9_isSeed : Cond.code mX9_isSeed.2.1 mX9_isSeed.2.2.1 mX9_isSeed.2.2.2.1 mX9_isSeed.2.2.2.2.1 ∈ am_T := List.mem_filter.mpr ⟨List.mem_of_getElem? (i := 1956) rfl, rfl⟩
set_option maxHeartbeats 4000000 in
set_option maxRecDepth 100000 in
theorem tX9_isSeed (l : Launch) (d : Nat) {s0 : AS} {a1 : Int32} {rE : Int32} (hf : fX9_isSeed s0 a1 = some rE) : am_Ct l (d + 2) mX9_isSeed [.inr (.inr ((10, 0, 0), 215)), .inl a1] s0 s0 (some (.inl rE)) := by
  refine am_sim l (d + 1) (code := kX9_isSeed) (by decide +kernel) wX9_isSeed qX9_isSeed (Nat.le_of_ble_eq_true rfl) ?_
  intro X hX
  show X 0 [(0, .inr (.inr ((10, 0, 0), 215))), (1, .inl a1)] [] s0
  unfold fX9_isSeed at hf
  obtain ⟨v1, hcv1, hf⟩ := am_r_of hf
  refine am_jn hf (fun J24 => ∀ (x2 : Int32), J24 x2 = some rE → X 24 [] [.inl x2] s0) ?_ ?_
  · intro x2 hf
    obtain ⟨g3, hf⟩ := am_g_of hf
    refine am_blk hX 12 1 (And.intro g3 (am_rpi hf))
  · intro J24 hJ24 hf
    refine am_jn hf (fun J23 => J23 = some rE → X 23 [] [] s0) ?_ ?_
    · intro hf
      refine am_blk hX 11 1 (?_)
      show X 24 [] [.inl (0 : Int32)] s0
      exact am_wk hX [] (hJ24 (0 : Int32) hf)
    · intro J23 hJ23 hf
      refine am_blk hX 0 3 (And.intro rfl (And.intro rfl (Exists.intro s0 (Exists.intro (some (.inl v1)) (And.intro (tX9_isMarch l (d + 0) hcv1) (And.intro (fun hb => ?_) (fun hb => ?_)))))))
      · have hf := am_it hf hb
        show X 23 [(0, .inr (.inr ((10, 0, 0), 215))), (1, .inl a1)] [] s0
        exact am_wk hX [] (hJ23 hf)
      · have hf := am_if hf hb
        show X 7 [(0, .inr (.inr ((10, 0, 0), 215))), (1, .inl a1)] [] s0
        obtain ⟨v4, hcv4, hf⟩ := am_r_of hf
        refine am_blk hX 3 6 (And.intro rfl (Exists.intro s0 (Exists.intro (some (.inl v4)) (And.intro (tX9_in l (d + 0) hcv4) (And.intro (fun hb => ?_) (fun hb => ?_))))))
        · have hf := am_it hf hb
          show X 23 [(0, .inr (.inr ((10, 0, 0), 215))), (1, .inl a1)] [] s0
          exact am_wk hX [] (hJ23 hf)
        · have hf := am_if hf hb
          show X 19 [(0, .inr (.inr ((10, 0, 0), 215))), (1, .inl a1)] [] s0
          refine am_blk hX 9 2 (?_)
          show X 24 [(0, .inr (.inr ((10, 0, 0), 215))), (1, .inl a1)] [.inl (1 : Int32)] s0
          exact am_wk hX [] (hJ24 (1 : Int32) hf)
def fX9_draws_L9 : Nat → AS → Int64 → Int32 → Option (AS × Unit)
  | 0, _, _, _ => none
  | n9 + 1, s3, x4, x5 =>
    if (60 : Int32) < x5 then (am_c (fX9_runs s3) (fun (s7 : AS) (v6 : Unit) => some (s7, ()))) else (am_g (¬ (2147483648 : Int64) = 0) (am_let ((((1103515245 : Int64) * x4) + (12345 : Int64)) - (((1103515245 : Int64) * x4) + (12345 : Int64)) / (2147483648 : Int64) * (2147483648 : Int64)) (fun (x9 : Int64) => am_g (¬ (65536 : Int64) = 0) (am_g (¬ (10 : Int64) = 0) (am_g (¬ ((3 : Int32) < 0 ∨ 35 ≤ (3 : Int32).toNatClampNeg)) (am_let (fun (s13 : AS) => am_let (x5 + (1 : Int32)) (fun (x14 : Int32) => fX9_draws_L9 n9 s13 x9 x14)) (fun J63 => if 0 ≤ (lg_cmp ((x9 / (65536 : Int64)) - (x9 / (65536 : Int64)) / (10 : Int64) * (10 : Int64)) ((s3.1 222 ((3 : Int32).toNatClampNeg)).toInt64)) then (J63 s3) else (am_let (am_sj s3 215 33 ((s3.2 215 33) ||| ((1 : Int64) <<< (x5.toInt64 &&& 63)))) (fun (s15 : AS) => J63 s15)))))))))
def fX9_draws (s0 : AS) (a1 : Int64) : Option (AS × Unit) :=
  am_c (fX9_lays s0) (fun (s2 : AS) (v1 : Unit) => fX9_draws_L9 am_fu s2 a1 (0 : Int32))
def kX9_draws : List (Nat × Instr × Nat) := [(0, .aload_n 0, 1), (1, .invokevirtual 336, 3), (4, .lload_n 1, 1), (5, .lstore_n 3, 1), (6, .iconst 0, 1), (7, .istore 5, 2), (9, .iload 5, 2), (11, .bipush 60, 2), (13, .if_icmp .gt 56, 3), (16, .ldc2_w 432, 3), (19, .lload_n 3, 1), (20, .lmul, 1), (21, .ldc2_w 434, 3), (24, .ladd, 1), (25, .ldc2_w 436, 3), (28, .lrem, 1), (29, .lstore_n 3, 1), (30, .lload_n 3, 1), (31, .ldc2_w 438, 3), (34, .ldiv, 1), (35, .ldc2_w 408, 3), (38, .lrem, 1), (39, .aload_n 0, 1), (40, .getfield 34, 3), (43, .iconst 3, 1), (44, .iaload, 1), (45, .i2l, 1), (46, .lcmp, 1), (47, .ifCond .ge 16, 3), (50, .aload_n 0, 1), (51, .dup, 1), (52, .getfield 277, 3), (55, .lconst 1, 1), (56, .iload 5, 2), (58, .lshl, 1), (59, .lor, 1), (60, .putfield 277, 3), (63, .iinc 5 1, 3), (66, .goto (-57), 3), (69, .aload_n 0, 1), (70, .invokevirtual 339, 3), (73, .return_, 1)]
theorem qX9_draws : ∀ q ∈ kX9_draws, decode mX9_draws.2.2.1 q.1 = .ok (q.2.1, q.2.2) ∧ am_iok mX9_draws.2.2.2.1 q.1 q.2.1 q.2.2 = true := by decide +kernel
set_option maxRecDepth 100000 in
theorem wX9_draws : Cond.code mX9_draws.2.1 mX9_draws.2.2.1 mX9_draws.2.2.2.1 mX9_draws.2.2.2.2.1 ∈ am_T := List.mem_filter.mpr ⟨List.mem_of_getElem? (i := 1961) rfl, rfl⟩
set_option maxHeartbeats 4000000 in
set_option maxRecDepth 100000 in
theorem tX9_draws (l : Launch) (d : Nat) {s0 : AS} {a1 : Int64} {sE : AS} {rE : Unit} (hf : fX9_draws s0 a1 = some (sE, rE)) : am_Ct l (d + 5) mX9_draws [.inr (.inr ((10, 0, 0), 215)), .inr (.inl a1)] s0 sE none := by
  refine am_sim l (d + 4) (code := kX9_draws) (by decide +kernel) wX9_draws qX9_draws (Nat.le_of_ble_eq_true rfl) ?_
  intro X hX
  show X 0 [(0, .inr (.inr ((10, 0, 0), 215))), (1, .inr (.inl a1))] [] s0
  unfold fX9_draws at hf
  obtain ⟨s2, v1, hcv1, hf⟩ := am_c_of hf
  have hL9 : ∀ (n9 : Nat) (s3 : AS) (x4 : Int64) (x5 : Int32), fX9_draws_L9 n9 s3 x4 x5 = some (sE, rE) → X 9 [(0, .inr (.inr ((10, 0, 0), 215))), (3, .inr (.inl x4)), (5, .inl x5)] [] s3 := by
    intro n9
    induction n9 with
    | zero => intro s3 x4 x5 hf; exact am_no (show none = some _ from hf)
    | succ n9 ih9 =>
      intro s3 x4 x5 hf
      refine am_blk hX 6 3 (And.intro (fun hb => ?_) (fun hb => ?_))
      · have hf := am_it hf hb
        show X 69 [(0, .inr (.inr ((10, 0, 0), 215))), (3, .inr (.inl x4)), (5, .inl x5)] [] s3
        obtain ⟨s7, v6, hcv6, hf⟩ := am_c_of hf
        refine am_blk hX 39 3 (And.intro rfl (And.intro rfl (Exists.intro s7 (Exists.intro none (And.intro (tX9_runs l (d + 0) hcv6) (And.intro rfl (am_rv hf)))))))
      · have hf := am_if hf hb
        show X 16 [(0, .inr (.inr ((10, 0, 0), 215))), (3, .inr (.inl x4)), (5, .inl x5)] [] s3
        obtain ⟨g8, hf⟩ := am_g_of hf
        refine am_blk hX 9 8 (And.intro g8 (am_nl (Z := fun x9 => X 30 [(3, .inr (.inl x9)), (0, .inr (.inr ((10, 0, 0), 215))), (5, .inl x5)] [] s3) hf (fun x9 hf => ?_)))
        obtain ⟨g10, hf⟩ := am_g_of hf
        obtain ⟨g11, hf⟩ := am_g_of hf
        obtain ⟨g12, hf⟩ := am_g_of hf
        refine am_jn hf (fun J63 => ∀ (s13 : AS), J63 s13 = some (sE, rE) → X 63 [(0, .inr (.inr ((10, 0, 0), 215))), (3, .inr (.inl x9)), (5, .inl x5)] [] s13) ?_ ?_
        · intro s13 hf
          refine am_blk hX 37 1 (am_nl (Z := fun x14 => X 66 [(5, .inl x14), (0, .inr (.inr ((10, 0, 0), 215))), (3, .inr (.inl x9))] [] s13) hf (fun x14 hf => ?_))
          refine am_blk hX 38 1 (?_)
          show X 9 [(5, .inl x14), (0, .inr (.inr ((10, 0, 0), 215))), (3, .inr (.inl x9))] [] s13
          exact am_wk hX [1, 2, 0] (ih9 s13 x9 x14 hf)
        · intro J63 hJ63 hf
          refine am_blk hX 17 12 (And.intro g10 (And.intro g11 (And.intro rfl (And.intro rfl (And.intro g12 (And.intro (fun hb => ?_) (fun hb => ?_)))))))
          · have hf := am_it hf hb
            show X 63 [(3, .inr (.inl x9)), (0, .inr (.inr ((10, 0, 0), 215))), (5, .inl x5)] [] s3
            exact am_wk hX [1, 0, 2] (hJ63 s3 hf)
          · have hf := am_if hf hb
            show X 50 [(3, .inr (.inl x9)), (0, .inr (.inr ((10, 0, 0), 215))), (5, .inl x5)] [] s3
            refine am_blk hX 29 8 (And.intro rfl (And.intro rfl (am_nl (Z := fun s15 => X 63 [(3, .inr (.inl x9)), (0, .inr (.inr ((10, 0, 0), 215))), (5, .inl x5)] [] s15) hf (fun s15 hf => ?_))))
            exact am_wk hX [1, 0, 2] (hJ63 s15 hf)
  refine am_blk hX 0 6 (And.intro rfl (And.intro rfl (Exists.intro s2 (Exists.intro none (And.intro (tX9_lays l (d + 3) hcv1) (?_))))))
  show X 9 [(5, .inl (0 : Int32)), (3, .inr (.inl a1)), (0, .inr (.inr ((10, 0, 0), 215))), (1, .inr (.inl a1))] [] s2
  exact am_wk hX [2, 1, 0] (hL9 am_fu s2 a1 (0 : Int32) hf)
def fX9_drawn_L96 (s5 : AS) (J136 : Int32 → Option (AS × Int32)) : Nat → Int32 → Int32 → Option (AS × Int32)
  | 0, _, _ => none
  | n96 + 1, x7, x8 =>
    if (60 : Int32) < x8 then (J136 x7) else (am_g (¬ (x8 < 0 ∨ 61 ≤ x8.toNatClampNeg)) (am_let (fun (x10 : Int32) => am_let (x7 ||| x10) (fun (x11 : Int32) => am_let (x8 + (1 : Int32)) (fun (x12 : Int32) => fX9_drawn_L96 s5 J136 n96 x11 x12))) (fun J128 => if (s5.1 229 x8.toNatClampNeg) = (-1 : Int32) then (J128 (0 : Int32)) else (am_g (¬ (x8 < 0 ∨ 61 ≤ x8.toNatClampNeg)) (J128 ((1 : Int32) <<< ((s5.1 229 x8.toNatClampNeg) &&& 31)))))))
def fX9_drawn_L53 (s5 : AS) (J90 : Int32 → Option (AS × Int32)) : Nat → Int32 → Int32 → Option (AS × Int32)
  | 0, _, _ => none
  | n53 + 1, x15, x16 =>
    am_r (fX9_people s5) (fun (v17 : Int32) => if v17 ≤ x16 then (J90 x15) else (am_g (¬ (x16 < 0 ∨ 8 ≤ x16.toNatClampNeg)) (am_let (fun (x19 : Int32) => am_let (x15 ||| x19) (fun (x20 : Int32) => am_let (x16 + (1 : Int32)) (fun (x21 : Int32) => fX9_drawn_L53 s5 J90 n53 x20 x21))) (fun J82 => if (s5.1 233 x16.toNatClampNeg) = (-1 : Int32) then (J82 (0 : Int32)) else (J82 ((1 : Int32) <<< (x16 &&& 31)))))))
def fX9_drawn (s0 : AS) (a1 : Int32) (a2 : Int32) : Option (AS × Int32) :=
  am_let (am_si s0 215 0 (0 : Int32)) (fun (s1 : AS) => am_r (fX9_isSeed s1 a1) (fun (v2 : Int32) => am_let (some (s1, (-2 : Int32))) (fun J25 => if v2 = 0 then (J25) else (am_r (fX9_in a2.toInt64 (0 : Int64) (2 : Int64)) (fun (v3 : Int32) => if v3 = 0 then (J25) else (am_c (fX9_draws s1 a1.toInt64) (fun (s5 : AS) (v4 : Unit) => if a2 = 0 then (some (s5, s5.1 215 45)) else (am_let (fun (x6 : Int32) => some (s5, x6)) (fun J136 => if a2 = (1 : Int32) then (am_let (fun (x14 : Int32) => J136 x14) (fun J90 => fX9_drawn_L53 s5 J90 am_fu (0 : Int32) (0 : Int32))) else (fX9_drawn_L96 s5 J136 am_fu (0 : Int32) (0 : Int32)))))))))))
def kX9_drawn : List (Nat × Instr × Nat) := [(0, .aload_n 0, 1), (1, .iconst 0, 1), (2, .putfield 80, 3), (5, .aload_n 0, 1), (6, .iload_n 1, 1), (7, .invokevirtual 442, 3), (10, .ifCond .eq 15, 3), (13, .iload_n 2, 1), (14, .i2l, 1), (15, .lconst 0, 1), (16, .ldc2_w 342, 3), (19, .invokestatic 85, 3), (22, .ifCond .ne 6, 3), (25, .bipush (-2), 2), (27, .ireturn, 1), (28, .aload_n 0, 1), (29, .iload_n 1, 1), (30, .i2l, 1), (31, .invokevirtual 445, 3), (34, .iload_n 2, 1), (35, .ifCond .ne 8, 3), (38, .aload_n 0, 1), (39, .getfield 309, 3), (42, .ireturn, 1), (43, .iconst 0, 1), (44, .istore_n 3, 1), (45, .iload_n 2, 1), (46, .iconst 1, 1), (47, .if_icmp .ne 46, 3), (50, .iconst 0, 1), (51, .istore 4, 2), (53, .iload 4, 2), (55, .aload_n 0, 1), (56, .invokevirtual 248, 3), (59, .if_icmp .ge 31, 3), (62, .iload_n 3, 1), (63, .aload_n 0, 1), (64, .getfield 68, 3), (67, .iload 4, 2), (69, .iaload, 1), (70, .iconst (-1), 1), (71, .if_icmp .eq 10, 3), (74, .iconst 1, 1), (75, .iload 4, 2), (77, .ishl, 1), (78, .goto 4, 3), (81, .iconst 0, 1), (82, .ior, 1), (83, .istore_n 3, 1), (84, .iinc 4 1, 3), (87, .goto (-34), 3), (90, .goto 46, 3), (93, .iconst 0, 1), (94, .istore 4, 2), (96, .iload 4, 2), (98, .bipush 60, 2), (100, .if_icmp .gt 36, 3), (103, .iload_n 3, 1), (104, .aload_n 0, 1), (105, .getfield 56, 3), (108, .iload 4, 2), (110, .iaload, 1), (111, .iconst (-1), 1), (112, .if_icmp .eq 15, 3), (115, .iconst 1, 1), (116, .aload_n 0, 1), (117, .getfield 56, 3), (120, .iload 4, 2), (122, .iaload, 1), (123, .ishl, 1), (124, .goto 4, 3), (127, .iconst 0, 1), (128, .ior, 1), (129, .istore_n 3, 1), (130, .iinc 4 1, 3), (133, .goto (-37), 3), (136, .iload_n 3, 1), (137, .ireturn, 1)]
theorem qX9_drawn : ∀ q ∈ kX9_drawn, decode mX9_drawn.2.2.1 q.1 = .ok (q.2.1, q.2.2) ∧ am_iok mX9_drawn.2.2.2.1 q.1 q.2.1 q.2.2 = true := by decide +kernel
set_option maxRecDepth 100000 in
theorem wX9_drawn : Cond.code mX9_drawn.2.1 mX9_drawn.2.2.1 mX9_drawn.2.2.2.1 mX9_drawn.2.2.2.2.1 ∈ am_T := List.mem_filter.mpr ⟨List.mem_of_getElem? (i := 1952) rfl, rfl⟩
set_option maxHeartbeats 4000000 in
set_option maxRecDepth 100000 in
theorem tX9_drawn (l : Launch) (d : Nat) {s0 : AS} {a1 : Int32} {a2 : Int32} {sE : AS} {rE : Int32} (hf : fX9_drawn s0 a1 a2 = some (sE, rE)) : am_Ct l (d + 6) mX9_drawn [.inr (.inr ((10, 0, 0), 215)), .inl a1, .inl a2] s0 sE (some (.inl rE)) := by
  refine am_sim l (d + 5) (code := kX9_drawn) (by decide +kernel) wX9_drawn qX9_drawn (Nat.le_of_ble_eq_true rfl) ?_
  intro X hX
  show X 0 [(0, .inr (.inr ((10, 0, 0), 215))), (1, .inl a1), (2, .inl a2)] [] s0
  unfold fX9_drawn at hf
  refine am_blk hX 0 3 (And.intro rfl (am_nl (Z := fun s1 => X 5 [(0, .inr (.inr ((10, 0, 0), 215))), (1, .inl a1), (2, .inl a2)] [] s1) hf (fun s1 hf => ?_)))
  obtain ⟨v2, hcv2, hf⟩ := am_r_of hf
  refine am_jn hf (fun J25 => J25 = some (sE, rE) → X 25 [] [] s1) ?_ ?_
  · intro hf
    refine am_blk hX 13 2 (am_ri hf)
  · intro J25 hJ25 hf
    refine am_blk hX 3 4 (And.intro rfl (And.intro rfl (Exists.intro s1 (Exists.intro (some (.inl v2)) (And.intro (tX9_isSeed l (d + 3) hcv2) (And.intro (fun hb => ?_) (fun hb => ?_)))))))
    · have hf := am_it hf hb
      show X 25 [(0, .inr (.inr ((10, 0, 0), 215))), (1, .inl a1), (2, .inl a2)] [] s1
      exact am_wk hX [] (hJ25 hf)
    · have hf := am_if hf hb
      show X 13 [(0, .inr (.inr ((10, 0, 0), 215))), (1, .inl a1), (2, .inl a2)] [] s1
      obtain ⟨v3, hcv3, hf⟩ := am_r_of hf
      refine am_blk hX 7 6 (And.intro rfl (Exists.intro s1 (Exists.intro (some (.inl v3)) (And.intro (tX9_in l (d + 4) hcv3) (And.intro (fun hb => ?_) (fun hb => ?_))))))
      · have hf := am_if hf hb
        show X 28 [(0, .inr (.inr ((10, 0, 0), 215))), (1, .inl a1), (2, .inl a2)] [] s1
        obtain ⟨s5, v4, hcv4, hf⟩ := am_c_of hf
        refine am_blk hX 15 6 (And.intro rfl (And.intro rfl (Exists.intro s5 (Exists.intro none (And.intro (tX9_draws l (d + 0) hcv4) (And.intro (fun hb => ?_) (fun hb => ?_)))))))
        · have hf := am_if hf hb
          show X 43 [(0, .inr (.inr ((10, 0, 0), 215))), (1, .inl a1), (2, .inl a2)] [] s5
          refine am_jn hf (fun J136 => ∀ (x6 : Int32), J136 x6 = some (sE, rE) → X 136 [(3, .inl x6)] [] s5) ?_ ?_
          · intro x6 hf
            refine am_blk hX 76 2 (am_ri hf)
          · intro J136 hJ136 hf
            refine am_blk hX 24 5 (And.intro (fun hb => ?_) (fun hb => ?_))
            · have hf := am_if hf hb
              show X 93 [(3, .inl (0 : Int32)), (0, .inr (.inr ((10, 0, 0), 215))), (1, .inl a1), (2, .inl a2)] [] s5
              have hL96 : ∀ (n96 : Nat) (x7 : Int32) (x8 : Int32), fX9_drawn_L96 s5 J136 n96 x7 x8 = some (sE, rE) → X 96 [(0, .inr (.inr ((10, 0, 0), 215))), (3, .inl x7), (4, .inl x8)] [] s5 := by
                intro n96
                induction n96 with
                | zero => intro x7 x8 hf; exact am_no (show none = some _ from hf)
                | succ n96 ih96 =>
                  intro x7 x8 hf
                  refine am_blk hX 54 3 (And.intro (fun hb => ?_) (fun hb => ?_))
                  · have hf := am_it hf hb
                    show X 136 [(0, .inr (.inr ((10, 0, 0), 215))), (3, .inl x7), (4, .inl x8)] [] s5
                    exact am_wk hX [1] (hJ136 x7 hf)
                  · have hf := am_if hf hb
                    show X 103 [(0, .inr (.inr ((10, 0, 0), 215))), (3, .inl x7), (4, .inl x8)] [] s5
                    obtain ⟨g9, hf⟩ := am_g_of hf
                    refine am_jn hf (fun J128 => ∀ (x10 : Int32), J128 x10 = some (sE, rE) → X 128 [(0, .inr (.inr ((10, 0, 0), 215))), (4, .inl x8)] [.inl x10, .inl x7] s5) ?_ ?_
                    · intro x10 hf
                      refine am_blk hX 72 2 (am_nl (Z := fun x11 => X 130 [(3, .inl x11), (0, .inr (.inr ((10, 0, 0), 215))), (4, .inl x8)] [] s5) hf (fun x11 hf => ?_))
                      refine am_blk hX 74 1 (am_nl (Z := fun x12 => X 133 [(4, .inl x12), (3, .inl x11), (0, .inr (.inr ((10, 0, 0), 215)))] [] s5) hf (fun x12 hf => ?_))
                      refine am_blk hX 75 1 (?_)
                      show X 96 [(4, .inl x12), (3, .inl x11), (0, .inr (.inr ((10, 0, 0), 215)))] [] s5
                      exact am_wk hX [2, 1, 0] (ih96 x11 x12 hf)
                    · intro J128 hJ128 hf
                      refine am_blk hX 57 7 (And.intro rfl (And.intro rfl (And.intro g9 (And.intro (fun hb => ?_) (fun hb => ?_)))))
                      · have hf := am_it hf hb
                        show X 127 [(0, .inr (.inr ((10, 0, 0), 215))), (3, .inl x7), (4, .inl x8)] [.inl x7] s5
                        refine am_blk hX 71 1 (?_)
                        show X 128 [(0, .inr (.inr ((10, 0, 0), 215))), (3, .inl x7), (4, .inl x8)] [.inl (0 : Int32), .inl x7] s5
                        exact am_wk hX [0, 2] (hJ128 (0 : Int32) hf)
                      · have hf := am_if hf hb
                        show X 115 [(0, .inr (.inr ((10, 0, 0), 215))), (3, .inl x7), (4, .inl x8)] [.inl x7] s5
                        obtain ⟨g13, hf⟩ := am_g_of hf
                        refine am_blk hX 64 7 (And.intro rfl (And.intro rfl (And.intro g13 (?_))))
                        show X 128 [(0, .inr (.inr ((10, 0, 0), 215))), (3, .inl x7), (4, .inl x8)] [.inl ((1 : Int32) <<< ((s5.1 229 x8.toNatClampNeg) &&& 31)), .inl x7] s5
                        exact am_wk hX [0, 2] (hJ128 ((1 : Int32) <<< ((s5.1 229 x8.toNatClampNeg) &&& 31)) hf)
              refine am_blk hX 52 2 (?_)
              show X 96 [(4, .inl (0 : Int32)), (3, .inl (0 : Int32)), (0, .inr (.inr ((10, 0, 0), 215))), (1, .inl a1), (2, .inl a2)] [] s5
              exact am_wk hX [2, 1, 0] (hL96 am_fu (0 : Int32) (0 : Int32) hf)
            · have hf := am_it hf hb
              show X 50 [(3, .inl (0 : Int32)), (0, .inr (.inr ((10, 0, 0), 215))), (1, .inl a1), (2, .inl a2)] [] s5
              refine am_jn hf (fun J90 => ∀ (x14 : Int32), J90 x14 = some (sE, rE) → X 90 [(3, .inl x14)] [] s5) ?_ ?_
              · intro x14 hf
                refine am_blk hX 51 1 (?_)
                show X 136 [(3, .inl x14)] [] s5
                exact am_wk hX [0] (hJ136 x14 hf)
              · intro J90 hJ90 hf
                have hL53 : ∀ (n53 : Nat) (x15 : Int32) (x16 : Int32), fX9_drawn_L53 s5 J90 n53 x15 x16 = some (sE, rE) → X 53 [(0, .inr (.inr ((10, 0, 0), 215))), (3, .inl x15), (4, .inl x16)] [] s5 := by
                  intro n53
                  induction n53 with
                  | zero => intro x15 x16 hf; exact am_no (show none = some _ from hf)
                  | succ n53 ih53 =>
                    intro x15 x16 hf
                    obtain ⟨v17, hcv17, hf⟩ := am_r_of hf
                    refine am_blk hX 31 4 (And.intro rfl (And.intro rfl (Exists.intro s5 (Exists.intro (some (.inl v17)) (And.intro (tX9_people l (d + 4) hcv17) (And.intro (fun hb => ?_) (fun hb => ?_)))))))
                    · have hf := am_it hf hb
                      show X 90 [(0, .inr (.inr ((10, 0, 0), 215))), (3, .inl x15), (4, .inl x16)] [] s5
                      exact am_wk hX [1] (hJ90 x15 hf)
                    · have hf := am_if hf hb
                      show X 62 [(0, .inr (.inr ((10, 0, 0), 215))), (3, .inl x15), (4, .inl x16)] [] s5
                      obtain ⟨g18, hf⟩ := am_g_of hf
                      refine am_jn hf (fun J82 => ∀ (x19 : Int32), J82 x19 = some (sE, rE) → X 82 [(0, .inr (.inr ((10, 0, 0), 215))), (4, .inl x16)] [.inl x19, .inl x15] s5) ?_ ?_
                      · intro x19 hf
                        refine am_blk hX 47 2 (am_nl (Z := fun x20 => X 84 [(3, .inl x20), (0, .inr (.inr ((10, 0, 0), 215))), (4, .inl x16)] [] s5) hf (fun x20 hf => ?_))
                        refine am_blk hX 49 1 (am_nl (Z := fun x21 => X 87 [(4, .inl x21), (3, .inl x20), (0, .inr (.inr ((10, 0, 0), 215)))] [] s5) hf (fun x21 hf => ?_))
                        refine am_blk hX 50 1 (?_)
                        show X 53 [(4, .inl x21), (3, .inl x20), (0, .inr (.inr ((10, 0, 0), 215)))] [] s5
                        exact am_wk hX [2, 1, 0] (ih53 x20 x21 hf)
                      · intro J82 hJ82 hf
                        refine am_blk hX 35 7 (And.intro rfl (And.intro rfl (And.intro g18 (And.intro (fun hb => ?_) (fun hb => ?_)))))
                        · have hf := am_it hf hb
                          show X 81 [(0, .inr (.inr ((10, 0, 0), 215))), (3, .inl x15), (4, .inl x16)] [.inl x15] s5
                          refine am_blk hX 46 1 (?_)
                          show X 82 [(0, .inr (.inr ((10, 0, 0), 215))), (3, .inl x15), (4, .inl x16)] [.inl (0 : Int32), .inl x15] s5
                          exact am_wk hX [0, 2] (hJ82 (0 : Int32) hf)
                        · have hf := am_if hf hb
                          show X 74 [(0, .inr (.inr ((10, 0, 0), 215))), (3, .inl x15), (4, .inl x16)] [.inl x15] s5
                          refine am_blk hX 42 4 (?_)
                          show X 82 [(0, .inr (.inr ((10, 0, 0), 215))), (3, .inl x15), (4, .inl x16)] [.inl ((1 : Int32) <<< (x16 &&& 31)), .inl x15] s5
                          exact am_wk hX [0, 2] (hJ82 ((1 : Int32) <<< (x16 &&& 31)) hf)
                refine am_blk hX 29 2 (?_)
                show X 53 [(4, .inl (0 : Int32)), (3, .inl (0 : Int32)), (0, .inr (.inr ((10, 0, 0), 215))), (1, .inl a1), (2, .inl a2)] [] s5
                exact am_wk hX [2, 1, 0] (hL53 am_fu (0 : Int32) (0 : Int32) hf)
        · have hf := am_it hf hb
          show X 38 [(0, .inr (.inr ((10, 0, 0), 215))), (1, .inl a1), (2, .inl a2)] [] s5
          refine am_blk hX 21 3 (And.intro rfl (am_ri hf))
      · have hf := am_it hf hb
        show X 25 [(0, .inr (.inr ((10, 0, 0), 215))), (1, .inl a1), (2, .inl a2)] [] s1
        exact am_wk hX [] (hJ25 hf)
def fX9_eldest_L24 (a1 : Int32) (s4 : AS) : Nat → Int32 → Int32 → Option (AS × Int32)
  | 0, _, _ => none
  | n24 + 1, x5, x6 =>
    am_r (fX9_people s4) (fun (v7 : Int32) => if v7 ≤ x6 then (some (s4, x5)) else (am_g (¬ (a1 < 0 ∨ 61 ≤ a1.toNatClampNeg)) (am_r (fX9_isBit (s4.1 230 a1.toNatClampNeg) x6) (fun (v9 : Int32) => am_let (fun (x10 : Int32) => am_let (x6 + (1 : Int32)) (fun (x11 : Int32) => fX9_eldest_L24 a1 s4 n24 x10 x11)) (fun J67 => if v9 = 0 then (J67 x5) else (am_let (J67 x6) (fun J65 => if x5 = (-1 : Int32) then (J65) else (am_g (¬ (x6 < 0 ∨ 8 ≤ x6.toNatClampNeg)) (am_g (¬ (x5 < 0 ∨ 8 ≤ x5.toNatClampNeg)) (if (s4.1 235 x5.toNatClampNeg) ≤ (s4.1 235 x6.toNatClampNeg) then (J67 x5) else (J65)))))))))))
def fX9_eldest (s0 : AS) (a1 : Int32) : Option (AS × Int32) :=
  am_let (am_si s0 215 0 (0 : Int32)) (fun (s1 : AS) => am_r (fX9_isStep s1 a1) (fun (v2 : Int32) => if v2 = 0 then (some (s1, (-2 : Int32))) else (am_c (fX9_laysNow s1) (fun (s4 : AS) (v3 : Unit) => fX9_eldest_L24 a1 s4 am_fu (-1 : Int32) (0 : Int32)))))
def kX9_eldest : List (Nat × Instr × Nat) := [(0, .aload_n 0, 1), (1, .iconst 0, 1), (2, .putfield 80, 3), (5, .aload_n 0, 1), (6, .iload_n 1, 1), (7, .invokevirtual 355, 3), (10, .ifCond .ne 6, 3), (13, .bipush (-2), 2), (15, .ireturn, 1), (16, .aload_n 0, 1), (17, .invokevirtual 358, 3), (20, .iconst (-1), 1), (21, .istore_n 2, 1), (22, .iconst 0, 1), (23, .istore_n 3, 1), (24, .iload_n 3, 1), (25, .aload_n 0, 1), (26, .invokevirtual 248, 3), (29, .if_icmp .ge 44, 3), (32, .aload_n 0, 1), (33, .getfield 59, 3), (36, .iload_n 1, 1), (37, .iaload, 1), (38, .iload_n 3, 1), (39, .invokestatic 280, 3), (42, .ifCond .eq 25, 3), (45, .iload_n 2, 1), (46, .iconst (-1), 1), (47, .if_icmp .eq 18, 3), (50, .aload_n 0, 1), (51, .getfield 74, 3), (54, .iload_n 3, 1), (55, .iaload, 1), (56, .aload_n 0, 1), (57, .getfield 74, 3), (60, .iload_n 2, 1), (61, .iaload, 1), (62, .if_icmp .ge 5, 3), (65, .iload_n 3, 1), (66, .istore_n 2, 1), (67, .iinc 3 1, 3), (70, .goto (-46), 3), (73, .iload_n 2, 1), (74, .ireturn, 1)]
theorem qX9_eldest : ∀ q ∈ kX9_eldest, decode mX9_eldest.2.2.1 q.1 = .ok (q.2.1, q.2.2) ∧ am_iok mX9_eldest.2.2.2.1 q.1 q.2.1 q.2.2 = true := by decide +kernel
set_option maxRecDepth 100000 in
theorem wX9_eldest : Cond.code mX9_eldest.2.1 mX9_eldest.2.2.1 mX9_eldest.2.2.2.1 mX9_eldest.2.2.2.2.1 ∈ am_T := List.mem_filter.mpr ⟨List.mem_of_getElem? (i := 1806) rfl, rfl⟩
set_option maxHeartbeats 4000000 in
set_option maxRecDepth 100000 in
theorem tX9_eldest (l : Launch) (d : Nat) {s0 : AS} {a1 : Int32} {sE : AS} {rE : Int32} (hf : fX9_eldest s0 a1 = some (sE, rE)) : am_Ct l (d + 6) mX9_eldest [.inr (.inr ((10, 0, 0), 215)), .inl a1] s0 sE (some (.inl rE)) := by
  refine am_sim l (d + 5) (code := kX9_eldest) (by decide +kernel) wX9_eldest qX9_eldest (Nat.le_of_ble_eq_true rfl) ?_
  intro X hX
  show X 0 [(0, .inr (.inr ((10, 0, 0), 215))), (1, .inl a1)] [] s0
  unfold fX9_eldest at hf
  refine am_blk hX 0 3 (And.intro rfl (am_nl (Z := fun s1 => X 5 [(0, .inr (.inr ((10, 0, 0), 215))), (1, .inl a1)] [] s1) hf (fun s1 hf => ?_)))
  obtain ⟨v2, hcv2, hf⟩ := am_r_of hf
  refine am_blk hX 3 4 (And.intro rfl (And.intro rfl (Exists.intro s1 (Exists.intro (some (.inl v2)) (And.intro (tX9_isStep l (d + 3) hcv2) (And.intro (fun hb => ?_) (fun hb => ?_)))))))
  · have hf := am_if hf hb
    show X 16 [(0, .inr (.inr ((10, 0, 0), 215))), (1, .inl a1)] [] s1
    obtain ⟨s4, v3, hcv3, hf⟩ := am_c_of hf
    have hL24 : ∀ (n24 : Nat) (x5 : Int32) (x6 : Int32), fX9_eldest_L24 a1 s4 n24 x5 x6 = some (sE, rE) → X 24 [(0, .inr (.inr ((10, 0, 0), 215))), (1, .inl a1), (2, .inl x5), (3, .inl x6)] [] s4 := by
      intro n24
      induction n24 with
      | zero => intro x5 x6 hf; exact am_no (show none = some _ from hf)
      | succ n24 ih24 =>
        intro x5 x6 hf
        obtain ⟨v7, hcv7, hf⟩ := am_r_of hf
        refine am_blk hX 15 4 (And.intro rfl (And.intro rfl (Exists.intro s4 (Exists.intro (some (.inl v7)) (And.intro (tX9_people l (d + 4) hcv7) (And.intro (fun hb => ?_) (fun hb => ?_)))))))
        · have hf := am_it hf hb
          show X 73 [(0, .inr (.inr ((10, 0, 0), 215))), (1, .inl a1), (2, .inl x5), (3, .inl x6)] [] s4
          refine am_blk hX 42 2 (am_ri hf)
        · have hf := am_if hf hb
          show X 32 [(0, .inr (.inr ((10, 0, 0), 215))), (1, .inl a1), (2, .inl x5), (3, .inl x6)] [] s4
          obtain ⟨g8, hf⟩ := am_g_of hf
          obtain ⟨v9, hcv9, hf⟩ := am_r_of hf
          refine am_jn hf (fun J67 => ∀ (x10 : Int32), J67 x10 = some (sE, rE) → X 67 [(0, .inr (.inr ((10, 0, 0), 215))), (1, .inl a1), (2, .inl x10), (3, .inl x6)] [] s4) ?_ ?_
          · intro x10 hf
            refine am_blk hX 40 1 (am_nl (Z := fun x11 => X 70 [(3, .inl x11), (0, .inr (.inr ((10, 0, 0), 215))), (1, .inl a1), (2, .inl x10)] [] s4) hf (fun x11 hf => ?_))
            refine am_blk hX 41 1 (?_)
            show X 24 [(3, .inl x11), (0, .inr (.inr ((10, 0, 0), 215))), (1, .inl a1), (2, .inl x10)] [] s4
            exact am_wk hX [1, 2, 3, 0] (ih24 x10 x11 hf)
          · intro J67 hJ67 hf
            refine am_blk hX 19 7 (And.intro rfl (And.intro rfl (And.intro g8 (And.intro rfl (Exists.intro s4 (Exists.intro (some (.inl v9)) (And.intro (tX9_isBit l (d + 4) hcv9) (And.intro (fun hb => ?_) (fun hb => ?_)))))))))
            · have hf := am_it hf hb
              show X 67 [(0, .inr (.inr ((10, 0, 0), 215))), (1, .inl a1), (2, .inl x5), (3, .inl x6)] [] s4
              exact am_wk hX [0, 1, 2, 3] (hJ67 x5 hf)
            · have hf := am_if hf hb
              show X 45 [(0, .inr (.inr ((10, 0, 0), 215))), (1, .inl a1), (2, .inl x5), (3, .inl x6)] [] s4
              refine am_jn hf (fun J65 => J65 = some (sE, rE) → X 65 [(0, .inr (.inr ((10, 0, 0), 215))), (1, .inl a1), (3, .inl x6)] [] s4) ?_ ?_
              · intro hf
                refine am_blk hX 38 2 (?_)
                show X 67 [(2, .inl x6), (0, .inr (.inr ((10, 0, 0), 215))), (1, .inl a1), (3, .inl x6)] [] s4
                exact am_wk hX [1, 2, 0, 3] (hJ67 x6 hf)
              · intro J65 hJ65 hf
                refine am_blk hX 26 3 (And.intro (fun hb => ?_) (fun hb => ?_))
                · have hf := am_it hf hb
                  show X 65 [(0, .inr (.inr ((10, 0, 0), 215))), (1, .inl a1), (2, .inl x5), (3, .inl x6)] [] s4
                  exact am_wk hX [0, 1, 3] (hJ65 hf)
                · have hf := am_if hf hb
                  show X 50 [(0, .inr (.inr ((10, 0, 0), 215))), (1, .inl a1), (2, .inl x5), (3, .inl x6)] [] s4
                  obtain ⟨g12, hf⟩ := am_g_of hf
                  obtain ⟨g13, hf⟩ := am_g_of hf
                  refine am_blk hX 29 9 (And.intro rfl (And.intro rfl (And.intro g12 (And.intro rfl (And.intro rfl (And.intro g13 (And.intro (fun hb => ?_) (fun hb => ?_))))))))
                  · have hf := am_it hf hb
                    show X 67 [(0, .inr (.inr ((10, 0, 0), 215))), (1, .inl a1), (2, .inl x5), (3, .inl x6)] [] s4
                    exact am_wk hX [0, 1, 2, 3] (hJ67 x5 hf)
                  · have hf := am_if hf hb
                    show X 65 [(0, .inr (.inr ((10, 0, 0), 215))), (1, .inl a1), (2, .inl x5), (3, .inl x6)] [] s4
                    exact am_wk hX [0, 1, 3] (hJ65 hf)
    refine am_blk hX 9 6 (And.intro rfl (And.intro rfl (Exists.intro s4 (Exists.intro none (And.intro (tX9_laysNow l (d + 0) hcv3) (?_))))))
    show X 24 [(3, .inl (0 : Int32)), (2, .inl (-1 : Int32)), (0, .inr (.inr ((10, 0, 0), 215))), (1, .inl a1)] [] s4
    exact am_wk hX [2, 3, 1, 0] (hL24 am_fu (-1 : Int32) (0 : Int32) hf)
  · have hf := am_it hf hb
    show X 13 [(0, .inr (.inr ((10, 0, 0), 215))), (1, .inl a1)] [] s1
    refine am_blk hX 7 2 (am_ri hf)
def fX9_end (s0 : AS) (a1 : Int32) : Option (AS × Int32) :=
  am_let (am_si s0 215 0 (0 : Int32)) (fun (s1 : AS) => am_r (fX9_in a1.toInt64 (0 : Int64) ((s1.1 215 6).toInt64)) (fun (v2 : Int32) => if v2 = 0 then (some (s1, (-1 : Int32))) else (am_let (am_si s1 215 6 a1) (fun (s3 : AS) => some (s3, a1)))))
def kX9_end : List (Nat × Instr × Nat) := [(0, .aload_n 0, 1), (1, .iconst 0, 1), (2, .putfield 80, 3), (5, .iload_n 1, 1), (6, .i2l, 1), (7, .lconst 0, 1), (8, .aload_n 0, 1), (9, .getfield 97, 3), (12, .i2l, 1), (13, .invokestatic 85, 3), (16, .ifCond .ne 5, 3), (19, .iconst (-1), 1), (20, .ireturn, 1), (21, .aload_n 0, 1), (22, .iload_n 1, 1), (23, .putfield 97, 3), (26, .iload_n 1, 1), (27, .ireturn, 1)]
theorem qX9_end : ∀ q ∈ kX9_end, decode mX9_end.2.2.1 q.1 = .ok (q.2.1, q.2.2) ∧ am_iok mX9_end.2.2.2.1 q.1 q.2.1 q.2.2 = true := by decide +kernel
set_option maxRecDepth 100000 in
theorem wX9_end : Cond.code mX9_end.2.1 mX9_end.2.2.1 mX9_end.2.2.2.1 mX9_end.2.2.2.2.1 ∈ am_T := List.mem_filter.mpr ⟨List.mem_of_getElem? (i := 1477) rfl, rfl⟩
set_option maxHeartbeats 4000000 in
set_option maxRecDepth 100000 in
theorem tX9_end (l : Launch) (d : Nat) {s0 : AS} {a1 : Int32} {sE : AS} {rE : Int32} (hf : fX9_end s0 a1 = some (sE, rE)) : am_Ct l (d + 2) mX9_end [.inr (.inr ((10, 0, 0), 215)), .inl a1] s0 sE (some (.inl rE)) := by
  refine am_sim l (d + 1) (code := kX9_end) (by decide +kernel) wX9_end qX9_end (Nat.le_of_ble_eq_true rfl) ?_
  intro X hX
  show X 0 [(0, .inr (.inr ((10, 0, 0), 215))), (1, .inl a1)] [] s0
  unfold fX9_end at hf
  refine am_blk hX 0 3 (And.intro rfl (am_nl (Z := fun s1 => X 5 [(0, .inr (.inr ((10, 0, 0), 215))), (1, .inl a1)] [] s1) hf (fun s1 hf => ?_)))
  obtain ⟨v2, hcv2, hf⟩ := am_r_of hf
  refine am_blk hX 3 8 (And.intro rfl (And.intro rfl (Exists.intro s1 (Exists.intro (some (.inl v2)) (And.intro (tX9_in l (d + 0) hcv2) (And.intro (fun hb => ?_) (fun hb => ?_)))))))
  · have hf := am_if hf hb
    show X 21 [(0, .inr (.inr ((10, 0, 0), 215))), (1, .inl a1)] [] s1
    refine am_blk hX 13 3 (And.intro rfl (am_nl (Z := fun s3 => X 26 [(0, .inr (.inr ((10, 0, 0), 215))), (1, .inl a1)] [] s3) hf (fun s3 hf => ?_)))
    refine am_blk hX 16 2 (am_ri hf)
  · have hf := am_it hf hb
    show X 19 [(0, .inr (.inr ((10, 0, 0), 215))), (1, .inl a1)] [] s1
    refine am_blk hX 11 2 (am_ri hf)
def fX9_endsOf_L13 : Nat → AS → Int32 → Int32 → Option (AS × Int32)
  | 0, _, _, _ => none
  | n13 + 1, s4, x5, x6 =>
    if (64 : Int32) ≤ x6 then (some (s4, x5)) else (am_let (am_si s4 215 23 x6) (fun (s7 : AS) => am_c (fX9_runs s7) (fun (s9 : AS) (v8 : Unit) => am_let (fun (s10 : AS) (x11 : Int32) => am_let (x6 + (1 : Int32)) (fun (x12 : Int32) => fX9_endsOf_L13 n13 s10 x11 x12)) (fun J89 => if (s9.1 215 45) = (-1 : Int32) then (J89 s9 x5) else (am_let (am_let (am_si s9 215 47 (s9.1 215 45)) (fun (s13 : AS) => J89 s13 x6)) (fun J79 => if x5 = (-1 : Int32) then (J79) else (if (s9.1 215 47) < (s9.1 215 45) then (J89 s9 x5) else (if (s9.1 215 45) = (s9.1 215 47) then (am_r (fX9_costOf s9 x6) (fun (v14 : Int32) => am_r (fX9_costOf s9 x5) (fun (v15 : Int32) => if v14 < v15 then (J79) else (J89 s9 x5)))) else (J79)))))))))
def fX9_endsOf (s0 : AS) : Option (AS × Int32) :=
  am_let (am_si s0 215 47 (-1 : Int32)) (fun (s1 : AS) => am_c (fX9_lays s1) (fun (s3 : AS) (v2 : Unit) => fX9_endsOf_L13 am_fu s3 (-1 : Int32) (0 : Int32)))
def kX9_endsOf : List (Nat × Instr × Nat) := [(0, .iconst (-1), 1), (1, .istore_n 1, 1), (2, .aload_n 0, 1), (3, .iconst (-1), 1), (4, .putfield 376, 3), (7, .aload_n 0, 1), (8, .invokevirtual 336, 3), (11, .iconst 0, 1), (12, .istore_n 2, 1), (13, .iload_n 2, 1), (14, .bipush 64, 2), (16, .if_icmp .ge 79, 3), (19, .aload_n 0, 1), (20, .iload_n 2, 1), (21, .putfield 256, 3), (24, .aload_n 0, 1), (25, .invokevirtual 339, 3), (28, .aload_n 0, 1), (29, .getfield 309, 3), (32, .iconst (-1), 1), (33, .if_icmp .eq 56, 3), (36, .iload_n 1, 1), (37, .iconst (-1), 1), (38, .if_icmp .eq 41, 3), (41, .aload_n 0, 1), (42, .getfield 309, 3), (45, .aload_n 0, 1), (46, .getfield 376, 3), (49, .if_icmp .gt 40, 3), (52, .aload_n 0, 1), (53, .getfield 309, 3), (56, .aload_n 0, 1), (57, .getfield 376, 3), (60, .if_icmp .ne 19, 3), (63, .aload_n 0, 1), (64, .iload_n 2, 1), (65, .invokevirtual 370, 3), (68, .aload_n 0, 1), (69, .iload_n 1, 1), (70, .invokevirtual 370, 3), (73, .if_icmp .lt 6, 3), (76, .goto 13, 3), (79, .iload_n 2, 1), (80, .istore_n 1, 1), (81, .aload_n 0, 1), (82, .aload_n 0, 1), (83, .getfield 309, 3), (86, .putfield 376, 3), (89, .iinc 2 1, 3), (92, .goto (-79), 3), (95, .iload_n 1, 1), (96, .ireturn, 1)]
theorem qX9_endsOf : ∀ q ∈ kX9_endsOf, decode mX9_endsOf.2.2.1 q.1 = .ok (q.2.1, q.2.2) ∧ am_iok mX9_endsOf.2.2.2.1 q.1 q.2.1 q.2.2 = true := by decide +kernel
set_option maxRecDepth 100000 in
theorem wX9_endsOf : Cond.code mX9_endsOf.2.1 mX9_endsOf.2.2.1 mX9_endsOf.2.2.2.1 mX9_endsOf.2.2.2.2.1 ∈ am_T := List.mem_filter.mpr ⟨List.mem_of_getElem? (i := 1846) rfl, rfl⟩
set_option maxHeartbeats 4000000 in
set_option maxRecDepth 100000 in
theorem tX9_endsOf (l : Launch) (d : Nat) {s0 : AS} {sE : AS} {rE : Int32} (hf : fX9_endsOf s0 = some (sE, rE)) : am_Ct l (d + 5) mX9_endsOf [.inr (.inr ((10, 0, 0), 215))] s0 sE (some (.inl rE)) := by
  refine am_sim l (d + 4) (code := kX9_endsOf) (by decide +kernel) wX9_endsOf qX9_endsOf (Nat.le_of_ble_eq_true rfl) ?_
  intro X hX
  show X 0 [(0, .inr (.inr ((10, 0, 0), 215)))] [] s0
  unfold fX9_endsOf at hf
  refine am_blk hX 0 5 (And.intro rfl (am_nl (Z := fun s1 => X 7 [(1, .inl (-1 : Int32)), (0, .inr (.inr ((10, 0, 0), 215)))] [] s1) hf (fun s1 hf => ?_)))
  obtain ⟨s3, v2, hcv2, hf⟩ := am_c_of hf
  have hL13 : ∀ (n13 : Nat) (s4 : AS) (x5 : Int32) (x6 : Int32), fX9_endsOf_L13 n13 s4 x5 x6 = some (sE, rE) → X 13 [(0, .inr (.inr ((10, 0, 0), 215))), (1, .inl x5), (2, .inl x6)] [] s4 := by
    intro n13
    induction n13 with
    | zero => intro s4 x5 x6 hf; exact am_no (show none = some _ from hf)
    | succ n13 ih13 =>
      intro s4 x5 x6 hf
      refine am_blk hX 9 3 (And.intro (fun hb => ?_) (fun hb => ?_))
      · have hf := am_it hf hb
        show X 95 [(0, .inr (.inr ((10, 0, 0), 215))), (1, .inl x5), (2, .inl x6)] [] s4
        refine am_blk hX 50 2 (am_ri hf)
      · have hf := am_if hf hb
        show X 19 [(0, .inr (.inr ((10, 0, 0), 215))), (1, .inl x5), (2, .inl x6)] [] s4
        refine am_blk hX 12 3 (And.intro rfl (am_nl (Z := fun s7 => X 24 [(0, .inr (.inr ((10, 0, 0), 215))), (1, .inl x5), (2, .inl x6)] [] s7) hf (fun s7 hf => ?_)))
        obtain ⟨s9, v8, hcv8, hf⟩ := am_c_of hf
        refine am_jn hf (fun J89 => ∀ (s10 : AS) (x11 : Int32), J89 s10 x11 = some (sE, rE) → X 89 [(0, .inr (.inr ((10, 0, 0), 215))), (1, .inl x11), (2, .inl x6)] [] s10) ?_ ?_
        · intro s10 x11 hf
          refine am_blk hX 48 1 (am_nl (Z := fun x12 => X 92 [(2, .inl x12), (0, .inr (.inr ((10, 0, 0), 215))), (1, .inl x11)] [] s10) hf (fun x12 hf => ?_))
          refine am_blk hX 49 1 (?_)
          show X 13 [(2, .inl x12), (0, .inr (.inr ((10, 0, 0), 215))), (1, .inl x11)] [] s10
          exact am_wk hX [1, 2, 0] (ih13 s10 x11 x12 hf)
        · intro J89 hJ89 hf
          refine am_blk hX 15 6 (And.intro rfl (And.intro rfl (Exists.intro s9 (Exists.intro none (And.intro (tX9_runs l (d + 0) hcv8) (And.intro rfl (And.intro (fun hb => ?_) (fun hb => ?_))))))))
          · have hf := am_it hf hb
            show X 89 [(0, .inr (.inr ((10, 0, 0), 215))), (1, .inl x5), (2, .inl x6)] [] s9
            exact am_wk hX [0, 1, 2] (hJ89 s9 x5 hf)
          · have hf := am_if hf hb
            show X 36 [(0, .inr (.inr ((10, 0, 0), 215))), (1, .inl x5), (2, .inl x6)] [] s9
            refine am_jn hf (fun J79 => J79 = some (sE, rE) → X 79 [(0, .inr (.inr ((10, 0, 0), 215))), (2, .inl x6)] [] s9) ?_ ?_
            · intro hf
              refine am_blk hX 42 6 (And.intro rfl (And.intro rfl (am_nl (Z := fun s13 => X 89 [(1, .inl x6), (0, .inr (.inr ((10, 0, 0), 215))), (2, .inl x6)] [] s13) hf (fun s13 hf => ?_))))
              exact am_wk hX [1, 0, 2] (hJ89 s13 x6 hf)
            · intro J79 hJ79 hf
              refine am_blk hX 21 3 (And.intro (fun hb => ?_) (fun hb => ?_))
              · have hf := am_it hf hb
                show X 79 [(0, .inr (.inr ((10, 0, 0), 215))), (1, .inl x5), (2, .inl x6)] [] s9
                exact am_wk hX [0, 2] (hJ79 hf)
              · have hf := am_if hf hb
                show X 41 [(0, .inr (.inr ((10, 0, 0), 215))), (1, .inl x5), (2, .inl x6)] [] s9
                refine am_blk hX 24 5 (And.intro rfl (And.intro rfl (And.intro (fun hb => ?_) (fun hb => ?_))))
                · have hf := am_it hf hb
                  show X 89 [(0, .inr (.inr ((10, 0, 0), 215))), (1, .inl x5), (2, .inl x6)] [] s9
                  exact am_wk hX [0, 1, 2] (hJ89 s9 x5 hf)
                · have hf := am_if hf hb
                  show X 52 [(0, .inr (.inr ((10, 0, 0), 215))), (1, .inl x5), (2, .inl x6)] [] s9
                  refine am_blk hX 29 5 (And.intro rfl (And.intro rfl (And.intro (fun hb => ?_) (fun hb => ?_))))
                  · have hf := am_if hf hb
                    show X 79 [(0, .inr (.inr ((10, 0, 0), 215))), (1, .inl x5), (2, .inl x6)] [] s9
                    exact am_wk hX [0, 2] (hJ79 hf)
                  · have hf := am_it hf hb
                    show X 63 [(0, .inr (.inr ((10, 0, 0), 215))), (1, .inl x5), (2, .inl x6)] [] s9
                    obtain ⟨v14, hcv14, hf⟩ := am_r_of hf
                    obtain ⟨v15, hcv15, hf⟩ := am_r_of hf
                    refine am_blk hX 34 7 (And.intro rfl (And.intro rfl (Exists.intro s9 (Exists.intro (some (.inl v14)) (And.intro (tX9_costOf l (d + 2) hcv14) (And.intro rfl (And.intro rfl (Exists.intro s9 (Exists.intro (some (.inl v15)) (And.intro (tX9_costOf l (d + 2) hcv15) (And.intro (fun hb => ?_) (fun hb => ?_))))))))))))
                    · have hf := am_it hf hb
                      show X 79 [(0, .inr (.inr ((10, 0, 0), 215))), (1, .inl x5), (2, .inl x6)] [] s9
                      exact am_wk hX [0, 2] (hJ79 hf)
                    · have hf := am_if hf hb
                      show X 76 [(0, .inr (.inr ((10, 0, 0), 215))), (1, .inl x5), (2, .inl x6)] [] s9
                      refine am_blk hX 41 1 (?_)
                      show X 89 [(0, .inr (.inr ((10, 0, 0), 215))), (1, .inl x5), (2, .inl x6)] [] s9
                      exact am_wk hX [0, 1, 2] (hJ89 s9 x5 hf)
  refine am_blk hX 5 4 (And.intro rfl (And.intro rfl (Exists.intro s3 (Exists.intro none (And.intro (tX9_lays l (d + 3) hcv2) (?_))))))
  show X 13 [(2, .inl (0 : Int32)), (1, .inl (-1 : Int32)), (0, .inr (.inr ((10, 0, 0), 215)))] [] s3
  exact am_wk hX [2, 1, 0] (hL13 am_fu s3 (-1 : Int32) (0 : Int32) hf)
def fX9_ends (s0 : AS) : Option (AS × Int32) :=
  am_let (am_si s0 215 0 (0 : Int32)) (fun (s1 : AS) => am_r (fX9_isMarch s1) (fun (v2 : Int32) => am_let (fun (s3 : AS) (x4 : Int32) => some (s3, x4)) (fun J21 => if v2 = 0 then (J21 s1 (-2 : Int32)) else (am_c (fX9_endsOf s1) (fun (s6 : AS) (v5 : Int32) => J21 s6 v5)))))
def kX9_ends : List (Nat × Instr × Nat) := [(0, .aload_n 0, 1), (1, .iconst 0, 1), (2, .putfield 80, 3), (5, .aload_n 0, 1), (6, .invokevirtual 251, 3), (9, .ifCond .eq 10, 3), (12, .aload_n 0, 1), (13, .invokevirtual 379, 3), (16, .goto 5, 3), (19, .bipush (-2), 2), (21, .ireturn, 1)]
theorem qX9_ends : ∀ q ∈ kX9_ends, decode mX9_ends.2.2.1 q.1 = .ok (q.2.1, q.2.2) ∧ am_iok mX9_ends.2.2.2.1 q.1 q.2.1 q.2.2 = true := by decide +kernel
set_option maxRecDepth 100000 in
theorem wX9_ends : Cond.code mX9_ends.2.1 mX9_ends.2.2.1 mX9_ends.2.2.2.1 mX9_ends.2.2.2.2.1 ∈ am_T := List.mem_filter.mpr ⟨List.mem_of_getElem? (i := 1850) rfl, rfl⟩
set_option maxHeartbeats 4000000 in
set_option maxRecDepth 100000 in
theorem tX9_ends (l : Launch) (d : Nat) {s0 : AS} {sE : AS} {rE : Int32} (hf : fX9_ends s0 = some (sE, rE)) : am_Ct l (d + 6) mX9_ends [.inr (.inr ((10, 0, 0), 215))] s0 sE (some (.inl rE)) := by
  refine am_sim l (d + 5) (code := kX9_ends) (by decide +kernel) wX9_ends qX9_ends (Nat.le_of_ble_eq_true rfl) ?_
  intro X hX
  show X 0 [(0, .inr (.inr ((10, 0, 0), 215)))] [] s0
  unfold fX9_ends at hf
  refine am_blk hX 0 3 (And.intro rfl (am_nl (Z := fun s1 => X 5 [(0, .inr (.inr ((10, 0, 0), 215)))] [] s1) hf (fun s1 hf => ?_)))
  obtain ⟨v2, hcv2, hf⟩ := am_r_of hf
  refine am_jn hf (fun J21 => ∀ (s3 : AS) (x4 : Int32), J21 s3 x4 = some (sE, rE) → X 21 [] [.inl x4] s3) ?_ ?_
  · intro s3 x4 hf
    refine am_blk hX 10 1 (am_ri hf)
  · intro J21 hJ21 hf
    refine am_blk hX 3 3 (And.intro rfl (And.intro rfl (Exists.intro s1 (Exists.intro (some (.inl v2)) (And.intro (tX9_isMarch l (d + 4) hcv2) (And.intro (fun hb => ?_) (fun hb => ?_)))))))
    · have hf := am_it hf hb
      show X 19 [(0, .inr (.inr ((10, 0, 0), 215)))] [] s1
      refine am_blk hX 9 1 (?_)
      show X 21 [(0, .inr (.inr ((10, 0, 0), 215)))] [.inl (-2 : Int32)] s1
      exact am_wk hX [] (hJ21 s1 (-2 : Int32) hf)
    · have hf := am_if hf hb
      show X 12 [(0, .inr (.inr ((10, 0, 0), 215)))] [] s1
      obtain ⟨s6, v5, hcv5, hf⟩ := am_c_of hf
      refine am_blk hX 6 3 (And.intro rfl (And.intro rfl (Exists.intro s6 (Exists.intro (some (.inl v5)) (And.intro (tX9_endsOf l (d + 0) hcv5) (?_))))))
      show X 21 [(0, .inr (.inr ((10, 0, 0), 215)))] [.inl v5] s6
      exact am_wk hX [] (hJ21 s6 v5 hf)
def fX9_farthest_L23 (s4 : AS) : Nat → Int32 → Int32 → Option (AS × Int32)
  | 0, _, _ => none
  | n23 + 1, x5, x6 =>
    am_g (¬ ((0 : Int32) < 0 ∨ 35 ≤ (0 : Int32).toNatClampNeg)) (if (s4.1 222 ((0 : Int32).toNatClampNeg)) ≤ x6 then (some (s4, x5)) else (am_r (fX9_firstAt s4 x6 (0 : Int32)) (fun (v8 : Int32) => am_let (fun (x9 : Int32) => am_let (x6 + (1 : Int32)) (fun (x10 : Int32) => fX9_farthest_L23 s4 n23 x9 x10)) (fun J81 => if v8 = (-1 : Int32) then (J81 x5) else (am_let (J81 x6) (fun J79 => if x5 = (-1 : Int32) then (J79) else (am_g (¬ ((((7 : Int32) * (s4.1 215 25)) + x6) < 0 ∨ 49 ≤ (((7 : Int32) * (s4.1 215 25)) + x6).toNatClampNeg)) (am_g (¬ ((((7 : Int32) * (s4.1 215 25)) + x5) < 0 ∨ 49 ≤ (((7 : Int32) * (s4.1 215 25)) + x5).toNatClampNeg)) (if (s4.1 228 ((((7 : Int32) * (s4.1 215 25)) + x6).toNatClampNeg)) ≤ (s4.1 228 ((((7 : Int32) * (s4.1 215 25)) + x5).toNatClampNeg)) then (J81 x5) else (J79))))))))))
def fX9_farthest (s0 : AS) : Option (AS × Int32) :=
  am_let (am_si s0 215 0 (0 : Int32)) (fun (s1 : AS) => am_r (fX9_isMarch s1) (fun (v2 : Int32) => if v2 = 0 then (some (s1, (-2 : Int32))) else (am_c (fX9_laysNow s1) (fun (s4 : AS) (v3 : Unit) => fX9_farthest_L23 s4 am_fu (-1 : Int32) (0 : Int32)))))
def kX9_farthest : List (Nat × Instr × Nat) := [(0, .aload_n 0, 1), (1, .iconst 0, 1), (2, .putfield 80, 3), (5, .aload_n 0, 1), (6, .invokevirtual 251, 3), (9, .ifCond .ne 6, 3), (12, .bipush (-2), 2), (14, .ireturn, 1), (15, .aload_n 0, 1), (16, .invokevirtual 358, 3), (19, .iconst (-1), 1), (20, .istore_n 1, 1), (21, .iconst 0, 1), (22, .istore_n 2, 1), (23, .iload_n 2, 1), (24, .aload_n 0, 1), (25, .getfield 34, 3), (28, .iconst 0, 1), (29, .iaload, 1), (30, .if_icmp .ge 57, 3), (33, .aload_n 0, 1), (34, .iload_n 2, 1), (35, .iconst 0, 1), (36, .invokevirtual 361, 3), (39, .iconst (-1), 1), (40, .if_icmp .eq 41, 3), (43, .iload_n 1, 1), (44, .iconst (-1), 1), (45, .if_icmp .eq 34, 3), (48, .aload_n 0, 1), (49, .getfield 53, 3), (52, .bipush 7, 2), (54, .aload_n 0, 1), (55, .getfield 262, 3), (58, .imul, 1), (59, .iload_n 2, 1), (60, .iadd, 1), (61, .iaload, 1), (62, .aload_n 0, 1), (63, .getfield 53, 3), (66, .bipush 7, 2), (68, .aload_n 0, 1), (69, .getfield 262, 3), (72, .imul, 1), (73, .iload_n 1, 1), (74, .iadd, 1), (75, .iaload, 1), (76, .if_icmp .le 5, 3), (79, .iload_n 2, 1), (80, .istore_n 1, 1), (81, .iinc 2 1, 3), (84, .goto (-61), 3), (87, .iload_n 1, 1), (88, .ireturn, 1)]
theorem qX9_farthest : ∀ q ∈ kX9_farthest, decode mX9_farthest.2.2.1 q.1 = .ok (q.2.1, q.2.2) ∧ am_iok mX9_farthest.2.2.2.1 q.1 q.2.1 q.2.2 = true := by decide +kernel
set_option maxRecDepth 100000 in
theorem wX9_farthest : Cond.code mX9_farthest.2.1 mX9_farthest.2.2.1 mX9_farthest.2.2.2.1 mX9_farthest.2.2.2.2.1 ∈ am_T := List.mem_filter.mpr ⟨List.mem_of_getElem? (i := 1798) rfl, rfl⟩
set_option maxHeartbeats 4000000 in
set_option maxRecDepth 100000 in
theorem tX9_farthest (l : Launch) (d : Nat) {s0 : AS} {sE : AS} {rE : Int32} (hf : fX9_farthest s0 = some (sE, rE)) : am_Ct l (d + 6) mX9_farthest [.inr (.inr ((10, 0, 0), 215))] s0 sE (some (.inl rE)) := by
  refine am_sim l (d + 5) (code := kX9_farthest) (by decide +kernel) wX9_farthest qX9_farthest (Nat.le_of_ble_eq_true rfl) ?_
  intro X hX
  show X 0 [(0, .inr (.inr ((10, 0, 0), 215)))] [] s0
  unfold fX9_farthest at hf
  refine am_blk hX 0 3 (And.intro rfl (am_nl (Z := fun s1 => X 5 [(0, .inr (.inr ((10, 0, 0), 215)))] [] s1) hf (fun s1 hf => ?_)))
  obtain ⟨v2, hcv2, hf⟩ := am_r_of hf
  refine am_blk hX 3 3 (And.intro rfl (And.intro rfl (Exists.intro s1 (Exists.intro (some (.inl v2)) (And.intro (tX9_isMarch l (d + 4) hcv2) (And.intro (fun hb => ?_) (fun hb => ?_)))))))
  · have hf := am_if hf hb
    show X 15 [(0, .inr (.inr ((10, 0, 0), 215)))] [] s1
    obtain ⟨s4, v3, hcv3, hf⟩ := am_c_of hf
    have hL23 : ∀ (n23 : Nat) (x5 : Int32) (x6 : Int32), fX9_farthest_L23 s4 n23 x5 x6 = some (sE, rE) → X 23 [(0, .inr (.inr ((10, 0, 0), 215))), (1, .inl x5), (2, .inl x6)] [] s4 := by
      intro n23
      induction n23 with
      | zero => intro x5 x6 hf; exact am_no (show none = some _ from hf)
      | succ n23 ih23 =>
        intro x5 x6 hf
        obtain ⟨g7, hf⟩ := am_g_of hf
        refine am_blk hX 14 6 (And.intro rfl (And.intro rfl (And.intro g7 (And.intro (fun hb => ?_) (fun hb => ?_)))))
        · have hf := am_it hf hb
          show X 87 [(0, .inr (.inr ((10, 0, 0), 215))), (1, .inl x5), (2, .inl x6)] [] s4
          refine am_blk hX 52 2 (am_ri hf)
        · have hf := am_if hf hb
          show X 33 [(0, .inr (.inr ((10, 0, 0), 215))), (1, .inl x5), (2, .inl x6)] [] s4
          obtain ⟨v8, hcv8, hf⟩ := am_r_of hf
          refine am_jn hf (fun J81 => ∀ (x9 : Int32), J81 x9 = some (sE, rE) → X 81 [(0, .inr (.inr ((10, 0, 0), 215))), (1, .inl x9), (2, .inl x6)] [] s4) ?_ ?_
          · intro x9 hf
            refine am_blk hX 50 1 (am_nl (Z := fun x10 => X 84 [(2, .inl x10), (0, .inr (.inr ((10, 0, 0), 215))), (1, .inl x9)] [] s4) hf (fun x10 hf => ?_))
            refine am_blk hX 51 1 (?_)
            show X 23 [(2, .inl x10), (0, .inr (.inr ((10, 0, 0), 215))), (1, .inl x9)] [] s4
            exact am_wk hX [1, 2, 0] (ih23 x9 x10 hf)
          · intro J81 hJ81 hf
            refine am_blk hX 20 6 (And.intro rfl (And.intro rfl (Exists.intro s4 (Exists.intro (some (.inl v8)) (And.intro (tX9_firstAt l (d + 4) hcv8) (And.intro (fun hb => ?_) (fun hb => ?_)))))))
            · have hf := am_it hf hb
              show X 81 [(0, .inr (.inr ((10, 0, 0), 215))), (1, .inl x5), (2, .inl x6)] [] s4
              exact am_wk hX [0, 1, 2] (hJ81 x5 hf)
            · have hf := am_if hf hb
              show X 43 [(0, .inr (.inr ((10, 0, 0), 215))), (1, .inl x5), (2, .inl x6)] [] s4
              refine am_jn hf (fun J79 => J79 = some (sE, rE) → X 79 [(0, .inr (.inr ((10, 0, 0), 215))), (2, .inl x6)] [] s4) ?_ ?_
              · intro hf
                refine am_blk hX 48 2 (?_)
                show X 81 [(1, .inl x6), (0, .inr (.inr ((10, 0, 0), 215))), (2, .inl x6)] [] s4
                exact am_wk hX [1, 0, 2] (hJ81 x6 hf)
              · intro J79 hJ79 hf
                refine am_blk hX 26 3 (And.intro (fun hb => ?_) (fun hb => ?_))
                · have hf := am_it hf hb
                  show X 79 [(0, .inr (.inr ((10, 0, 0), 215))), (1, .inl x5), (2, .inl x6)] [] s4
                  exact am_wk hX [0, 2] (hJ79 hf)
                · have hf := am_if hf hb
                  show X 48 [(0, .inr (.inr ((10, 0, 0), 215))), (1, .inl x5), (2, .inl x6)] [] s4
                  obtain ⟨g11, hf⟩ := am_g_of hf
                  obtain ⟨g12, hf⟩ := am_g_of hf
                  refine am_blk hX 29 19 (And.intro rfl (And.intro rfl (And.intro rfl (And.intro g11 (And.intro rfl (And.intro rfl (And.intro rfl (And.intro g12 (And.intro (fun hb => ?_) (fun hb => ?_))))))))))
                  · have hf := am_it hf hb
                    show X 81 [(0, .inr (.inr ((10, 0, 0), 215))), (1, .inl x5), (2, .inl x6)] [] s4
                    exact am_wk hX [0, 1, 2] (hJ81 x5 hf)
                  · have hf := am_if hf hb
                    show X 79 [(0, .inr (.inr ((10, 0, 0), 215))), (1, .inl x5), (2, .inl x6)] [] s4
                    exact am_wk hX [0, 2] (hJ79 hf)
    refine am_blk hX 8 6 (And.intro rfl (And.intro rfl (Exists.intro s4 (Exists.intro none (And.intro (tX9_laysNow l (d + 0) hcv3) (?_))))))
    show X 23 [(2, .inl (0 : Int32)), (1, .inl (-1 : Int32)), (0, .inr (.inr ((10, 0, 0), 215)))] [] s4
    exact am_wk hX [2, 1, 0] (hL23 am_fu (-1 : Int32) (0 : Int32) hf)
  · have hf := am_it hf hb
    show X 12 [(0, .inr (.inr ((10, 0, 0), 215)))] [] s1
    refine am_blk hX 6 2 (am_ri hf)
def fX9_fault (s0 : AS) (a1 : Int32) : Option (AS × Int32) :=
  am_let (am_si s0 215 0 (0 : Int32)) (fun (s1 : AS) => am_let (fun (x2 : Int32) => some (s1, x2)) (fun J29 => if a1 = 0 then (J29 (s1.1 215 14)) else (if a1 = (1 : Int32) then (J29 (s1.1 215 15)) else (J29 (-1 : Int32)))))
def kX9_fault : List (Nat × Instr × Nat) := [(0, .aload_n 0, 1), (1, .iconst 0, 1), (2, .putfield 80, 3), (5, .iload_n 1, 1), (6, .ifCond .ne 10, 3), (9, .aload_n 0, 1), (10, .getfield 159, 3), (13, .goto 16, 3), (16, .iload_n 1, 1), (17, .iconst 1, 1), (18, .if_icmp .ne 10, 3), (21, .aload_n 0, 1), (22, .getfield 27, 3), (25, .goto 4, 3), (28, .iconst (-1), 1), (29, .ireturn, 1)]
theorem qX9_fault : ∀ q ∈ kX9_fault, decode mX9_fault.2.2.1 q.1 = .ok (q.2.1, q.2.2) ∧ am_iok mX9_fault.2.2.2.1 q.1 q.2.1 q.2.2 = true := by decide +kernel
set_option maxRecDepth 100000 in
theorem wX9_fault : Cond.code mX9_fault.2.1 mX9_fault.2.2.1 mX9_fault.2.2.2.1 mX9_fault.2.2.2.2.1 ∈ am_T := List.mem_filter.mpr ⟨List.mem_of_getElem? (i := 1481) rfl, rfl⟩
set_option maxHeartbeats 4000000 in
set_option maxRecDepth 100000 in
theorem tX9_fault (l : Launch) (d : Nat) {s0 : AS} {a1 : Int32} {sE : AS} {rE : Int32} (hf : fX9_fault s0 a1 = some (sE, rE)) : am_Ct l (d + 1) mX9_fault [.inr (.inr ((10, 0, 0), 215)), .inl a1] s0 sE (some (.inl rE)) := by
  refine am_sim l (d + 0) (code := kX9_fault) (by decide +kernel) wX9_fault qX9_fault (Nat.le_of_ble_eq_true rfl) ?_
  intro X hX
  show X 0 [(0, .inr (.inr ((10, 0, 0), 215))), (1, .inl a1)] [] s0
  unfold fX9_fault at hf
  refine am_blk hX 0 3 (And.intro rfl (am_nl (Z := fun s1 => X 5 [(0, .inr (.inr ((10, 0, 0), 215))), (1, .inl a1)] [] s1) hf (fun s1 hf => ?_)))
  refine am_jn hf (fun J29 => ∀ (x2 : Int32), J29 x2 = some (sE, rE) → X 29 [] [.inl x2] s1) ?_ ?_
  · intro x2 hf
    refine am_blk hX 15 1 (am_ri hf)
  · intro J29 hJ29 hf
    refine am_blk hX 3 2 (And.intro (fun hb => ?_) (fun hb => ?_))
    · have hf := am_if hf hb
      show X 16 [(0, .inr (.inr ((10, 0, 0), 215))), (1, .inl a1)] [] s1
      refine am_blk hX 8 3 (And.intro (fun hb => ?_) (fun hb => ?_))
      · have hf := am_if hf hb
        show X 28 [(0, .inr (.inr ((10, 0, 0), 215))), (1, .inl a1)] [] s1
        refine am_blk hX 14 1 (?_)
        show X 29 [(0, .inr (.inr ((10, 0, 0), 215))), (1, .inl a1)] [.inl (-1 : Int32)] s1
        exact am_wk hX [] (hJ29 (-1 : Int32) hf)
      · have hf := am_it hf hb
        show X 21 [(0, .inr (.inr ((10, 0, 0), 215))), (1, .inl a1)] [] s1
        refine am_blk hX 11 3 (And.intro rfl (?_))
        show X 29 [(0, .inr (.inr ((10, 0, 0), 215))), (1, .inl a1)] [.inl (s1.1 215 15)] s1
        exact am_wk hX [] (hJ29 (s1.1 215 15) hf)
    · have hf := am_it hf hb
      show X 9 [(0, .inr (.inr ((10, 0, 0), 215))), (1, .inl a1)] [] s1
      refine am_blk hX 5 3 (And.intro rfl (?_))
      show X 29 [(0, .inr (.inr ((10, 0, 0), 215))), (1, .inl a1)] [.inl (s1.1 215 14)] s1
      exact am_wk hX [] (hJ29 (s1.1 215 14) hf)
def fX9_four_L3 (a1 : Int32) : Nat → AS → Int32 → Option (AS × Unit)
  | 0, _, _ => none
  | n3 + 1, s1, x2 =>
    if x2 < 0 then (some (s1, ())) else (am_g (¬ ((s1.1 215 6) < 0 ∨ 800 ≤ (s1.1 215 6).toNatClampNeg)) (am_let (am_si s1 220 ((s1.1 215 6).toNatClampNeg) (vp_nar .byte ((a1 >>> (x2 &&& 31)).toInt8.toInt32))) (fun (s4 : AS) => am_let (am_si s4 215 6 ((s4.1 215 6) + (1 : Int32))) (fun (s5 : AS) => am_let (x2 + (-8 : Int32)) (fun (x6 : Int32) => fX9_four_L3 a1 n3 s5 x6)))))
def fX9_four (s0 : AS) (a1 : Int32) : Option (AS × Unit) :=
  fX9_four_L3 a1 am_fu s0 (24 : Int32)
def kX9_four : List (Nat × Instr × Nat) := [(0, .bipush 24, 2), (2, .istore_n 2, 1), (3, .iload_n 2, 1), (4, .ifCond .lt 32, 3), (7, .aload_n 0, 1), (8, .getfield 23, 3), (11, .aload_n 0, 1), (12, .getfield 97, 3), (15, .iload_n 1, 1), (16, .iload_n 2, 1), (17, .ishr, 1), (18, .i2b, 1), (19, .bastore, 1), (20, .aload_n 0, 1), (21, .dup, 1), (22, .getfield 97, 3), (25, .iconst 1, 1), (26, .iadd, 1), (27, .putfield 97, 3), (30, .iinc 2 (-8), 3), (33, .goto (-30), 3), (36, .return_, 1)]
theorem qX9_four : ∀ q ∈ kX9_four, decode mX9_four.2.2.1 q.1 = .ok (q.2.1, q.2.2) ∧ am_iok mX9_four.2.2.2.1 q.1 q.2.1 q.2.2 = true := by decide +kernel
set_option maxRecDepth 100000 in
theorem wX9_four : Cond.code mX9_four.2.1 mX9_four.2.2.1 mX9_four.2.2.2.1 mX9_four.2.2.2.2.1 ∈ am_T := List.mem_filter.mpr ⟨List.mem_of_getElem? (i := 1473) rfl, rfl⟩
set_option maxHeartbeats 4000000 in
set_option maxRecDepth 100000 in
theorem tX9_four (l : Launch) (d : Nat) {s0 : AS} {a1 : Int32} {sE : AS} {rE : Unit} (hf : fX9_four s0 a1 = some (sE, rE)) : am_Ct l (d + 1) mX9_four [.inr (.inr ((10, 0, 0), 215)), .inl a1] s0 sE none := by
  refine am_sim l (d + 0) (code := kX9_four) (by decide +kernel) wX9_four qX9_four (Nat.le_of_ble_eq_true rfl) ?_
  intro X hX
  show X 0 [(0, .inr (.inr ((10, 0, 0), 215))), (1, .inl a1)] [] s0
  unfold fX9_four at hf
  have hL3 : ∀ (n3 : Nat) (s1 : AS) (x2 : Int32), fX9_four_L3 a1 n3 s1 x2 = some (sE, rE) → X 3 [(0, .inr (.inr ((10, 0, 0), 215))), (1, .inl a1), (2, .inl x2)] [] s1 := by
    intro n3
    induction n3 with
    | zero => intro s1 x2 hf; exact am_no (show none = some _ from hf)
    | succ n3 ih3 =>
      intro s1 x2 hf
      refine am_blk hX 2 2 (And.intro (fun hb => ?_) (fun hb => ?_))
      · have hf := am_it hf hb
        show X 36 [(0, .inr (.inr ((10, 0, 0), 215))), (1, .inl a1), (2, .inl x2)] [] s1
        refine am_blk hX 21 1 (And.intro rfl (am_rv hf))
      · have hf := am_if hf hb
        show X 7 [(0, .inr (.inr ((10, 0, 0), 215))), (1, .inl a1), (2, .inl x2)] [] s1
        obtain ⟨g3, hf⟩ := am_g_of hf
        refine am_blk hX 4 9 (And.intro rfl (And.intro rfl (Or.inl (And.intro rfl (And.intro g3 (am_nl (Z := fun s4 => X 20 [(0, .inr (.inr ((10, 0, 0), 215))), (1, .inl a1), (2, .inl x2)] [] s4) hf (fun s4 hf => ?_)))))))
        refine am_blk hX 13 6 (And.intro rfl (And.intro rfl (am_nl (Z := fun s5 => X 30 [(0, .inr (.inr ((10, 0, 0), 215))), (1, .inl a1), (2, .inl x2)] [] s5) hf (fun s5 hf => ?_))))
        refine am_blk hX 19 1 (am_nl (Z := fun x6 => X 33 [(2, .inl x6), (0, .inr (.inr ((10, 0, 0), 215))), (1, .inl a1)] [] s5) hf (fun x6 hf => ?_))
        refine am_blk hX 20 1 (?_)
        show X 3 [(2, .inl x6), (0, .inr (.inr ((10, 0, 0), 215))), (1, .inl a1)] [] s5
        exact am_wk hX [1, 2, 0] (ih3 s5 x6 hf)
  refine am_blk hX 0 2 (?_)
  show X 3 [(2, .inl (24 : Int32)), (0, .inr (.inr ((10, 0, 0), 215))), (1, .inl a1)] [] s0
  exact am_wk hX [1, 2, 0] (hL3 am_fu s0 (24 : Int32) hf)
def fX9_feed (s0 : AS) (a1 : Int32) (a2 : Int32) (a3 : Int32) (a4 : Int32) (a5 : Int32) : Option (AS × Int32) :=
  am_let (am_si s0 215 0 (0 : Int32)) (fun (s1 : AS) => if ((s1.1 215 6) + (20 : Int32)) ≤ (800 : Int32) then (am_c (fX9_four s1 a1) (fun (s3 : AS) (v2 : Unit) => am_c (fX9_four s3 a2) (fun (s5 : AS) (v4 : Unit) => am_c (fX9_four s5 a3) (fun (s7 : AS) (v6 : Unit) => am_c (fX9_four s7 a4) (fun (s9 : AS) (v8 : Unit) => am_c (fX9_four s9 a5) (fun (s11 : AS) (v10 : Unit) => some (s11, s11.1 215 6))))))) else (some (s1, (-1 : Int32))))
def kX9_feed : List (Nat × Instr × Nat) := [(0, .aload_n 0, 1), (1, .iconst 0, 1), (2, .putfield 80, 3), (5, .aload_n 0, 1), (6, .getfield 97, 3), (9, .bipush 20, 2), (11, .iadd, 1), (12, .sipush 800, 3), (15, .if_icmp .le 5, 3), (18, .iconst (-1), 1), (19, .ireturn, 1), (20, .aload_n 0, 1), (21, .iload_n 1, 1), (22, .invokevirtual 100, 3), (25, .aload_n 0, 1), (26, .iload_n 2, 1), (27, .invokevirtual 100, 3), (30, .aload_n 0, 1), (31, .iload_n 3, 1), (32, .invokevirtual 100, 3), (35, .aload_n 0, 1), (36, .iload 4, 2), (38, .invokevirtual 100, 3), (41, .aload_n 0, 1), (42, .iload 5, 2), (44, .invokevirtual 100, 3), (47, .aload_n 0, 1), (48, .getfield 97, 3), (51, .ireturn, 1)]
theorem qX9_feed : ∀ q ∈ kX9_feed, decode mX9_feed.2.2.1 q.1 = .ok (q.2.1, q.2.2) ∧ am_iok mX9_feed.2.2.2.1 q.1 q.2.1 q.2.2 = true := by decide +kernel
set_option maxRecDepth 100000 in
theorem wX9_feed : Cond.code mX9_feed.2.1 mX9_feed.2.2.1 mX9_feed.2.2.2.1 mX9_feed.2.2.2.2.1 ∈ am_T := List.mem_filter.mpr ⟨List.mem_of_getElem? (i := 1469) rfl, rfl⟩
set_option maxHeartbeats 4000000 in
set_option maxRecDepth 100000 in
theorem tX9_feed (l : Launch) (d : Nat) {s0 : AS} {a1 : Int32} {a2 : Int32} {a3 : Int32} {a4 : Int32} {a5 : Int32} {sE : AS} {rE : Int32} (hf : fX9_feed s0 a1 a2 a3 a4 a5 = some (sE, rE)) : am_Ct l (d + 2) mX9_feed [.inr (.inr ((10, 0, 0), 215)), .inl a1, .inl a2, .inl a3, .inl a4, .inl a5] s0 sE (some (.inl rE)) := by
  refine am_sim l (d + 1) (code := kX9_feed) (by decide +kernel) wX9_feed qX9_feed (Nat.le_of_ble_eq_true rfl) ?_
  intro X hX
  show X 0 [(0, .inr (.inr ((10, 0, 0), 215))), (1, .inl a1), (2, .inl a2), (3, .inl a3), (4, .inl a4), (5, .inl a5)] [] s0
  unfold fX9_feed at hf
  refine am_blk hX 0 3 (And.intro rfl (am_nl (Z := fun s1 => X 5 [(0, .inr (.inr ((10, 0, 0), 215))), (1, .inl a1), (2, .inl a2), (3, .inl a3), (4, .inl a4), (5, .inl a5)] [] s1) hf (fun s1 hf => ?_)))
  refine am_blk hX 3 6 (And.intro rfl (And.intro (fun hb => ?_) (fun hb => ?_)))
  · have hf := am_it hf hb
    show X 20 [(0, .inr (.inr ((10, 0, 0), 215))), (1, .inl a1), (2, .inl a2), (3, .inl a3), (4, .inl a4), (5, .inl a5)] [] s1
    obtain ⟨s3, v2, hcv2, hf⟩ := am_c_of hf
    obtain ⟨s5, v4, hcv4, hf⟩ := am_c_of hf
    obtain ⟨s7, v6, hcv6, hf⟩ := am_c_of hf
    obtain ⟨s9, v8, hcv8, hf⟩ := am_c_of hf
    obtain ⟨s11, v10, hcv10, hf⟩ := am_c_of hf
    refine am_blk hX 11 18 (And.intro rfl (And.intro rfl (Exists.intro s3 (Exists.intro none (And.intro (tX9_four l (d + 0) hcv2) (And.intro rfl (And.intro rfl (Exists.intro s5 (Exists.intro none (And.intro (tX9_four l (d + 0) hcv4) (And.intro rfl (And.intro rfl (Exists.intro s7 (Exists.intro none (And.intro (tX9_four l (d + 0) hcv6) (And.intro rfl (And.intro rfl (Exists.intro s9 (Exists.intro none (And.intro (tX9_four l (d + 0) hcv8) (And.intro rfl (And.intro rfl (Exists.intro s11 (Exists.intro none (And.intro (tX9_four l (d + 0) hcv10) (And.intro rfl (am_ri hf)))))))))))))))))))))))))))
  · have hf := am_if hf hb
    show X 18 [(0, .inr (.inr ((10, 0, 0), 215))), (1, .inl a1), (2, .inl a2), (3, .inl a3), (4, .inl a4), (5, .inl a5)] [] s1
    refine am_blk hX 9 2 (am_ri hf)
def fX9_hasRead (s0 : AS) (a1 : Int32) : Option Int32 :=
  am_g (¬ (((28 : Int32) + a1) < 0 ∨ 35 ≤ ((28 : Int32) + a1).toNatClampNeg)) (some (s0.1 222 (((28 : Int32) + a1).toNatClampNeg)))
def kX9_hasRead : List (Nat × Instr × Nat) := [(0, .aload_n 0, 1), (1, .getfield 34, 3), (4, .bipush 28, 2), (6, .iload_n 1, 1), (7, .iadd, 1), (8, .iaload, 1), (9, .ireturn, 1)]
theorem qX9_hasRead : ∀ q ∈ kX9_hasRead, decode mX9_hasRead.2.2.1 q.1 = .ok (q.2.1, q.2.2) ∧ am_iok mX9_hasRead.2.2.2.1 q.1 q.2.1 q.2.2 = true := by decide +kernel
set_option maxRecDepth 100000 in
theorem wX9_hasRead : Cond.code mX9_hasRead.2.1 mX9_hasRead.2.2.1 mX9_hasRead.2.2.2.1 mX9_hasRead.2.2.2.2.1 ∈ am_T := List.mem_filter.mpr ⟨List.mem_of_getElem? (i := 1553) rfl, rfl⟩
set_option maxHeartbeats 4000000 in
set_option maxRecDepth 100000 in
theorem tX9_hasRead (l : Launch) (d : Nat) {s0 : AS} {a1 : Int32} {rE : Int32} (hf : fX9_hasRead s0 a1 = some rE) : am_Ct l (d + 1) mX9_hasRead [.inr (.inr ((10, 0, 0), 215)), .inl a1] s0 s0 (some (.inl rE)) := by
  refine am_sim l (d + 0) (code := kX9_hasRead) (by decide +kernel) wX9_hasRead qX9_hasRead (Nat.le_of_ble_eq_true rfl) ?_
  intro X hX
  show X 0 [(0, .inr (.inr ((10, 0, 0), 215))), (1, .inl a1)] [] s0
  unfold fX9_hasRead at hf
  obtain ⟨g1, hf⟩ := am_g_of hf
  refine am_blk hX 0 7 (And.intro rfl (And.intro rfl (And.intro g1 (am_rpi hf))))
def fX9_image (s0 : AS) (a1 : Int32) : Option (AS × Int32) :=
  am_let (am_si s0 215 0 (0 : Int32)) (fun (s1 : AS) => am_r (fX9_in a1.toInt64 (0 : Int64) (2 : Int64)) (fun (v2 : Int32) => if v2 = 0 then (some (s1, (-2 : Int32))) else (am_c (fX9_copyMarch s1 (0 : Int32) ((1 : Int32) + a1)) (fun (s4 : AS) (v3 : Unit) => am_g (¬ (a1 < 0 ∨ 3 ≤ a1.toNatClampNeg)) (am_let (am_si s4 227 (a1.toNatClampNeg) (vp_nar .boolean (1 : Int32))) (fun (s6 : AS) => some (s6, (0 : Int32))))))))
def kX9_image : List (Nat × Instr × Nat) := [(0, .aload_n 0, 1), (1, .iconst 0, 1), (2, .putfield 80, 3), (5, .iload_n 1, 1), (6, .i2l, 1), (7, .lconst 0, 1), (8, .ldc2_w 342, 3), (11, .invokestatic 85, 3), (14, .ifCond .ne 6, 3), (17, .bipush (-2), 2), (19, .ireturn, 1), (20, .aload_n 0, 1), (21, .iconst 0, 1), (22, .iconst 1, 1), (23, .iload_n 1, 1), (24, .iadd, 1), (25, .invokevirtual 241, 3), (28, .aload_n 0, 1), (29, .getfield 49, 3), (32, .iload_n 1, 1), (33, .iconst 1, 1), (34, .bastore, 1), (35, .iconst 0, 1), (36, .ireturn, 1)]
theorem qX9_image : ∀ q ∈ kX9_image, decode mX9_image.2.2.1 q.1 = .ok (q.2.1, q.2.2) ∧ am_iok mX9_image.2.2.2.1 q.1 q.2.1 q.2.2 = true := by decide +kernel
set_option maxRecDepth 100000 in
theorem wX9_image : Cond.code mX9_image.2.1 mX9_image.2.2.1 mX9_image.2.2.2.1 mX9_image.2.2.2.2.1 ∈ am_T := List.mem_filter.mpr ⟨List.mem_of_getElem? (i := 2017) rfl, rfl⟩
set_option maxHeartbeats 4000000 in
set_option maxRecDepth 100000 in
theorem tX9_image (l : Launch) (d : Nat) {s0 : AS} {a1 : Int32} {sE : AS} {rE : Int32} (hf : fX9_image s0 a1 = some (sE, rE)) : am_Ct l (d + 3) mX9_image [.inr (.inr ((10, 0, 0), 215)), .inl a1] s0 sE (some (.inl rE)) := by
  refine am_sim l (d + 2) (code := kX9_image) (by decide +kernel) wX9_image qX9_image (Nat.le_of_ble_eq_true rfl) ?_
  intro X hX
  show X 0 [(0, .inr (.inr ((10, 0, 0), 215))), (1, .inl a1)] [] s0
  unfold fX9_image at hf
  refine am_blk hX 0 3 (And.intro rfl (am_nl (Z := fun s1 => X 5 [(0, .inr (.inr ((10, 0, 0), 215))), (1, .inl a1)] [] s1) hf (fun s1 hf => ?_)))
  obtain ⟨v2, hcv2, hf⟩ := am_r_of hf
  refine am_blk hX 3 6 (And.intro rfl (Exists.intro s1 (Exists.intro (some (.inl v2)) (And.intro (tX9_in l (d + 1) hcv2) (And.intro (fun hb => ?_) (fun hb => ?_))))))
  · have hf := am_if hf hb
    show X 20 [(0, .inr (.inr ((10, 0, 0), 215))), (1, .inl a1)] [] s1
    obtain ⟨s4, v3, hcv3, hf⟩ := am_c_of hf
    obtain ⟨g5, hf⟩ := am_g_of hf
    refine am_blk hX 11 11 (And.intro rfl (And.intro rfl (Exists.intro s4 (Exists.intro none (And.intro (tX9_copyMarch l (d + 0) hcv3) (And.intro rfl (Or.inr (And.intro rfl (And.intro g5 (am_nl (Z := fun s6 => X 35 [(0, .inr (.inr ((10, 0, 0), 215))), (1, .inl a1)] [] s6) hf (fun s6 hf => ?_)))))))))))
    refine am_blk hX 22 2 (am_ri hf)
  · have hf := am_it hf hb
    show X 17 [(0, .inr (.inr ((10, 0, 0), 215))), (1, .inl a1)] [] s1
    refine am_blk hX 9 2 (am_ri hf)
def fX9_isGood (s0 : AS) : Option Int32 :=
  am_let (fun (x1 : Int32) => am_g (x1 = 0 ∨ x1 = 1) (some x1)) (fun J12 => if (s0.1 215 12) = 0 then (J12 (1 : Int32)) else (J12 (0 : Int32)))
def kX9_isGood : List (Nat × Instr × Nat) := [(0, .aload_n 0, 1), (1, .getfield 132, 3), (4, .ifCond .ne 7, 3), (7, .iconst 1, 1), (8, .goto 4, 3), (11, .iconst 0, 1), (12, .ireturn, 1)]
theorem qX9_isGood : ∀ q ∈ kX9_isGood, decode mX9_isGood.2.2.1 q.1 = .ok (q.2.1, q.2.2) ∧ am_iok mX9_isGood.2.2.2.1 q.1 q.2.1 q.2.2 = true := by decide +kernel
set_option maxRecDepth 100000 in
theorem wX9_isGood : Cond.code mX9_isGood.2.1 mX9_isGood.2.2.1 mX9_isGood.2.2.2.1 mX9_isGood.2.2.2.2.1 ∈ am_T := List.mem_filter.mpr ⟨List.mem_of_getElem? (i := 1514) rfl, rfl⟩
set_option maxHeartbeats 4000000 in
set_option maxRecDepth 100000 in
theorem tX9_isGood (l : Launch) (d : Nat) {s0 : AS} {rE : Int32} (hf : fX9_isGood s0 = some rE) : am_Ct l (d + 1) mX9_isGood [.inr (.inr ((10, 0, 0), 215))] s0 s0 (some (.inl rE)) := by
  refine am_sim l (d + 0) (code := kX9_isGood) (by decide +kernel) wX9_isGood qX9_isGood (Nat.le_of_ble_eq_true rfl) ?_
  intro X hX
  show X 0 [(0, .inr (.inr ((10, 0, 0), 215)))] [] s0
  unfold fX9_isGood at hf
  refine am_jn hf (fun J12 => ∀ (x1 : Int32), J12 x1 = some rE → X 12 [] [.inl x1] s0) ?_ ?_
  · intro x1 hf
    obtain ⟨g2, hf⟩ := am_g_of hf
    refine am_blk hX 6 1 (And.intro g2 (am_rpi hf))
  · intro J12 hJ12 hf
    refine am_blk hX 0 3 (And.intro rfl (And.intro (fun hb => ?_) (fun hb => ?_)))
    · have hf := am_if hf hb
      show X 11 [(0, .inr (.inr ((10, 0, 0), 215)))] [] s0
      refine am_blk hX 5 1 (?_)
      show X 12 [(0, .inr (.inr ((10, 0, 0), 215)))] [.inl (0 : Int32)] s0
      exact am_wk hX [] (hJ12 (0 : Int32) hf)
    · have hf := am_it hf hb
      show X 7 [(0, .inr (.inr ((10, 0, 0), 215)))] [] s0
      refine am_blk hX 3 2 (?_)
      show X 12 [(0, .inr (.inr ((10, 0, 0), 215)))] [.inl (1 : Int32)] s0
      exact am_wk hX [] (hJ12 (1 : Int32) hf)
def fX9_isOver (s0 : AS) : Option (AS × Unit) :=
  am_let (am_si s0 215 6 (0 : Int32)) (fun (s1 : AS) => am_let (am_si s1 215 14 (s1.1 215 12)) (fun (s2 : AS) => am_let (fun (x3 : Int32) => am_let (am_si s2 215 15 x3) (fun (s4 : AS) => some (s4, ()))) (fun J29 => if (s2.1 215 12) = 0 then (J29 (-1 : Int32)) else (J29 (s2.1 215 13)))))
def kX9_isOver : List (Nat × Instr × Nat) := [(0, .aload_n 0, 1), (1, .iconst 0, 1), (2, .putfield 97, 3), (5, .aload_n 0, 1), (6, .aload_n 0, 1), (7, .getfield 132, 3), (10, .putfield 159, 3), (13, .aload_n 0, 1), (14, .aload_n 0, 1), (15, .getfield 132, 3), (18, .ifCond .ne 7, 3), (21, .iconst (-1), 1), (22, .goto 7, 3), (25, .aload_n 0, 1), (26, .getfield 135, 3), (29, .putfield 27, 3), (32, .return_, 1)]
theorem qX9_isOver : ∀ q ∈ kX9_isOver, decode mX9_isOver.2.2.1 q.1 = .ok (q.2.1, q.2.2) ∧ am_iok mX9_isOver.2.2.2.1 q.1 q.2.1 q.2.2 = true := by decide +kernel
set_option maxRecDepth 100000 in
theorem wX9_isOver : Cond.code mX9_isOver.2.1 mX9_isOver.2.2.1 mX9_isOver.2.2.2.1 mX9_isOver.2.2.2.2.1 ∈ am_T := List.mem_filter.mpr ⟨List.mem_of_getElem? (i := 1590) rfl, rfl⟩
set_option maxHeartbeats 4000000 in
set_option maxRecDepth 100000 in
theorem tX9_isOver (l : Launch) (d : Nat) {s0 : AS} {sE : AS} {rE : Unit} (hf : fX9_isOver s0 = some (sE, rE)) : am_Ct l (d + 1) mX9_isOver [.inr (.inr ((10, 0, 0), 215))] s0 sE none := by
  refine am_sim l (d + 0) (code := kX9_isOver) (by decide +kernel) wX9_isOver qX9_isOver (Nat.le_of_ble_eq_true rfl) ?_
  intro X hX
  show X 0 [(0, .inr (.inr ((10, 0, 0), 215)))] [] s0
  unfold fX9_isOver at hf
  refine am_blk hX 0 3 (And.intro rfl (am_nl (Z := fun s1 => X 5 [(0, .inr (.inr ((10, 0, 0), 215)))] [] s1) hf (fun s1 hf => ?_)))
  refine am_blk hX 3 4 (And.intro rfl (And.intro rfl (am_nl (Z := fun s2 => X 13 [(0, .inr (.inr ((10, 0, 0), 215)))] [] s2) hf (fun s2 hf => ?_))))
  refine am_jn hf (fun J29 => ∀ (x3 : Int32), J29 x3 = some (sE, rE) → X 29 [] [.inl x3, .inr (.inr ((10, 0, 0), 215))] s2) ?_ ?_
  · intro x3 hf
    refine am_blk hX 15 1 (And.intro rfl (am_nl (Z := fun s4 => X 32 [] [] s4) hf (fun s4 hf => ?_)))
    refine am_blk hX 16 1 (And.intro rfl (am_rv hf))
  · intro J29 hJ29 hf
    refine am_blk hX 7 4 (And.intro rfl (And.intro (fun hb => ?_) (fun hb => ?_)))
    · have hf := am_if hf hb
      show X 25 [(0, .inr (.inr ((10, 0, 0), 215)))] [.inr (.inr ((10, 0, 0), 215))] s2
      refine am_blk hX 13 2 (And.intro rfl (?_))
      show X 29 [(0, .inr (.inr ((10, 0, 0), 215)))] [.inl (s2.1 215 13), .inr (.inr ((10, 0, 0), 215))] s2
      exact am_wk hX [] (hJ29 (s2.1 215 13) hf)
    · have hf := am_it hf hb
      show X 21 [(0, .inr (.inr ((10, 0, 0), 215)))] [.inr (.inr ((10, 0, 0), 215))] s2
      refine am_blk hX 11 2 (?_)
      show X 29 [(0, .inr (.inr ((10, 0, 0), 215)))] [.inl (-1 : Int32), .inr (.inr ((10, 0, 0), 215))] s2
      exact am_wk hX [] (hJ29 (-1 : Int32) hf)
def fX9_isRoom (s0 : AS) (a1 : Int32) (a2 : Int32) (a3 : Int32) : Option (AS × Int32) :=
  am_let (fun (s1 : AS) => am_let (fun (s2 : AS) => am_let (fun (x3 : Int32) => am_g (x3 = 0 ∨ x3 = 1) (some (s2, x3))) (fun J49 => am_let (J49 (0 : Int32)) (fun J48 => if a1 = 0 then (J48) else (if (s2.1 215 12) = 0 then (J49 (1 : Int32)) else (J48))))) (fun J33 => if a1 = 0 then (J33 s1) else (if (s1.1 215 12) = 0 then (am_c (fX9_goesOn s1) (fun (s6 : AS) (v5 : Unit) => J33 s6)) else (J33 s1)))) (fun J18 => if a1 = 0 then (J18 s0) else (am_r (fX9_hasRead s0 a2) (fun (v7 : Int32) => if v7 = a3 then (am_c (fX9_fails s0 (3 : Int32)) (fun (s9 : AS) (v8 : Unit) => J18 s9)) else (J18 s0))))
def kX9_isRoom : List (Nat × Instr × Nat) := [(0, .iload_n 1, 1), (1, .ifCond .eq 17, 3), (4, .aload_n 0, 1), (5, .iload_n 2, 1), (6, .invokevirtual 162, 3), (9, .iload_n 3, 1), (10, .if_icmp .ne 8, 3), (13, .aload_n 0, 1), (14, .iconst 3, 1), (15, .invokevirtual 148, 3), (18, .iload_n 1, 1), (19, .ifCond .eq 14, 3), (22, .aload_n 0, 1), (23, .getfield 132, 3), (26, .ifCond .ne 7, 3), (29, .aload_n 0, 1), (30, .invokevirtual 142, 3), (33, .iload_n 1, 1), (34, .ifCond .eq 14, 3), (37, .aload_n 0, 1), (38, .getfield 132, 3), (41, .ifCond .ne 7, 3), (44, .iconst 1, 1), (45, .goto 4, 3), (48, .iconst 0, 1), (49, .ireturn, 1)]
theorem qX9_isRoom : ∀ q ∈ kX9_isRoom, decode mX9_isRoom.2.2.1 q.1 = .ok (q.2.1, q.2.2) ∧ am_iok mX9_isRoom.2.2.2.1 q.1 q.2.1 q.2.2 = true := by decide +kernel
set_option maxRecDepth 100000 in
theorem wX9_isRoom : Cond.code mX9_isRoom.2.1 mX9_isRoom.2.2.1 mX9_isRoom.2.2.2.1 mX9_isRoom.2.2.2.2.1 ∈ am_T := List.mem_filter.mpr ⟨List.mem_of_getElem? (i := 1564) rfl, rfl⟩
set_option maxHeartbeats 4000000 in
set_option maxRecDepth 100000 in
theorem tX9_isRoom (l : Launch) (d : Nat) {s0 : AS} {a1 : Int32} {a2 : Int32} {a3 : Int32} {sE : AS} {rE : Int32} (hf : fX9_isRoom s0 a1 a2 a3 = some (sE, rE)) : am_Ct l (d + 3) mX9_isRoom [.inr (.inr ((10, 0, 0), 215)), .inl a1, .inl a2, .inl a3] s0 sE (some (.inl rE)) := by
  refine am_sim l (d + 2) (code := kX9_isRoom) (by decide +kernel) wX9_isRoom qX9_isRoom (Nat.le_of_ble_eq_true rfl) ?_
  intro X hX
  show X 0 [(0, .inr (.inr ((10, 0, 0), 215))), (1, .inl a1), (2, .inl a2), (3, .inl a3)] [] s0
  unfold fX9_isRoom at hf
  refine am_jn hf (fun J18 => ∀ (s1 : AS), J18 s1 = some (sE, rE) → X 18 [(0, .inr (.inr ((10, 0, 0), 215))), (1, .inl a1)] [] s1) ?_ ?_
  · intro s1 hf
    refine am_jn hf (fun J33 => ∀ (s2 : AS), J33 s2 = some (sE, rE) → X 33 [(0, .inr (.inr ((10, 0, 0), 215))), (1, .inl a1)] [] s2) ?_ ?_
    · intro s2 hf
      refine am_jn hf (fun J49 => ∀ (x3 : Int32), J49 x3 = some (sE, rE) → X 49 [] [.inl x3] s2) ?_ ?_
      · intro x3 hf
        obtain ⟨g4, hf⟩ := am_g_of hf
        refine am_blk hX 25 1 (And.intro g4 (am_ri hf))
      · intro J49 hJ49 hf
        refine am_jn hf (fun J48 => J48 = some (sE, rE) → X 48 [] [] s2) ?_ ?_
        · intro hf
          refine am_blk hX 24 1 (?_)
          show X 49 [] [.inl (0 : Int32)] s2
          exact am_wk hX [] (hJ49 (0 : Int32) hf)
        · intro J48 hJ48 hf
          refine am_blk hX 17 2 (And.intro (fun hb => ?_) (fun hb => ?_))
          · have hf := am_it hf hb
            show X 48 [(0, .inr (.inr ((10, 0, 0), 215))), (1, .inl a1)] [] s2
            exact am_wk hX [] (hJ48 hf)
          · have hf := am_if hf hb
            show X 37 [(0, .inr (.inr ((10, 0, 0), 215))), (1, .inl a1)] [] s2
            refine am_blk hX 19 3 (And.intro rfl (And.intro (fun hb => ?_) (fun hb => ?_)))
            · have hf := am_if hf hb
              show X 48 [(0, .inr (.inr ((10, 0, 0), 215))), (1, .inl a1)] [] s2
              exact am_wk hX [] (hJ48 hf)
            · have hf := am_it hf hb
              show X 44 [(0, .inr (.inr ((10, 0, 0), 215))), (1, .inl a1)] [] s2
              refine am_blk hX 22 2 (?_)
              show X 49 [(0, .inr (.inr ((10, 0, 0), 215))), (1, .inl a1)] [.inl (1 : Int32)] s2
              exact am_wk hX [] (hJ49 (1 : Int32) hf)
    · intro J33 hJ33 hf
      refine am_blk hX 10 2 (And.intro (fun hb => ?_) (fun hb => ?_))
      · have hf := am_it hf hb
        show X 33 [(0, .inr (.inr ((10, 0, 0), 215))), (1, .inl a1)] [] s1
        exact am_wk hX [0, 1] (hJ33 s1 hf)
      · have hf := am_if hf hb
        show X 22 [(0, .inr (.inr ((10, 0, 0), 215))), (1, .inl a1)] [] s1
        refine am_blk hX 12 3 (And.intro rfl (And.intro (fun hb => ?_) (fun hb => ?_)))
        · have hf := am_if hf hb
          show X 33 [(0, .inr (.inr ((10, 0, 0), 215))), (1, .inl a1)] [] s1
          exact am_wk hX [0, 1] (hJ33 s1 hf)
        · have hf := am_it hf hb
          show X 29 [(0, .inr (.inr ((10, 0, 0), 215))), (1, .inl a1)] [] s1
          obtain ⟨s6, v5, hcv5, hf⟩ := am_c_of hf
          refine am_blk hX 15 2 (And.intro rfl (And.intro rfl (Exists.intro s6 (Exists.intro none (And.intro (tX9_goesOn l (d + 0) hcv5) (?_))))))
          show X 33 [(0, .inr (.inr ((10, 0, 0), 215))), (1, .inl a1)] [] s6
          exact am_wk hX [0, 1] (hJ33 s6 hf)
  · intro J18 hJ18 hf
    refine am_blk hX 0 2 (And.intro (fun hb => ?_) (fun hb => ?_))
    · have hf := am_it hf hb
      show X 18 [(0, .inr (.inr ((10, 0, 0), 215))), (1, .inl a1), (2, .inl a2), (3, .inl a3)] [] s0
      exact am_wk hX [0, 1] (hJ18 s0 hf)
    · have hf := am_if hf hb
      show X 4 [(0, .inr (.inr ((10, 0, 0), 215))), (1, .inl a1), (2, .inl a2), (3, .inl a3)] [] s0
      obtain ⟨v7, hcv7, hf⟩ := am_r_of hf
      refine am_blk hX 2 5 (And.intro rfl (And.intro rfl (Exists.intro s0 (Exists.intro (some (.inl v7)) (And.intro (tX9_hasRead l (d + 1) hcv7) (And.intro (fun hb => ?_) (fun hb => ?_)))))))
      · have hf := am_if hf hb
        show X 18 [(0, .inr (.inr ((10, 0, 0), 215))), (1, .inl a1), (2, .inl a2), (3, .inl a3)] [] s0
        exact am_wk hX [0, 1] (hJ18 s0 hf)
      · have hf := am_it hf hb
        show X 13 [(0, .inr (.inr ((10, 0, 0), 215))), (1, .inl a1), (2, .inl a2), (3, .inl a3)] [] s0
        obtain ⟨s9, v8, hcv8, hf⟩ := am_c_of hf
        refine am_blk hX 7 3 (And.intro rfl (And.intro rfl (Exists.intro s9 (Exists.intro none (And.intro (tX9_fails l (d + 1) hcv8) (?_))))))
        show X 18 [(0, .inr (.inr ((10, 0, 0), 215))), (1, .inl a1), (2, .inl a2), (3, .inl a3)] [] s9
        exact am_wk hX [0, 1] (hJ18 s9 hf)
def fX9_joins (s0 : AS) (a1 : Int32) : Option (AS × Int32) :=
  am_let (am_si s0 215 0 (0 : Int32)) (fun (s1 : AS) => am_r (fX9_isPerson s1 a1.toInt64) (fun (v2 : Int32) => if v2 = 0 then (some (s1, (-2 : Int32))) else (am_c (fX9_laysNow s1) (fun (s4 : AS) (v3 : Unit) => am_g (¬ (a1 < 0 ∨ 8 ≤ a1.toNatClampNeg)) (some (s4, s4.1 233 a1.toNatClampNeg))))))
def kX9_joins : List (Nat × Instr × Nat) := [(0, .aload_n 0, 1), (1, .iconst 0, 1), (2, .putfield 80, 3), (5, .aload_n 0, 1), (6, .iload_n 1, 1), (7, .i2l, 1), (8, .invokevirtual 344, 3), (11, .ifCond .ne 6, 3), (14, .bipush (-2), 2), (16, .ireturn, 1), (17, .aload_n 0, 1), (18, .invokevirtual 358, 3), (21, .aload_n 0, 1), (22, .getfield 68, 3), (25, .iload_n 1, 1), (26, .iaload, 1), (27, .ireturn, 1)]
theorem qX9_joins : ∀ q ∈ kX9_joins, decode mX9_joins.2.2.1 q.1 = .ok (q.2.1, q.2.2) ∧ am_iok mX9_joins.2.2.2.1 q.1 q.2.1 q.2.2 = true := by decide +kernel
set_option maxRecDepth 100000 in
theorem wX9_joins : Cond.code mX9_joins.2.1 mX9_joins.2.2.1 mX9_joins.2.2.2.1 mX9_joins.2.2.2.2.1 ∈ am_T := List.mem_filter.mpr ⟨List.mem_of_getElem? (i := 1710) rfl, rfl⟩
set_option maxHeartbeats 4000000 in
set_option maxRecDepth 100000 in
theorem tX9_joins (l : Launch) (d : Nat) {s0 : AS} {a1 : Int32} {sE : AS} {rE : Int32} (hf : fX9_joins s0 a1 = some (sE, rE)) : am_Ct l (d + 6) mX9_joins [.inr (.inr ((10, 0, 0), 215)), .inl a1] s0 sE (some (.inl rE)) := by
  refine am_sim l (d + 5) (code := kX9_joins) (by decide +kernel) wX9_joins qX9_joins (Nat.le_of_ble_eq_true rfl) ?_
  intro X hX
  show X 0 [(0, .inr (.inr ((10, 0, 0), 215))), (1, .inl a1)] [] s0
  unfold fX9_joins at hf
  refine am_blk hX 0 3 (And.intro rfl (am_nl (Z := fun s1 => X 5 [(0, .inr (.inr ((10, 0, 0), 215))), (1, .inl a1)] [] s1) hf (fun s1 hf => ?_)))
  obtain ⟨v2, hcv2, hf⟩ := am_r_of hf
  refine am_blk hX 3 5 (And.intro rfl (And.intro rfl (Exists.intro s1 (Exists.intro (some (.inl v2)) (And.intro (tX9_isPerson l (d + 3) hcv2) (And.intro (fun hb => ?_) (fun hb => ?_)))))))
  · have hf := am_if hf hb
    show X 17 [(0, .inr (.inr ((10, 0, 0), 215))), (1, .inl a1)] [] s1
    obtain ⟨s4, v3, hcv3, hf⟩ := am_c_of hf
    obtain ⟨g5, hf⟩ := am_g_of hf
    refine am_blk hX 10 7 (And.intro rfl (And.intro rfl (Exists.intro s4 (Exists.intro none (And.intro (tX9_laysNow l (d + 0) hcv3) (And.intro rfl (And.intro rfl (And.intro g5 (am_ri hf)))))))))
  · have hf := am_it hf hb
    show X 14 [(0, .inr (.inr ((10, 0, 0), 215))), (1, .inl a1)] [] s1
    refine am_blk hX 8 2 (am_ri hf)
