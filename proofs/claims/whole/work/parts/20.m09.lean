/-! METHODS, printed by gen.py. -/
def fX8_splits_L22 (a1 : Int32) (s3 : AS) : Nat → Int32 → Int32 → Int32 → Option (AS × Int32)
  | 0, _, _, _ => none
  | n22 + 1, x4, x5, x6 =>
    if (s3.1 25 1) ≤ x6 then (some (s3, x4)) else (am_r (fX8_votesFor s3 a1 x6) (fun (v7 : Int32) => am_let (x4 + (v7 * x5)) (fun (x8 : Int32) => am_let (x5 + v7) (fun (x9 : Int32) => am_let (x6 + (1 : Int32)) (fun (x10 : Int32) => fX8_splits_L22 a1 s3 n22 x8 x9 x10)))))
def fX8_splits (s0 : AS) (a1 : Int32) : Option (AS × Int32) :=
  am_r (fX8_isStep s0 a1) (fun (v1 : Int32) => if v1 = 0 then (some (s0, (-2 : Int32))) else (am_c (fX8_tell s0) (fun (s3 : AS) (v2 : Unit) => fX8_splits_L22 a1 s3 am_fu (0 : Int32) (0 : Int32) (0 : Int32))))
def kX8_splits : List (Nat × Instr × Nat) := [(0, .aload_n 0, 1), (1, .iload_n 1, 1), (2, .invokevirtual 209, 3), (5, .ifCond .ne 6, 3), (8, .bipush (-2), 2), (10, .ireturn, 1), (11, .aload_n 0, 1), (12, .invokevirtual 165, 3), (15, .iconst 0, 1), (16, .istore_n 2, 1), (17, .iconst 0, 1), (18, .istore_n 3, 1), (19, .iconst 0, 1), (20, .istore 4, 2), (22, .iload 4, 2), (24, .aload_n 0, 1), (25, .getfield 29, 3), (28, .getfield 117, 3), (31, .if_icmp .ge 30, 3), (34, .aload_n 0, 1), (35, .iload_n 1, 1), (36, .iload 4, 2), (38, .invokevirtual 225, 3), (41, .istore 5, 2), (43, .iload_n 2, 1), (44, .iload 5, 2), (46, .iload_n 3, 1), (47, .imul, 1), (48, .iadd, 1), (49, .istore_n 2, 1), (50, .iload_n 3, 1), (51, .iload 5, 2), (53, .iadd, 1), (54, .istore_n 3, 1), (55, .iinc 4 1, 3), (58, .goto (-36), 3), (61, .iload_n 2, 1), (62, .ireturn, 1)]
theorem qX8_splits : ∀ q ∈ kX8_splits, decode mX8_splits.2.2.1 q.1 = .ok (q.2.1, q.2.2) ∧ am_iok mX8_splits.2.2.2.1 q.1 q.2.1 q.2.2 = true := by decide +kernel
set_option maxRecDepth 100000 in
theorem wX8_splits : Cond.code mX8_splits.2.1 mX8_splits.2.2.1 mX8_splits.2.2.2.1 mX8_splits.2.2.2.2.1 ∈ am_T := List.mem_filter.mpr ⟨List.mem_of_getElem? (i := 946) rfl, rfl⟩
set_option maxHeartbeats 4000000 in
set_option maxRecDepth 100000 in
theorem tX8_splits (l : Launch) (d : Nat) {s0 : AS} {a1 : Int32} {sE : AS} {rE : Int32} (hf : fX8_splits s0 a1 = some (sE, rE)) : am_Ct l (d + 6) mX8_splits [.inr (.inr ((9, 0, 0), 0)), .inl a1] s0 sE (some (.inl rE)) := by
  refine am_sim l (d + 5) (code := kX8_splits) (by decide +kernel) wX8_splits qX8_splits (Nat.le_of_ble_eq_true rfl) ?_
  intro X hX
  show X 0 [(0, .inr (.inr ((9, 0, 0), 0))), (1, .inl a1)] [] s0
  unfold fX8_splits at hf
  obtain ⟨v1, hcv1, hf⟩ := am_r_of hf
  refine am_blk hX 0 4 (And.intro rfl (And.intro rfl (Exists.intro s0 (Exists.intro (some (.inl v1)) (And.intro (tX8_isStep l (d + 3) hcv1) (And.intro (fun hb => ?_) (fun hb => ?_)))))))
  · have hf := am_if hf hb
    show X 11 [(0, .inr (.inr ((9, 0, 0), 0))), (1, .inl a1)] [] s0
    obtain ⟨s3, v2, hcv2, hf⟩ := am_c_of hf
    have hL22 : ∀ (n22 : Nat) (x4 : Int32) (x5 : Int32) (x6 : Int32), fX8_splits_L22 a1 s3 n22 x4 x5 x6 = some (sE, rE) → X 22 [(0, .inr (.inr ((9, 0, 0), 0))), (1, .inl a1), (2, .inl x4), (3, .inl x5), (4, .inl x6)] [] s3 := by
      intro n22
      induction n22 with
      | zero => intro x4 x5 x6 hf; exact am_no (show none = some _ from hf)
      | succ n22 ih22 =>
        intro x4 x5 x6 hf
        refine am_blk hX 14 5 (And.intro rfl (And.intro rfl (And.intro (fun hb => ?_) (fun hb => ?_))))
        · have hf := am_it hf hb
          show X 61 [(0, .inr (.inr ((9, 0, 0), 0))), (1, .inl a1), (2, .inl x4), (3, .inl x5), (4, .inl x6)] [] s3
          refine am_blk hX 36 2 (am_ri hf)
        · have hf := am_if hf hb
          show X 34 [(0, .inr (.inr ((9, 0, 0), 0))), (1, .inl a1), (2, .inl x4), (3, .inl x5), (4, .inl x6)] [] s3
          obtain ⟨v7, hcv7, hf⟩ := am_r_of hf
          refine am_blk hX 19 11 (And.intro rfl (And.intro rfl (Exists.intro s3 (Exists.intro (some (.inl v7)) (And.intro (tX8_votesFor l (d + 1) hcv7) (am_nl (Z := fun x8 => X 50 [(2, .inl x8), (5, .inl v7), (0, .inr (.inr ((9, 0, 0), 0))), (1, .inl a1), (3, .inl x5), (4, .inl x6)] [] s3) hf (fun x8 hf => ?_)))))))
          refine am_blk hX 30 4 (am_nl (Z := fun x9 => X 55 [(3, .inl x9), (2, .inl x8), (5, .inl v7), (0, .inr (.inr ((9, 0, 0), 0))), (1, .inl a1), (4, .inl x6)] [] s3) hf (fun x9 hf => ?_))
          refine am_blk hX 34 1 (am_nl (Z := fun x10 => X 58 [(4, .inl x10), (3, .inl x9), (2, .inl x8), (5, .inl v7), (0, .inr (.inr ((9, 0, 0), 0))), (1, .inl a1)] [] s3) hf (fun x10 hf => ?_))
          refine am_blk hX 35 1 (?_)
          show X 22 [(4, .inl x10), (3, .inl x9), (2, .inl x8), (5, .inl v7), (0, .inr (.inr ((9, 0, 0), 0))), (1, .inl a1)] [] s3
          exact am_wk hX [4, 5, 2, 1, 0] (ih22 x8 x9 x10 hf)
    refine am_blk hX 6 8 (And.intro rfl (And.intro rfl (Exists.intro s3 (Exists.intro none (And.intro (tX8_tell l (d + 0) hcv2) (?_))))))
    show X 22 [(4, .inl (0 : Int32)), (3, .inl (0 : Int32)), (2, .inl (0 : Int32)), (0, .inr (.inr ((9, 0, 0), 0))), (1, .inl a1)] [] s3
    exact am_wk hX [3, 4, 2, 1, 0] (hL22 am_fu (0 : Int32) (0 : Int32) (0 : Int32) hf)
  · have hf := am_it hf hb
    show X 8 [(0, .inr (.inr ((9, 0, 0), 0))), (1, .inl a1)] [] s0
    refine am_blk hX 4 2 (am_ri hf)
def fX8_starts (s0 : AS) (a1 : Int32) : Option (AS × Int32) :=
  am_r (fX8_lacksRow s0 a1) (fun (v1 : Int32) => if v1 = 0 then (am_g (¬ (a1 < 0 ∨ 4 ≤ a1.toNatClampNeg)) (am_r (fX8_tellsFalls s0 (130 + 2 * a1.toNatClampNeg)) (fun (v3 : Int32) => am_let (fun (s4 : AS) (x5 : Int32) => some (s4, x5)) (fun J40 => if v3 = 0 then (J40 s0 (-2 : Int32)) else (am_g (¬ (a1 < 0 ∨ 4 ≤ a1.toNatClampNeg)) (am_c (fX8_startsBy s0 (130 + 2 * a1.toNatClampNeg)) (fun (s8 : AS) (v7 : Int32) => J40 s8 v7))))))) else (some (s0, v1)))
def kX8_starts : List (Nat × Instr × Nat) := [(0, .aload_n 0, 1), (1, .iload_n 1, 1), (2, .invokevirtual 326, 3), (5, .istore_n 2, 1), (6, .iload_n 2, 1), (7, .ifCond .eq 5, 3), (10, .iload_n 2, 1), (11, .ireturn, 1), (12, .aload_n 0, 1), (13, .aload_n 0, 1), (14, .getfield 47, 3), (17, .iload_n 1, 1), (18, .aaload, 1), (19, .invokevirtual 329, 3), (22, .ifCond .eq 16, 3), (25, .aload_n 0, 1), (26, .aload_n 0, 1), (27, .getfield 47, 3), (30, .iload_n 1, 1), (31, .aaload, 1), (32, .invokevirtual 333, 3), (35, .goto 5, 3), (38, .bipush (-2), 2), (40, .ireturn, 1)]
theorem qX8_starts : ∀ q ∈ kX8_starts, decode mX8_starts.2.2.1 q.1 = .ok (q.2.1, q.2.2) ∧ am_iok mX8_starts.2.2.2.1 q.1 q.2.1 q.2.2 = true := by decide +kernel
set_option maxRecDepth 100000 in
theorem wX8_starts : Cond.code mX8_starts.2.1 mX8_starts.2.2.1 mX8_starts.2.2.2.1 mX8_starts.2.2.2.2.1 ∈ am_T := List.mem_filter.mpr ⟨List.mem_of_getElem? (i := 1076) rfl, rfl⟩
set_option maxHeartbeats 4000000 in
set_option maxRecDepth 100000 in
theorem tX8_starts (l : Launch) (d : Nat) {s0 : AS} {a1 : Int32} {sE : AS} {rE : Int32} (hf : fX8_starts s0 a1 = some (sE, rE)) : am_Ct l (d + 7) mX8_starts [.inr (.inr ((9, 0, 0), 0)), .inl a1] s0 sE (some (.inl rE)) := by
  refine am_sim l (d + 6) (code := kX8_starts) (by decide +kernel) wX8_starts qX8_starts (Nat.le_of_ble_eq_true rfl) ?_
  intro X hX
  show X 0 [(0, .inr (.inr ((9, 0, 0), 0))), (1, .inl a1)] [] s0
  unfold fX8_starts at hf
  obtain ⟨v1, hcv1, hf⟩ := am_r_of hf
  refine am_blk hX 0 6 (And.intro rfl (And.intro rfl (Exists.intro s0 (Exists.intro (some (.inl v1)) (And.intro (tX8_lacksRow l (d + 4) hcv1) (And.intro (fun hb => ?_) (fun hb => ?_)))))))
  · have hf := am_it hf hb
    show X 12 [(2, .inl v1), (0, .inr (.inr ((9, 0, 0), 0))), (1, .inl a1)] [] s0
    obtain ⟨g2, hf⟩ := am_g_of hf
    obtain ⟨v3, hcv3, hf⟩ := am_r_of hf
    refine am_jn hf (fun J40 => ∀ (s4 : AS) (x5 : Int32), J40 s4 x5 = some (sE, rE) → X 40 [] [.inl x5] s4) ?_ ?_
    · intro s4 x5 hf
      refine am_blk hX 23 1 (am_ri hf)
    · intro J40 hJ40 hf
      refine am_blk hX 8 7 (And.intro rfl (And.intro g2 (And.intro rfl (And.intro rfl (Exists.intro s0 (Exists.intro (some (.inl v3)) (And.intro (tX8_tellsFalls l (d + 5) hcv3) (And.intro (fun hb => ?_) (fun hb => ?_)))))))))
      · have hf := am_it hf hb
        show X 38 [(2, .inl v1), (0, .inr (.inr ((9, 0, 0), 0))), (1, .inl a1)] [] s0
        refine am_blk hX 22 1 (?_)
        show X 40 [(2, .inl v1), (0, .inr (.inr ((9, 0, 0), 0))), (1, .inl a1)] [.inl (-2 : Int32)] s0
        exact am_wk hX [] (hJ40 s0 (-2 : Int32) hf)
      · have hf := am_if hf hb
        show X 25 [(2, .inl v1), (0, .inr (.inr ((9, 0, 0), 0))), (1, .inl a1)] [] s0
        obtain ⟨g6, hf⟩ := am_g_of hf
        obtain ⟨s8, v7, hcv7, hf⟩ := am_c_of hf
        refine am_blk hX 15 7 (And.intro rfl (And.intro g6 (And.intro rfl (And.intro rfl (Exists.intro s8 (Exists.intro (some (.inl v7)) (And.intro (tX8_startsBy l (d + 0) hcv7) (?_))))))))
        show X 40 [(2, .inl v1), (0, .inr (.inr ((9, 0, 0), 0))), (1, .inl a1)] [.inl v7] s8
        exact am_wk hX [] (hJ40 s8 v7 hf)
  · have hf := am_if hf hb
    show X 10 [(2, .inl v1), (0, .inr (.inr ((9, 0, 0), 0))), (1, .inl a1)] [] s0
    refine am_blk hX 6 2 (am_ri hf)
def fX8_stoppingSet_L8 (a1 : Int32) : Nat → AS → Int32 → Int32 → Option (AS × Int32)
  | 0, _, _, _ => none
  | n8 + 1, s3, x4, x5 =>
    if (64 : Int32) ≤ x5 then (some (s3, x4)) else (am_let (fun (x6 : Int32) => am_let (fun (s7 : AS) (x8 : Int32) => am_let (x5 + (1 : Int32)) (fun (x9 : Int32) => fX8_stoppingSet_L8 a1 n8 s7 x8 x9)) (fun J61 => if x6 = 0 then (J61 s3 x4) else (am_c (fX8_comesAnswered s3 a1 x5) (fun (s11 : AS) (v10 : Int32) => if v10 = 0 then (J61 s11 x5) else (J61 s11 x4))))) (fun J43 => am_let (J43 (1 : Int32)) (fun J38 => if x4 = (-1 : Int32) then (J38) else (am_r (fX3_costOf s3 25 x5) (fun (v12 : Int32) => am_r (fX3_costOf s3 25 x4) (fun (v13 : Int32) => if v13 ≤ v12 then (J43 (0 : Int32)) else (J38)))))))
def fX8_stoppingSet (s0 : AS) (a1 : Int32) : Option (AS × Int32) :=
  am_c (fX8_tell s0) (fun (s2 : AS) (v1 : Unit) => fX8_stoppingSet_L8 a1 am_fu s2 (-1 : Int32) (0 : Int32))
def kX8_stoppingSet : List (Nat × Instr × Nat) := [(0, .aload_n 0, 1), (1, .invokevirtual 165, 3), (4, .iconst (-1), 1), (5, .istore_n 2, 1), (6, .iconst 0, 1), (7, .istore_n 3, 1), (8, .iload_n 3, 1), (9, .bipush 64, 2), (11, .if_icmp .ge 56, 3), (14, .iload_n 2, 1), (15, .iconst (-1), 1), (16, .if_icmp .eq 22, 3), (19, .aload_n 0, 1), (20, .getfield 29, 3), (23, .iload_n 3, 1), (24, .invokevirtual 291, 3), (27, .aload_n 0, 1), (28, .getfield 29, 3), (31, .iload_n 2, 1), (32, .invokevirtual 291, 3), (35, .if_icmp .ge 7, 3), (38, .iconst 1, 1), (39, .goto 4, 3), (42, .iconst 0, 1), (43, .istore 4, 2), (45, .iload 4, 2), (47, .ifCond .eq 14, 3), (50, .aload_n 0, 1), (51, .iload_n 1, 1), (52, .iload_n 3, 1), (53, .invokevirtual 294, 3), (56, .ifCond .ne 5, 3), (59, .iload_n 3, 1), (60, .istore_n 2, 1), (61, .iinc 3 1, 3), (64, .goto (-56), 3), (67, .iload_n 2, 1), (68, .ireturn, 1)]
theorem qX8_stoppingSet : ∀ q ∈ kX8_stoppingSet, decode mX8_stoppingSet.2.2.1 q.1 = .ok (q.2.1, q.2.2) ∧ am_iok mX8_stoppingSet.2.2.2.1 q.1 q.2.1 q.2.2 = true := by decide +kernel
set_option maxRecDepth 100000 in
theorem wX8_stoppingSet : Cond.code mX8_stoppingSet.2.1 mX8_stoppingSet.2.2.1 mX8_stoppingSet.2.2.2.1 mX8_stoppingSet.2.2.2.2.1 ∈ am_T := List.mem_filter.mpr ⟨List.mem_of_getElem? (i := 1015) rfl, rfl⟩
set_option maxHeartbeats 4000000 in
set_option maxRecDepth 100000 in
theorem tX8_stoppingSet (l : Launch) (d : Nat) {s0 : AS} {a1 : Int32} {sE : AS} {rE : Int32} (hf : fX8_stoppingSet s0 a1 = some (sE, rE)) : am_Ct l (d + 6) mX8_stoppingSet [.inr (.inr ((9, 0, 0), 0)), .inl a1] s0 sE (some (.inl rE)) := by
  refine am_sim l (d + 5) (code := kX8_stoppingSet) (by decide +kernel) wX8_stoppingSet qX8_stoppingSet (Nat.le_of_ble_eq_true rfl) ?_
  intro X hX
  show X 0 [(0, .inr (.inr ((9, 0, 0), 0))), (1, .inl a1)] [] s0
  unfold fX8_stoppingSet at hf
  obtain ⟨s2, v1, hcv1, hf⟩ := am_c_of hf
  have hL8 : ∀ (n8 : Nat) (s3 : AS) (x4 : Int32) (x5 : Int32), fX8_stoppingSet_L8 a1 n8 s3 x4 x5 = some (sE, rE) → X 8 [(0, .inr (.inr ((9, 0, 0), 0))), (1, .inl a1), (2, .inl x4), (3, .inl x5)] [] s3 := by
    intro n8
    induction n8 with
    | zero => intro s3 x4 x5 hf; exact am_no (show none = some _ from hf)
    | succ n8 ih8 =>
      intro s3 x4 x5 hf
      refine am_blk hX 6 3 (And.intro (fun hb => ?_) (fun hb => ?_))
      · have hf := am_it hf hb
        show X 67 [(0, .inr (.inr ((9, 0, 0), 0))), (1, .inl a1), (2, .inl x4), (3, .inl x5)] [] s3
        refine am_blk hX 36 2 (am_ri hf)
      · have hf := am_if hf hb
        show X 14 [(0, .inr (.inr ((9, 0, 0), 0))), (1, .inl a1), (2, .inl x4), (3, .inl x5)] [] s3
        refine am_jn hf (fun J43 => ∀ (x6 : Int32), J43 x6 = some (sE, rE) → X 43 [(0, .inr (.inr ((9, 0, 0), 0))), (1, .inl a1), (2, .inl x4), (3, .inl x5)] [.inl x6] s3) ?_ ?_
        · intro x6 hf
          refine am_jn hf (fun J61 => ∀ (s7 : AS) (x8 : Int32), J61 s7 x8 = some (sE, rE) → X 61 [(0, .inr (.inr ((9, 0, 0), 0))), (1, .inl a1), (2, .inl x8), (3, .inl x5)] [] s7) ?_ ?_
          · intro s7 x8 hf
            refine am_blk hX 34 1 (am_nl (Z := fun x9 => X 64 [(3, .inl x9), (0, .inr (.inr ((9, 0, 0), 0))), (1, .inl a1), (2, .inl x8)] [] s7) hf (fun x9 hf => ?_))
            refine am_blk hX 35 1 (?_)
            show X 8 [(3, .inl x9), (0, .inr (.inr ((9, 0, 0), 0))), (1, .inl a1), (2, .inl x8)] [] s7
            exact am_wk hX [1, 2, 3, 0] (ih8 s7 x8 x9 hf)
          · intro J61 hJ61 hf
            refine am_blk hX 24 3 (And.intro (fun hb => ?_) (fun hb => ?_))
            · have hf := am_it hf hb
              show X 61 [(4, .inl x6), (0, .inr (.inr ((9, 0, 0), 0))), (1, .inl a1), (2, .inl x4), (3, .inl x5)] [] s3
              exact am_wk hX [1, 2, 3, 4] (hJ61 s3 x4 hf)
            · have hf := am_if hf hb
              show X 50 [(4, .inl x6), (0, .inr (.inr ((9, 0, 0), 0))), (1, .inl a1), (2, .inl x4), (3, .inl x5)] [] s3
              obtain ⟨s11, v10, hcv10, hf⟩ := am_c_of hf
              refine am_blk hX 27 5 (And.intro rfl (And.intro rfl (Exists.intro s11 (Exists.intro (some (.inl v10)) (And.intro (tX8_comesAnswered l (d + 0) hcv10) (And.intro (fun hb => ?_) (fun hb => ?_)))))))
              · have hf := am_if hf hb
                show X 61 [(4, .inl x6), (0, .inr (.inr ((9, 0, 0), 0))), (1, .inl a1), (2, .inl x4), (3, .inl x5)] [] s11
                exact am_wk hX [1, 2, 3, 4] (hJ61 s11 x4 hf)
              · have hf := am_it hf hb
                show X 59 [(4, .inl x6), (0, .inr (.inr ((9, 0, 0), 0))), (1, .inl a1), (2, .inl x4), (3, .inl x5)] [] s11
                refine am_blk hX 32 2 (?_)
                show X 61 [(2, .inl x5), (4, .inl x6), (0, .inr (.inr ((9, 0, 0), 0))), (1, .inl a1), (3, .inl x5)] [] s11
                exact am_wk hX [2, 3, 0, 4] (hJ61 s11 x5 hf)
        · intro J43 hJ43 hf
          refine am_jn hf (fun J38 => J38 = some (sE, rE) → X 38 [(0, .inr (.inr ((9, 0, 0), 0))), (1, .inl a1), (2, .inl x4), (3, .inl x5)] [] s3) ?_ ?_
          · intro hf
            refine am_blk hX 21 2 (?_)
            show X 43 [(0, .inr (.inr ((9, 0, 0), 0))), (1, .inl a1), (2, .inl x4), (3, .inl x5)] [.inl (1 : Int32)] s3
            exact am_wk hX [0, 1, 2, 3] (hJ43 (1 : Int32) hf)
          · intro J38 hJ38 hf
            refine am_blk hX 9 3 (And.intro (fun hb => ?_) (fun hb => ?_))
            · have hf := am_it hf hb
              show X 38 [(0, .inr (.inr ((9, 0, 0), 0))), (1, .inl a1), (2, .inl x4), (3, .inl x5)] [] s3
              exact am_wk hX [0, 1, 2, 3] (hJ38 hf)
            · have hf := am_if hf hb
              show X 19 [(0, .inr (.inr ((9, 0, 0), 0))), (1, .inl a1), (2, .inl x4), (3, .inl x5)] [] s3
              obtain ⟨v12, hcv12, hf⟩ := am_r_of hf
              obtain ⟨v13, hcv13, hf⟩ := am_r_of hf
              refine am_blk hX 12 9 (And.intro rfl (And.intro rfl (And.intro rfl (Exists.intro s3 (Exists.intro (some (.inl v12)) (And.intro (tX3_costOf l (d + 3) hcv12) (And.intro rfl (And.intro rfl (And.intro rfl (Exists.intro s3 (Exists.intro (some (.inl v13)) (And.intro (tX3_costOf l (d + 3) hcv13) (And.intro (fun hb => ?_) (fun hb => ?_))))))))))))))
              · have hf := am_it hf hb
                show X 42 [(0, .inr (.inr ((9, 0, 0), 0))), (1, .inl a1), (2, .inl x4), (3, .inl x5)] [] s3
                refine am_blk hX 23 1 (?_)
                show X 43 [(0, .inr (.inr ((9, 0, 0), 0))), (1, .inl a1), (2, .inl x4), (3, .inl x5)] [.inl (0 : Int32)] s3
                exact am_wk hX [0, 1, 2, 3] (hJ43 (0 : Int32) hf)
              · have hf := am_if hf hb
                show X 38 [(0, .inr (.inr ((9, 0, 0), 0))), (1, .inl a1), (2, .inl x4), (3, .inl x5)] [] s3
                exact am_wk hX [0, 1, 2, 3] (hJ38 hf)
  refine am_blk hX 0 6 (And.intro rfl (And.intro rfl (Exists.intro s2 (Exists.intro none (And.intro (tX8_tell l (d + 0) hcv1) (?_))))))
  show X 8 [(3, .inl (0 : Int32)), (2, .inl (-1 : Int32)), (0, .inr (.inr ((9, 0, 0), 0))), (1, .inl a1)] [] s2
  exact am_wk hX [2, 3, 1, 0] (hL8 am_fu s2 (-1 : Int32) (0 : Int32) hf)
def fX8_stop (s0 : AS) (a1 : Int32) : Option (AS × Int32) :=
  am_r (fX8_isPlace s0 a1) (fun (v1 : Int32) => if v1 = 0 then (some (s0, (-2 : Int32))) else (am_c (fX8_stoppingSet s0 a1) (fun (s3 : AS) (v2 : Int32) => am_let (fun (x4 : Int32) => some (s3, x4)) (fun J34 => if v2 = (-1 : Int32) then (J34 (-1 : Int32)) else (am_r (fX3_costOf s3 25 v2) (fun (v5 : Int32) => J34 v5))))))
def kX8_stop : List (Nat × Instr × Nat) := [(0, .aload_n 0, 1), (1, .iload_n 1, 1), (2, .invokevirtual 162, 3), (5, .ifCond .ne 6, 3), (8, .bipush (-2), 2), (10, .ireturn, 1), (11, .aload_n 0, 1), (12, .iload_n 1, 1), (13, .invokevirtual 288, 3), (16, .istore_n 2, 1), (17, .iload_n 2, 1), (18, .iconst (-1), 1), (19, .if_icmp .ne 7, 3), (22, .iconst (-1), 1), (23, .goto 11, 3), (26, .aload_n 0, 1), (27, .getfield 29, 3), (30, .iload_n 2, 1), (31, .invokevirtual 291, 3), (34, .ireturn, 1)]
theorem qX8_stop : ∀ q ∈ kX8_stop, decode mX8_stop.2.2.1 q.1 = .ok (q.2.1, q.2.2) ∧ am_iok mX8_stop.2.2.2.1 q.1 q.2.1 q.2.2 = true := by decide +kernel
set_option maxRecDepth 100000 in
theorem wX8_stop : Cond.code mX8_stop.2.1 mX8_stop.2.2.1 mX8_stop.2.2.2.1 mX8_stop.2.2.2.2.1 ∈ am_T := List.mem_filter.mpr ⟨List.mem_of_getElem? (i := 1011) rfl, rfl⟩
set_option maxHeartbeats 4000000 in
set_option maxRecDepth 100000 in
theorem tX8_stop (l : Launch) (d : Nat) {s0 : AS} {a1 : Int32} {sE : AS} {rE : Int32} (hf : fX8_stop s0 a1 = some (sE, rE)) : am_Ct l (d + 7) mX8_stop [.inr (.inr ((9, 0, 0), 0)), .inl a1] s0 sE (some (.inl rE)) := by
  refine am_sim l (d + 6) (code := kX8_stop) (by decide +kernel) wX8_stop qX8_stop (Nat.le_of_ble_eq_true rfl) ?_
  intro X hX
  show X 0 [(0, .inr (.inr ((9, 0, 0), 0))), (1, .inl a1)] [] s0
  unfold fX8_stop at hf
  obtain ⟨v1, hcv1, hf⟩ := am_r_of hf
  refine am_blk hX 0 4 (And.intro rfl (And.intro rfl (Exists.intro s0 (Exists.intro (some (.inl v1)) (And.intro (tX8_isPlace l (d + 5) hcv1) (And.intro (fun hb => ?_) (fun hb => ?_)))))))
  · have hf := am_if hf hb
    show X 11 [(0, .inr (.inr ((9, 0, 0), 0))), (1, .inl a1)] [] s0
    obtain ⟨s3, v2, hcv2, hf⟩ := am_c_of hf
    refine am_jn hf (fun J34 => ∀ (x4 : Int32), J34 x4 = some (sE, rE) → X 34 [] [.inl x4] s3) ?_ ?_
    · intro x4 hf
      refine am_blk hX 19 1 (am_ri hf)
    · intro J34 hJ34 hf
      refine am_blk hX 6 7 (And.intro rfl (And.intro rfl (Exists.intro s3 (Exists.intro (some (.inl v2)) (And.intro (tX8_stoppingSet l (d + 0) hcv2) (And.intro (fun hb => ?_) (fun hb => ?_)))))))
      · have hf := am_if hf hb
        show X 26 [(2, .inl v2), (0, .inr (.inr ((9, 0, 0), 0))), (1, .inl a1)] [] s3
        obtain ⟨v5, hcv5, hf⟩ := am_r_of hf
        refine am_blk hX 15 4 (And.intro rfl (And.intro rfl (And.intro rfl (Exists.intro s3 (Exists.intro (some (.inl v5)) (And.intro (tX3_costOf l (d + 4) hcv5) (?_)))))))
        show X 34 [(2, .inl v2), (0, .inr (.inr ((9, 0, 0), 0))), (1, .inl a1)] [.inl v5] s3
        exact am_wk hX [] (hJ34 v5 hf)
      · have hf := am_it hf hb
        show X 22 [(2, .inl v2), (0, .inr (.inr ((9, 0, 0), 0))), (1, .inl a1)] [] s3
        refine am_blk hX 13 2 (?_)
        show X 34 [(2, .inl v2), (0, .inr (.inr ((9, 0, 0), 0))), (1, .inl a1)] [.inl (-1 : Int32)] s3
        exact am_wk hX [] (hJ34 (-1 : Int32) hf)
  · have hf := am_it hf hb
    show X 8 [(0, .inr (.inr ((9, 0, 0), 0))), (1, .inl a1)] [] s0
    refine am_blk hX 4 2 (am_ri hf)
def fX8_stops (s0 : AS) (a1 : Int32) : Option (AS × Int32) :=
  am_r (fX8_isPlace s0 a1) (fun (v1 : Int32) => am_let (fun (s2 : AS) (x3 : Int32) => some (s2, x3)) (fun J18 => if v1 = 0 then (J18 s0 (-2 : Int32)) else (am_c (fX8_stoppingSet s0 a1) (fun (s5 : AS) (v4 : Int32) => J18 s5 v4))))
def kX8_stops : List (Nat × Instr × Nat) := [(0, .aload_n 0, 1), (1, .iload_n 1, 1), (2, .invokevirtual 162, 3), (5, .ifCond .eq 11, 3), (8, .aload_n 0, 1), (9, .iload_n 1, 1), (10, .invokevirtual 288, 3), (13, .goto 5, 3), (16, .bipush (-2), 2), (18, .ireturn, 1)]
theorem qX8_stops : ∀ q ∈ kX8_stops, decode mX8_stops.2.2.1 q.1 = .ok (q.2.1, q.2.2) ∧ am_iok mX8_stops.2.2.2.1 q.1 q.2.1 q.2.2 = true := by decide +kernel
set_option maxRecDepth 100000 in
theorem wX8_stops : Cond.code mX8_stops.2.1 mX8_stops.2.2.1 mX8_stops.2.2.2.1 mX8_stops.2.2.2.2.1 ∈ am_T := List.mem_filter.mpr ⟨List.mem_of_getElem? (i := 1028) rfl, rfl⟩
set_option maxHeartbeats 4000000 in
set_option maxRecDepth 100000 in
theorem tX8_stops (l : Launch) (d : Nat) {s0 : AS} {a1 : Int32} {sE : AS} {rE : Int32} (hf : fX8_stops s0 a1 = some (sE, rE)) : am_Ct l (d + 7) mX8_stops [.inr (.inr ((9, 0, 0), 0)), .inl a1] s0 sE (some (.inl rE)) := by
  refine am_sim l (d + 6) (code := kX8_stops) (by decide +kernel) wX8_stops qX8_stops (Nat.le_of_ble_eq_true rfl) ?_
  intro X hX
  show X 0 [(0, .inr (.inr ((9, 0, 0), 0))), (1, .inl a1)] [] s0
  unfold fX8_stops at hf
  obtain ⟨v1, hcv1, hf⟩ := am_r_of hf
  refine am_jn hf (fun J18 => ∀ (s2 : AS) (x3 : Int32), J18 s2 x3 = some (sE, rE) → X 18 [] [.inl x3] s2) ?_ ?_
  · intro s2 x3 hf
    refine am_blk hX 9 1 (am_ri hf)
  · intro J18 hJ18 hf
    refine am_blk hX 0 4 (And.intro rfl (And.intro rfl (Exists.intro s0 (Exists.intro (some (.inl v1)) (And.intro (tX8_isPlace l (d + 5) hcv1) (And.intro (fun hb => ?_) (fun hb => ?_)))))))
    · have hf := am_it hf hb
      show X 16 [(0, .inr (.inr ((9, 0, 0), 0))), (1, .inl a1)] [] s0
      refine am_blk hX 8 1 (?_)
      show X 18 [(0, .inr (.inr ((9, 0, 0), 0))), (1, .inl a1)] [.inl (-2 : Int32)] s0
      exact am_wk hX [] (hJ18 s0 (-2 : Int32) hf)
    · have hf := am_if hf hb
      show X 8 [(0, .inr (.inr ((9, 0, 0), 0))), (1, .inl a1)] [] s0
      obtain ⟨s5, v4, hcv4, hf⟩ := am_c_of hf
      refine am_blk hX 4 4 (And.intro rfl (And.intro rfl (Exists.intro s5 (Exists.intro (some (.inl v4)) (And.intro (tX8_stoppingSet l (d + 0) hcv4) (?_))))))
      show X 18 [(0, .inr (.inr ((9, 0, 0), 0))), (1, .inl a1)] [.inl v4] s5
      exact am_wk hX [] (hJ18 s5 v4 hf)
def fX8_together_L28 (a1 : Int32) (a2 : Int32) (s4 : AS) : Nat → Int32 → Int32 → Option (AS × Int32)
  | 0, _, _ => none
  | n28 + 1, x5, x6 =>
    if (61 : Int32) ≤ x6 then (some (s4, x5)) else (am_r (fX8_isIn s4 a1 x6) (fun (v7 : Int32) => am_let (fun (x8 : Int32) => am_let (x6 + (1 : Int32)) (fun (x9 : Int32) => fX8_together_L28 a1 a2 s4 n28 x8 x9)) (fun J58 => if v7 = 0 then (J58 x5) else (am_r (fX8_isIn s4 a2 x6) (fun (v10 : Int32) => if v10 = 0 then (J58 x5) else (am_let (x5 + (1 : Int32)) (fun (x11 : Int32) => J58 x11)))))))
def fX8_together (s0 : AS) (a1 : Int32) (a2 : Int32) : Option (AS × Int32) :=
  am_r (fX8_isPerson s0 a1) (fun (v1 : Int32) => am_let (some (s0, (-2 : Int32))) (fun J16 => if v1 = 0 then (J16) else (am_r (fX8_isPerson s0 a2) (fun (v2 : Int32) => if v2 = 0 then (J16) else (am_c (fX8_tell s0) (fun (s4 : AS) (v3 : Unit) => fX8_together_L28 a1 a2 s4 am_fu (0 : Int32) (0 : Int32)))))))
def kX8_together : List (Nat × Instr × Nat) := [(0, .aload_n 0, 1), (1, .iload_n 1, 1), (2, .invokevirtual 137, 3), (5, .ifCond .eq 11, 3), (8, .aload_n 0, 1), (9, .iload_n 2, 1), (10, .invokevirtual 137, 3), (13, .ifCond .ne 6, 3), (16, .bipush (-2), 2), (18, .ireturn, 1), (19, .aload_n 0, 1), (20, .invokevirtual 165, 3), (23, .iconst 0, 1), (24, .istore_n 3, 1), (25, .iconst 0, 1), (26, .istore 4, 2), (28, .iload 4, 2), (30, .bipush 61, 2), (32, .if_icmp .ge 32, 3), (35, .aload_n 0, 1), (36, .iload_n 1, 1), (37, .iload 4, 2), (39, .invokevirtual 219, 3), (42, .ifCond .eq 16, 3), (45, .aload_n 0, 1), (46, .iload_n 2, 1), (47, .iload 4, 2), (49, .invokevirtual 219, 3), (52, .ifCond .eq 6, 3), (55, .iinc 3 1, 3), (58, .iinc 4 1, 3), (61, .goto (-33), 3), (64, .iload_n 3, 1), (65, .ireturn, 1)]
theorem qX8_together : ∀ q ∈ kX8_together, decode mX8_together.2.2.1 q.1 = .ok (q.2.1, q.2.2) ∧ am_iok mX8_together.2.2.2.1 q.1 q.2.1 q.2.2 = true := by decide +kernel
set_option maxRecDepth 100000 in
theorem wX8_together : Cond.code mX8_together.2.1 mX8_together.2.2.1 mX8_together.2.2.2.1 mX8_together.2.2.2.2.1 ∈ am_T := List.mem_filter.mpr ⟨List.mem_of_getElem? (i := 966) rfl, rfl⟩
set_option maxHeartbeats 4000000 in
set_option maxRecDepth 100000 in
theorem tX8_together (l : Launch) (d : Nat) {s0 : AS} {a1 : Int32} {a2 : Int32} {sE : AS} {rE : Int32} (hf : fX8_together s0 a1 a2 = some (sE, rE)) : am_Ct l (d + 6) mX8_together [.inr (.inr ((9, 0, 0), 0)), .inl a1, .inl a2] s0 sE (some (.inl rE)) := by
  refine am_sim l (d + 5) (code := kX8_together) (by decide +kernel) wX8_together qX8_together (Nat.le_of_ble_eq_true rfl) ?_
  intro X hX
  show X 0 [(0, .inr (.inr ((9, 0, 0), 0))), (1, .inl a1), (2, .inl a2)] [] s0
  unfold fX8_together at hf
  obtain ⟨v1, hcv1, hf⟩ := am_r_of hf
  refine am_jn hf (fun J16 => J16 = some (sE, rE) → X 16 [] [] s0) ?_ ?_
  · intro hf
    refine am_blk hX 8 2 (am_ri hf)
  · intro J16 hJ16 hf
    refine am_blk hX 0 4 (And.intro rfl (And.intro rfl (Exists.intro s0 (Exists.intro (some (.inl v1)) (And.intro (tX8_isPerson l (d + 4) hcv1) (And.intro (fun hb => ?_) (fun hb => ?_)))))))
    · have hf := am_it hf hb
      show X 16 [(0, .inr (.inr ((9, 0, 0), 0))), (1, .inl a1), (2, .inl a2)] [] s0
      exact am_wk hX [] (hJ16 hf)
    · have hf := am_if hf hb
      show X 8 [(0, .inr (.inr ((9, 0, 0), 0))), (1, .inl a1), (2, .inl a2)] [] s0
      obtain ⟨v2, hcv2, hf⟩ := am_r_of hf
      refine am_blk hX 4 4 (And.intro rfl (And.intro rfl (Exists.intro s0 (Exists.intro (some (.inl v2)) (And.intro (tX8_isPerson l (d + 4) hcv2) (And.intro (fun hb => ?_) (fun hb => ?_)))))))
      · have hf := am_if hf hb
        show X 19 [(0, .inr (.inr ((9, 0, 0), 0))), (1, .inl a1), (2, .inl a2)] [] s0
        obtain ⟨s4, v3, hcv3, hf⟩ := am_c_of hf
        have hL28 : ∀ (n28 : Nat) (x5 : Int32) (x6 : Int32), fX8_together_L28 a1 a2 s4 n28 x5 x6 = some (sE, rE) → X 28 [(0, .inr (.inr ((9, 0, 0), 0))), (1, .inl a1), (2, .inl a2), (3, .inl x5), (4, .inl x6)] [] s4 := by
          intro n28
          induction n28 with
          | zero => intro x5 x6 hf; exact am_no (show none = some _ from hf)
          | succ n28 ih28 =>
            intro x5 x6 hf
            refine am_blk hX 16 3 (And.intro (fun hb => ?_) (fun hb => ?_))
            · have hf := am_it hf hb
              show X 64 [(0, .inr (.inr ((9, 0, 0), 0))), (1, .inl a1), (2, .inl a2), (3, .inl x5), (4, .inl x6)] [] s4
              refine am_blk hX 32 2 (am_ri hf)
            · have hf := am_if hf hb
              show X 35 [(0, .inr (.inr ((9, 0, 0), 0))), (1, .inl a1), (2, .inl a2), (3, .inl x5), (4, .inl x6)] [] s4
              obtain ⟨v7, hcv7, hf⟩ := am_r_of hf
              refine am_jn hf (fun J58 => ∀ (x8 : Int32), J58 x8 = some (sE, rE) → X 58 [(0, .inr (.inr ((9, 0, 0), 0))), (1, .inl a1), (2, .inl a2), (3, .inl x8), (4, .inl x6)] [] s4) ?_ ?_
              · intro x8 hf
                refine am_blk hX 30 1 (am_nl (Z := fun x9 => X 61 [(4, .inl x9), (0, .inr (.inr ((9, 0, 0), 0))), (1, .inl a1), (2, .inl a2), (3, .inl x8)] [] s4) hf (fun x9 hf => ?_))
                refine am_blk hX 31 1 (?_)
                show X 28 [(4, .inl x9), (0, .inr (.inr ((9, 0, 0), 0))), (1, .inl a1), (2, .inl a2), (3, .inl x8)] [] s4
                exact am_wk hX [1, 2, 3, 4, 0] (ih28 x8 x9 hf)
              · intro J58 hJ58 hf
                refine am_blk hX 19 5 (And.intro rfl (And.intro rfl (Exists.intro s4 (Exists.intro (some (.inl v7)) (And.intro (tX8_isIn l (d + 3) hcv7) (And.intro (fun hb => ?_) (fun hb => ?_)))))))
                · have hf := am_it hf hb
                  show X 58 [(0, .inr (.inr ((9, 0, 0), 0))), (1, .inl a1), (2, .inl a2), (3, .inl x5), (4, .inl x6)] [] s4
                  exact am_wk hX [0, 1, 2, 3, 4] (hJ58 x5 hf)
                · have hf := am_if hf hb
                  show X 45 [(0, .inr (.inr ((9, 0, 0), 0))), (1, .inl a1), (2, .inl a2), (3, .inl x5), (4, .inl x6)] [] s4
                  obtain ⟨v10, hcv10, hf⟩ := am_r_of hf
                  refine am_blk hX 24 5 (And.intro rfl (And.intro rfl (Exists.intro s4 (Exists.intro (some (.inl v10)) (And.intro (tX8_isIn l (d + 3) hcv10) (And.intro (fun hb => ?_) (fun hb => ?_)))))))
                  · have hf := am_it hf hb
                    show X 58 [(0, .inr (.inr ((9, 0, 0), 0))), (1, .inl a1), (2, .inl a2), (3, .inl x5), (4, .inl x6)] [] s4
                    exact am_wk hX [0, 1, 2, 3, 4] (hJ58 x5 hf)
                  · have hf := am_if hf hb
                    show X 55 [(0, .inr (.inr ((9, 0, 0), 0))), (1, .inl a1), (2, .inl a2), (3, .inl x5), (4, .inl x6)] [] s4
                    refine am_blk hX 29 1 (am_nl (Z := fun x11 => X 58 [(3, .inl x11), (0, .inr (.inr ((9, 0, 0), 0))), (1, .inl a1), (2, .inl a2), (4, .inl x6)] [] s4) hf (fun x11 hf => ?_))
                    exact am_wk hX [1, 2, 3, 0, 4] (hJ58 x11 hf)
        refine am_blk hX 10 6 (And.intro rfl (And.intro rfl (Exists.intro s4 (Exists.intro none (And.intro (tX8_tell l (d + 0) hcv3) (?_))))))
        show X 28 [(4, .inl (0 : Int32)), (3, .inl (0 : Int32)), (0, .inr (.inr ((9, 0, 0), 0))), (1, .inl a1), (2, .inl a2)] [] s4
        exact am_wk hX [2, 3, 4, 1, 0] (hL28 am_fu (0 : Int32) (0 : Int32) hf)
      · have hf := am_it hf hb
        show X 16 [(0, .inr (.inr ((9, 0, 0), 0))), (1, .inl a1), (2, .inl a2)] [] s0
        exact am_wk hX [] (hJ16 hf)
def fX8_trap_L25 (a1 : Int32) (a2 : Int32) : Nat → AS → Int32 → Option (AS × Int32)
  | 0, _, _ => none
  | n25 + 1, s5, x6 =>
    if (s5.1 25 5) ≤ x6 then (some (s5, (-1 : Int32))) else (am_c (fX7_measure s5 173 25 ((s5.1 47 2) ||| ((1 : Int32) <<< (x6 &&& 31)))) (fun (s8 : AS) (v7 : Unit) => am_c (fX8_asItIs s8) (fun (s10 : AS) (v9 : Unit) => am_c (fX1_turnsAt s10 172 a1 173) (fun (s12 : AS) (v11 : Unit) => am_c (fX6_go s12 198 25 172) (fun (s14 : AS) (v13 : Unit) => am_r (fX6_firstAt s14 198 a2 a1) (fun (v15 : Int32) => if v15 = (-1 : Int32) then (some (s14, x6)) else (am_let (x6 + (1 : Int32)) (fun (x16 : Int32) => fX8_trap_L25 a1 a2 n25 s14 x16))))))))
def fX8_trap (s0 : AS) (a1 : Int32) (a2 : Int32) : Option (AS × Int32) :=
  am_r (fX8_isStep s0 a1) (fun (v1 : Int32) => am_let (some (s0, (-2 : Int32))) (fun J16 => if v1 = 0 then (J16) else (am_r (fX8_isPlace s0 a2) (fun (v2 : Int32) => if v2 = 0 then (J16) else (am_c (fX8_tell s0) (fun (s4 : AS) (v3 : Unit) => fX8_trap_L25 a1 a2 am_fu s4 (0 : Int32)))))))
def kX8_trap : List (Nat × Instr × Nat) := [(0, .aload_n 0, 1), (1, .iload_n 1, 1), (2, .invokevirtual 209, 3), (5, .ifCond .eq 11, 3), (8, .aload_n 0, 1), (9, .iload_n 2, 1), (10, .invokevirtual 162, 3), (13, .ifCond .ne 6, 3), (16, .bipush (-2), 2), (18, .ireturn, 1), (19, .aload_n 0, 1), (20, .invokevirtual 165, 3), (23, .iconst 0, 1), (24, .istore_n 3, 1), (25, .iload_n 3, 1), (26, .aload_n 0, 1), (27, .getfield 29, 3), (30, .getfield 120, 3), (33, .if_icmp .ge 77, 3), (36, .aload_n 0, 1), (37, .getfield 72, 3), (40, .aload_n 0, 1), (41, .getfield 29, 3), (44, .aload_n 0, 1), (45, .getfield 35, 3), (48, .getfield 188, 3), (51, .iconst 1, 1), (52, .iload_n 3, 1), (53, .ishl, 1), (54, .ior, 1), (55, .invokevirtual 191, 3), (58, .aload_n 0, 1), (59, .invokevirtual 195, 3), (62, .aload_n 0, 1), (63, .getfield 68, 3), (66, .iload_n 1, 1), (67, .aload_n 0, 1), (68, .getfield 72, 3), (71, .invokevirtual 280, 3), (74, .aload_n 0, 1), (75, .getfield 75, 3), (78, .aload_n 0, 1), (79, .getfield 29, 3), (82, .aload_n 0, 1), (83, .getfield 68, 3), (86, .invokevirtual 198, 3), (89, .aload_n 0, 1), (90, .getfield 75, 3), (93, .iload_n 2, 1), (94, .iload_n 1, 1), (95, .invokevirtual 240, 3), (98, .iconst (-1), 1), (99, .if_icmp .ne 5, 3), (102, .iload_n 3, 1), (103, .ireturn, 1), (104, .iinc 3 1, 3), (107, .goto (-82), 3), (110, .iconst (-1), 1), (111, .ireturn, 1)]
theorem qX8_trap : ∀ q ∈ kX8_trap, decode mX8_trap.2.2.1 q.1 = .ok (q.2.1, q.2.2) ∧ am_iok mX8_trap.2.2.2.1 q.1 q.2.1 q.2.2 = true := by decide +kernel
set_option maxRecDepth 100000 in
theorem wX8_trap : Cond.code mX8_trap.2.1 mX8_trap.2.2.1 mX8_trap.2.2.2.1 mX8_trap.2.2.2.2.1 ∈ am_T := List.mem_filter.mpr ⟨List.mem_of_getElem? (i := 1003) rfl, rfl⟩
set_option maxHeartbeats 4000000 in
set_option maxRecDepth 100000 in
theorem tX8_trap (l : Launch) (d : Nat) {s0 : AS} {a1 : Int32} {a2 : Int32} {sE : AS} {rE : Int32} (hf : fX8_trap s0 a1 a2 = some (sE, rE)) : am_Ct l (d + 6) mX8_trap [.inr (.inr ((9, 0, 0), 0)), .inl a1, .inl a2] s0 sE (some (.inl rE)) := by
  refine am_sim l (d + 5) (code := kX8_trap) (by decide +kernel) wX8_trap qX8_trap (Nat.le_of_ble_eq_true rfl) ?_
  intro X hX
  show X 0 [(0, .inr (.inr ((9, 0, 0), 0))), (1, .inl a1), (2, .inl a2)] [] s0
  unfold fX8_trap at hf
  obtain ⟨v1, hcv1, hf⟩ := am_r_of hf
  refine am_jn hf (fun J16 => J16 = some (sE, rE) → X 16 [] [] s0) ?_ ?_
  · intro hf
    refine am_blk hX 8 2 (am_ri hf)
  · intro J16 hJ16 hf
    refine am_blk hX 0 4 (And.intro rfl (And.intro rfl (Exists.intro s0 (Exists.intro (some (.inl v1)) (And.intro (tX8_isStep l (d + 3) hcv1) (And.intro (fun hb => ?_) (fun hb => ?_)))))))
    · have hf := am_it hf hb
      show X 16 [(0, .inr (.inr ((9, 0, 0), 0))), (1, .inl a1), (2, .inl a2)] [] s0
      exact am_wk hX [] (hJ16 hf)
    · have hf := am_if hf hb
      show X 8 [(0, .inr (.inr ((9, 0, 0), 0))), (1, .inl a1), (2, .inl a2)] [] s0
      obtain ⟨v2, hcv2, hf⟩ := am_r_of hf
      refine am_blk hX 4 4 (And.intro rfl (And.intro rfl (Exists.intro s0 (Exists.intro (some (.inl v2)) (And.intro (tX8_isPlace l (d + 4) hcv2) (And.intro (fun hb => ?_) (fun hb => ?_)))))))
      · have hf := am_if hf hb
        show X 19 [(0, .inr (.inr ((9, 0, 0), 0))), (1, .inl a1), (2, .inl a2)] [] s0
        obtain ⟨s4, v3, hcv3, hf⟩ := am_c_of hf
        have hL25 : ∀ (n25 : Nat) (s5 : AS) (x6 : Int32), fX8_trap_L25 a1 a2 n25 s5 x6 = some (sE, rE) → X 25 [(0, .inr (.inr ((9, 0, 0), 0))), (1, .inl a1), (2, .inl a2), (3, .inl x6)] [] s5 := by
          intro n25
          induction n25 with
          | zero => intro s5 x6 hf; exact am_no (show none = some _ from hf)
          | succ n25 ih25 =>
            intro s5 x6 hf
            refine am_blk hX 14 5 (And.intro rfl (And.intro rfl (And.intro (fun hb => ?_) (fun hb => ?_))))
            · have hf := am_it hf hb
              show X 110 [(0, .inr (.inr ((9, 0, 0), 0))), (1, .inl a1), (2, .inl a2), (3, .inl x6)] [] s5
              refine am_blk hX 57 2 (am_ri hf)
            · have hf := am_if hf hb
              show X 36 [(0, .inr (.inr ((9, 0, 0), 0))), (1, .inl a1), (2, .inl a2), (3, .inl x6)] [] s5
              obtain ⟨s8, v7, hcv7, hf⟩ := am_c_of hf
              obtain ⟨s10, v9, hcv9, hf⟩ := am_c_of hf
              obtain ⟨s12, v11, hcv11, hf⟩ := am_c_of hf
              obtain ⟨s14, v13, hcv13, hf⟩ := am_c_of hf
              obtain ⟨v15, hcv15, hf⟩ := am_r_of hf
              refine am_blk hX 19 34 (And.intro rfl (And.intro rfl (And.intro rfl (And.intro rfl (And.intro rfl (And.intro rfl (Exists.intro s8 (Exists.intro none (And.intro (tX7_measure l (d + 2) hcv7) (And.intro rfl (And.intro rfl (Exists.intro s10 (Exists.intro none (And.intro (tX8_asItIs l (d + 3) hcv9) (And.intro rfl (And.intro rfl (And.intro rfl (And.intro rfl (Exists.intro s12 (Exists.intro none (And.intro (tX1_turnsAt l (d + 4) hcv11) (And.intro rfl (And.intro rfl (And.intro rfl (And.intro rfl (And.intro rfl (Exists.intro s14 (Exists.intro none (And.intro (tX6_go l (d + 1) hcv13) (And.intro rfl (And.intro rfl (And.intro rfl (Exists.intro s14 (Exists.intro (some (.inl v15)) (And.intro (tX6_firstAt l (d + 4) hcv15) (And.intro (fun hb => ?_) (fun hb => ?_)))))))))))))))))))))))))))))))))))))
              · have hf := am_if hf hb
                show X 104 [(0, .inr (.inr ((9, 0, 0), 0))), (1, .inl a1), (2, .inl a2), (3, .inl x6)] [] s14
                refine am_blk hX 55 1 (am_nl (Z := fun x16 => X 107 [(3, .inl x16), (0, .inr (.inr ((9, 0, 0), 0))), (1, .inl a1), (2, .inl a2)] [] s14) hf (fun x16 hf => ?_))
                refine am_blk hX 56 1 (?_)
                show X 25 [(3, .inl x16), (0, .inr (.inr ((9, 0, 0), 0))), (1, .inl a1), (2, .inl a2)] [] s14
                exact am_wk hX [1, 2, 3, 0] (ih25 s14 x16 hf)
              · have hf := am_it hf hb
                show X 102 [(0, .inr (.inr ((9, 0, 0), 0))), (1, .inl a1), (2, .inl a2), (3, .inl x6)] [] s14
                refine am_blk hX 53 2 (am_ri hf)
        refine am_blk hX 10 4 (And.intro rfl (And.intro rfl (Exists.intro s4 (Exists.intro none (And.intro (tX8_tell l (d + 0) hcv3) (?_))))))
        show X 25 [(3, .inl (0 : Int32)), (0, .inr (.inr ((9, 0, 0), 0))), (1, .inl a1), (2, .inl a2)] [] s4
        exact am_wk hX [1, 2, 3, 0] (hL25 am_fu s4 (0 : Int32) hf)
      · have hf := am_it hf hb
        show X 16 [(0, .inr (.inr ((9, 0, 0), 0))), (1, .inl a1), (2, .inl a2)] [] s0
        exact am_wk hX [] (hJ16 hf)
def fX8_turned_L34 (a1 : Int32) (s3 : AS) : Nat → Int32 → Int32 → Option (AS × Int32)
  | 0, _, _ => none
  | n34 + 1, x5, x6 =>
    if (s3.1 25 6) ≤ x6 then (some (s3, x5)) else (am_r (fX8_voteOf s3 x6 a1) (fun (v7 : Int32) => am_r (fX8_isIn s3 x6 a1) (fun (v8 : Int32) => am_let (fun (x9 : Int32) => am_let (x6 + (1 : Int32)) (fun (x10 : Int32) => fX8_turned_L34 a1 s3 n34 x9 x10)) (fun J88 => if v8 = 0 then (J88 x5) else (if v7 = (-1 : Int32) then (J88 x5) else (am_g (¬ (a1 < 0 ∨ 61 ≤ a1.toNatClampNeg)) (if v7 = (s3.1 166 a1.toNatClampNeg) then (J88 x5) else (am_let (x5 ||| ((1 : Int32) <<< (x6 &&& 31))) (fun (x12 : Int32) => J88 x12)))))))))
def fX8_turned (s0 : AS) (a1 : Int32) : Option (AS × Int32) :=
  am_r (fX8_isStep s0 a1) (fun (v1 : Int32) => if v1 = 0 then (some (s0, (-2 : Int32))) else (am_c (fX8_tell s0) (fun (s3 : AS) (v2 : Unit) => am_g (¬ (a1 < 0 ∨ 61 ≤ a1.toNatClampNeg)) (if (s3.1 166 a1.toNatClampNeg) = (-1 : Int32) then (some (s3, (0 : Int32))) else (fX8_turned_L34 a1 s3 am_fu (0 : Int32) (0 : Int32))))))
def kX8_turned : List (Nat × Instr × Nat) := [(0, .aload_n 0, 1), (1, .iload_n 1, 1), (2, .invokevirtual 209, 3), (5, .ifCond .ne 6, 3), (8, .bipush (-2), 2), (10, .ireturn, 1), (11, .aload_n 0, 1), (12, .invokevirtual 165, 3), (15, .aload_n 0, 1), (16, .getfield 61, 3), (19, .getfield 260, 3), (22, .iload_n 1, 1), (23, .iaload, 1), (24, .iconst (-1), 1), (25, .if_icmp .ne 5, 3), (28, .iconst 0, 1), (29, .ireturn, 1), (30, .iconst 0, 1), (31, .istore_n 2, 1), (32, .iconst 0, 1), (33, .istore_n 3, 1), (34, .iload_n 3, 1), (35, .aload_n 0, 1), (36, .getfield 29, 3), (39, .getfield 123, 3), (42, .if_icmp .ge 52, 3), (45, .aload_n 0, 1), (46, .iload_n 3, 1), (47, .iload_n 1, 1), (48, .invokevirtual 222, 3), (51, .istore 4, 2), (53, .aload_n 0, 1), (54, .iload_n 3, 1), (55, .iload_n 1, 1), (56, .invokevirtual 219, 3), (59, .ifCond .eq 29, 3), (62, .iload 4, 2), (64, .iconst (-1), 1), (65, .if_icmp .eq 23, 3), (68, .iload 4, 2), (70, .aload_n 0, 1), (71, .getfield 61, 3), (74, .getfield 260, 3), (77, .iload_n 1, 1), (78, .iaload, 1), (79, .if_icmp .eq 9, 3), (82, .iload_n 2, 1), (83, .iconst 1, 1), (84, .iload_n 3, 1), (85, .ishl, 1), (86, .ior, 1), (87, .istore_n 2, 1), (88, .iinc 3 1, 3), (91, .goto (-57), 3), (94, .iload_n 2, 1), (95, .ireturn, 1)]
theorem qX8_turned : ∀ q ∈ kX8_turned, decode mX8_turned.2.2.1 q.1 = .ok (q.2.1, q.2.2) ∧ am_iok mX8_turned.2.2.2.1 q.1 q.2.1 q.2.2 = true := by decide +kernel
set_option maxRecDepth 100000 in
theorem wX8_turned : Cond.code mX8_turned.2.1 mX8_turned.2.2.1 mX8_turned.2.2.2.1 mX8_turned.2.2.2.2.1 ∈ am_T := List.mem_filter.mpr ⟨List.mem_of_getElem? (i := 954) rfl, rfl⟩
set_option maxHeartbeats 4000000 in
set_option maxRecDepth 100000 in
theorem tX8_turned (l : Launch) (d : Nat) {s0 : AS} {a1 : Int32} {sE : AS} {rE : Int32} (hf : fX8_turned s0 a1 = some (sE, rE)) : am_Ct l (d + 6) mX8_turned [.inr (.inr ((9, 0, 0), 0)), .inl a1] s0 sE (some (.inl rE)) := by
  refine am_sim l (d + 5) (code := kX8_turned) (by decide +kernel) wX8_turned qX8_turned (Nat.le_of_ble_eq_true rfl) ?_
  intro X hX
  show X 0 [(0, .inr (.inr ((9, 0, 0), 0))), (1, .inl a1)] [] s0
  unfold fX8_turned at hf
  obtain ⟨v1, hcv1, hf⟩ := am_r_of hf
  refine am_blk hX 0 4 (And.intro rfl (And.intro rfl (Exists.intro s0 (Exists.intro (some (.inl v1)) (And.intro (tX8_isStep l (d + 3) hcv1) (And.intro (fun hb => ?_) (fun hb => ?_)))))))
  · have hf := am_if hf hb
    show X 11 [(0, .inr (.inr ((9, 0, 0), 0))), (1, .inl a1)] [] s0
    obtain ⟨s3, v2, hcv2, hf⟩ := am_c_of hf
    obtain ⟨g4, hf⟩ := am_g_of hf
    refine am_blk hX 6 9 (And.intro rfl (And.intro rfl (Exists.intro s3 (Exists.intro none (And.intro (tX8_tell l (d + 0) hcv2) (And.intro rfl (And.intro rfl (And.intro rfl (And.intro g4 (And.intro (fun hb => ?_) (fun hb => ?_)))))))))))
    · have hf := am_if hf hb
      show X 30 [(0, .inr (.inr ((9, 0, 0), 0))), (1, .inl a1)] [] s3
      have hL34 : ∀ (n34 : Nat) (x5 : Int32) (x6 : Int32), fX8_turned_L34 a1 s3 n34 x5 x6 = some (sE, rE) → X 34 [(0, .inr (.inr ((9, 0, 0), 0))), (1, .inl a1), (2, .inl x5), (3, .inl x6)] [] s3 := by
        intro n34
        induction n34 with
        | zero => intro x5 x6 hf; exact am_no (show none = some _ from hf)
        | succ n34 ih34 =>
          intro x5 x6 hf
          refine am_blk hX 21 5 (And.intro rfl (And.intro rfl (And.intro (fun hb => ?_) (fun hb => ?_))))
          · have hf := am_it hf hb
            show X 94 [(0, .inr (.inr ((9, 0, 0), 0))), (1, .inl a1), (2, .inl x5), (3, .inl x6)] [] s3
            refine am_blk hX 54 2 (am_ri hf)
          · have hf := am_if hf hb
            show X 45 [(0, .inr (.inr ((9, 0, 0), 0))), (1, .inl a1), (2, .inl x5), (3, .inl x6)] [] s3
            obtain ⟨v7, hcv7, hf⟩ := am_r_of hf
            obtain ⟨v8, hcv8, hf⟩ := am_r_of hf
            refine am_jn hf (fun J88 => ∀ (x9 : Int32), J88 x9 = some (sE, rE) → X 88 [(0, .inr (.inr ((9, 0, 0), 0))), (1, .inl a1), (2, .inl x9), (3, .inl x6)] [] s3) ?_ ?_
            · intro x9 hf
              refine am_blk hX 52 1 (am_nl (Z := fun x10 => X 91 [(3, .inl x10), (0, .inr (.inr ((9, 0, 0), 0))), (1, .inl a1), (2, .inl x9)] [] s3) hf (fun x10 hf => ?_))
              refine am_blk hX 53 1 (?_)
              show X 34 [(3, .inl x10), (0, .inr (.inr ((9, 0, 0), 0))), (1, .inl a1), (2, .inl x9)] [] s3
              exact am_wk hX [1, 2, 3, 0] (ih34 x9 x10 hf)
            · intro J88 hJ88 hf
              refine am_blk hX 26 10 (And.intro rfl (And.intro rfl (Exists.intro s3 (Exists.intro (some (.inl v7)) (And.intro (tX8_voteOf l (d + 2) hcv7) (And.intro rfl (And.intro rfl (Exists.intro s3 (Exists.intro (some (.inl v8)) (And.intro (tX8_isIn l (d + 3) hcv8) (And.intro (fun hb => ?_) (fun hb => ?_))))))))))))
              · have hf := am_it hf hb
                show X 88 [(4, .inl v7), (0, .inr (.inr ((9, 0, 0), 0))), (1, .inl a1), (2, .inl x5), (3, .inl x6)] [] s3
                exact am_wk hX [1, 2, 3, 4] (hJ88 x5 hf)
              · have hf := am_if hf hb
                show X 62 [(4, .inl v7), (0, .inr (.inr ((9, 0, 0), 0))), (1, .inl a1), (2, .inl x5), (3, .inl x6)] [] s3
                refine am_blk hX 36 3 (And.intro (fun hb => ?_) (fun hb => ?_))
                · have hf := am_it hf hb
                  show X 88 [(4, .inl v7), (0, .inr (.inr ((9, 0, 0), 0))), (1, .inl a1), (2, .inl x5), (3, .inl x6)] [] s3
                  exact am_wk hX [1, 2, 3, 4] (hJ88 x5 hf)
                · have hf := am_if hf hb
                  show X 68 [(4, .inl v7), (0, .inr (.inr ((9, 0, 0), 0))), (1, .inl a1), (2, .inl x5), (3, .inl x6)] [] s3
                  obtain ⟨g11, hf⟩ := am_g_of hf
                  refine am_blk hX 39 7 (And.intro rfl (And.intro rfl (And.intro rfl (And.intro g11 (And.intro (fun hb => ?_) (fun hb => ?_))))))
                  · have hf := am_it hf hb
                    show X 88 [(4, .inl v7), (0, .inr (.inr ((9, 0, 0), 0))), (1, .inl a1), (2, .inl x5), (3, .inl x6)] [] s3
                    exact am_wk hX [1, 2, 3, 4] (hJ88 x5 hf)
                  · have hf := am_if hf hb
                    show X 82 [(4, .inl v7), (0, .inr (.inr ((9, 0, 0), 0))), (1, .inl a1), (2, .inl x5), (3, .inl x6)] [] s3
                    refine am_blk hX 46 6 (am_nl (Z := fun x12 => X 88 [(2, .inl x12), (4, .inl v7), (0, .inr (.inr ((9, 0, 0), 0))), (1, .inl a1), (3, .inl x6)] [] s3) hf (fun x12 hf => ?_))
                    exact am_wk hX [2, 3, 0, 4] (hJ88 x12 hf)
      refine am_blk hX 17 4 (?_)
      show X 34 [(3, .inl (0 : Int32)), (2, .inl (0 : Int32)), (0, .inr (.inr ((9, 0, 0), 0))), (1, .inl a1)] [] s3
      exact am_wk hX [2, 3, 1, 0] (hL34 am_fu (0 : Int32) (0 : Int32) hf)
    · have hf := am_it hf hb
      show X 28 [(0, .inr (.inr ((9, 0, 0), 0))), (1, .inl a1)] [] s3
      refine am_blk hX 15 2 (am_ri hf)
  · have hf := am_it hf hb
    show X 8 [(0, .inr (.inr ((9, 0, 0), 0))), (1, .inl a1)] [] s0
    refine am_blk hX 4 2 (am_ri hf)
def fX8_undo (s0 : AS) : Option (AS × Int32) :=
  am_r (fX8_isMarch s0) (fun (v1 : Int32) => if v1 = 0 then (some (s0, (-2 : Int32))) else (if (s0.1 47 0) = 0 then (some (s0, (-5 : Int32))) else (am_c (fX0_takeBack s0 47) (fun (s3 : AS) (v2 : Unit) => am_let (am_si s3 0 8 (0 : Int32)) (fun (s4 : AS) => some (s4, s4.1 47 0))))))
def kX8_undo : List (Nat × Instr × Nat) := [(0, .aload_n 0, 1), (1, .invokevirtual 126, 3), (4, .ifCond .ne 6, 3), (7, .bipush (-2), 2), (9, .ireturn, 1), (10, .aload_n 0, 1), (11, .getfield 35, 3), (14, .getfield 152, 3), (17, .ifCond .ne 6, 3), (20, .bipush (-5), 2), (22, .ireturn, 1), (23, .aload_n 0, 1), (24, .getfield 35, 3), (27, .invokevirtual 440, 3), (30, .aload_n 0, 1), (31, .iconst 0, 1), (32, .putfield 107, 3), (35, .aload_n 0, 1), (36, .getfield 35, 3), (39, .getfield 152, 3), (42, .ireturn, 1)]
theorem qX8_undo : ∀ q ∈ kX8_undo, decode mX8_undo.2.2.1 q.1 = .ok (q.2.1, q.2.2) ∧ am_iok mX8_undo.2.2.2.1 q.1 q.2.1 q.2.2 = true := by decide +kernel
set_option maxRecDepth 100000 in
theorem wX8_undo : Cond.code mX8_undo.2.1 mX8_undo.2.2.1 mX8_undo.2.2.2.1 mX8_undo.2.2.2.2.1 ∈ am_T := List.mem_filter.mpr ⟨List.mem_of_getElem? (i := 1236) rfl, rfl⟩
set_option maxHeartbeats 4000000 in
set_option maxRecDepth 100000 in
theorem tX8_undo (l : Launch) (d : Nat) {s0 : AS} {sE : AS} {rE : Int32} (hf : fX8_undo s0 = some (sE, rE)) : am_Ct l (d + 2) mX8_undo [.inr (.inr ((9, 0, 0), 0))] s0 sE (some (.inl rE)) := by
  refine am_sim l (d + 1) (code := kX8_undo) (by decide +kernel) wX8_undo qX8_undo (Nat.le_of_ble_eq_true rfl) ?_
  intro X hX
  show X 0 [(0, .inr (.inr ((9, 0, 0), 0)))] [] s0
  unfold fX8_undo at hf
  obtain ⟨v1, hcv1, hf⟩ := am_r_of hf
  refine am_blk hX 0 3 (And.intro rfl (And.intro rfl (Exists.intro s0 (Exists.intro (some (.inl v1)) (And.intro (tX8_isMarch l (d + 0) hcv1) (And.intro (fun hb => ?_) (fun hb => ?_)))))))
  · have hf := am_if hf hb
    show X 10 [(0, .inr (.inr ((9, 0, 0), 0)))] [] s0
    refine am_blk hX 5 4 (And.intro rfl (And.intro rfl (And.intro (fun hb => ?_) (fun hb => ?_))))
    · have hf := am_if hf hb
      show X 23 [(0, .inr (.inr ((9, 0, 0), 0)))] [] s0
      obtain ⟨s3, v2, hcv2, hf⟩ := am_c_of hf
      refine am_blk hX 11 6 (And.intro rfl (And.intro rfl (And.intro rfl (Exists.intro s3 (Exists.intro none (And.intro (tX0_takeBack l (d + 0) hcv2) (And.intro rfl (And.intro (Or.inl rfl) (am_nl (Z := fun s4 => X 35 [(0, .inr (.inr ((9, 0, 0), 0)))] [] s4) hf (fun s4 hf => ?_))))))))))
      refine am_blk hX 17 4 (And.intro rfl (And.intro rfl (am_ri hf)))
    · have hf := am_it hf hb
      show X 20 [(0, .inr (.inr ((9, 0, 0), 0)))] [] s0
      refine am_blk hX 9 2 (am_ri hf)
  · have hf := am_it hf hb
    show X 7 [(0, .inr (.inr ((9, 0, 0), 0)))] [] s0
    refine am_blk hX 3 2 (am_ri hf)
def fX8_votes (s0 : AS) (a1 : Int32) (a2 : Int32) : Option (AS × Int32) :=
  am_r (fX8_isStep s0 a1) (fun (v1 : Int32) => am_let (some (s0, (-2 : Int32))) (fun J16 => if v1 = 0 then (J16) else (am_r (fX8_isPlace s0 a2) (fun (v2 : Int32) => if v2 = 0 then (J16) else (am_c (fX8_tell s0) (fun (s4 : AS) (v3 : Unit) => am_r (fX8_votesFor s4 a1 a2) (fun (v5 : Int32) => some (s4, v5))))))))
def kX8_votes : List (Nat × Instr × Nat) := [(0, .aload_n 0, 1), (1, .iload_n 1, 1), (2, .invokevirtual 209, 3), (5, .ifCond .eq 11, 3), (8, .aload_n 0, 1), (9, .iload_n 2, 1), (10, .invokevirtual 162, 3), (13, .ifCond .ne 6, 3), (16, .bipush (-2), 2), (18, .ireturn, 1), (19, .aload_n 0, 1), (20, .invokevirtual 165, 3), (23, .aload_n 0, 1), (24, .iload_n 1, 1), (25, .iload_n 2, 1), (26, .invokevirtual 225, 3), (29, .ireturn, 1)]
theorem qX8_votes : ∀ q ∈ kX8_votes, decode mX8_votes.2.2.1 q.1 = .ok (q.2.1, q.2.2) ∧ am_iok mX8_votes.2.2.2.1 q.1 q.2.1 q.2.2 = true := by decide +kernel
set_option maxRecDepth 100000 in
theorem wX8_votes : Cond.code mX8_votes.2.1 mX8_votes.2.2.1 mX8_votes.2.2.2.1 mX8_votes.2.2.2.2.1 ∈ am_T := List.mem_filter.mpr ⟨List.mem_of_getElem? (i := 854) rfl, rfl⟩
set_option maxHeartbeats 4000000 in
set_option maxRecDepth 100000 in
theorem tX8_votes (l : Launch) (d : Nat) {s0 : AS} {a1 : Int32} {a2 : Int32} {sE : AS} {rE : Int32} (hf : fX8_votes s0 a1 a2 = some (sE, rE)) : am_Ct l (d + 6) mX8_votes [.inr (.inr ((9, 0, 0), 0)), .inl a1, .inl a2] s0 sE (some (.inl rE)) := by
  refine am_sim l (d + 5) (code := kX8_votes) (by decide +kernel) wX8_votes qX8_votes (Nat.le_of_ble_eq_true rfl) ?_
  intro X hX
  show X 0 [(0, .inr (.inr ((9, 0, 0), 0))), (1, .inl a1), (2, .inl a2)] [] s0
  unfold fX8_votes at hf
  obtain ⟨v1, hcv1, hf⟩ := am_r_of hf
  refine am_jn hf (fun J16 => J16 = some (sE, rE) → X 16 [] [] s0) ?_ ?_
  · intro hf
    refine am_blk hX 8 2 (am_ri hf)
  · intro J16 hJ16 hf
    refine am_blk hX 0 4 (And.intro rfl (And.intro rfl (Exists.intro s0 (Exists.intro (some (.inl v1)) (And.intro (tX8_isStep l (d + 3) hcv1) (And.intro (fun hb => ?_) (fun hb => ?_)))))))
    · have hf := am_it hf hb
      show X 16 [(0, .inr (.inr ((9, 0, 0), 0))), (1, .inl a1), (2, .inl a2)] [] s0
      exact am_wk hX [] (hJ16 hf)
    · have hf := am_if hf hb
      show X 8 [(0, .inr (.inr ((9, 0, 0), 0))), (1, .inl a1), (2, .inl a2)] [] s0
      obtain ⟨v2, hcv2, hf⟩ := am_r_of hf
      refine am_blk hX 4 4 (And.intro rfl (And.intro rfl (Exists.intro s0 (Exists.intro (some (.inl v2)) (And.intro (tX8_isPlace l (d + 4) hcv2) (And.intro (fun hb => ?_) (fun hb => ?_)))))))
      · have hf := am_if hf hb
        show X 19 [(0, .inr (.inr ((9, 0, 0), 0))), (1, .inl a1), (2, .inl a2)] [] s0
        obtain ⟨s4, v3, hcv3, hf⟩ := am_c_of hf
        obtain ⟨v5, hcv5, hf⟩ := am_r_of hf
        refine am_blk hX 10 7 (And.intro rfl (And.intro rfl (Exists.intro s4 (Exists.intro none (And.intro (tX8_tell l (d + 0) hcv3) (And.intro rfl (And.intro rfl (Exists.intro s4 (Exists.intro (some (.inl v5)) (And.intro (tX8_votesFor l (d + 1) hcv5) (am_ri hf)))))))))))
      · have hf := am_it hf hb
        show X 16 [(0, .inr (.inr ((9, 0, 0), 0))), (1, .inl a1), (2, .inl a2)] [] s0
        exact am_wk hX [] (hJ16 hf)
def fX8_waits_L30 (a1 : Int32) (s3 : AS) (x5 : Int32) : Nat → Int32 → Int32 → Option (AS × Int32)
  | 0, _, _ => none
  | n30 + 1, x6, x7 =>
    if (61 : Int32) ≤ x7 then (some (s3, x6)) else (am_g (¬ (x7 < 0 ∨ 61 ≤ x7.toNatClampNeg)) (am_g (¬ (a1 < 0 ∨ 8 ≤ a1.toNatClampNeg)) (am_g (¬ ((0 : Int32) < 0 ∨ 5 ≤ (0 : Int32).toNatClampNeg)) (am_let (fun (x11 : Int32) => am_let (x7 + (1 : Int32)) (fun (x12 : Int32) => fX8_waits_L30 a1 s3 x5 n30 x11 x12)) (fun J75 => if (s3.1 164 x7.toNatClampNeg) = (s3.1 (38 + a1.toNatClampNeg) ((0 : Int32).toNatClampNeg)) then (am_let (am_let (x6 + (1 : Int32)) (fun (x13 : Int32) => J75 x13)) (fun J72 => if x5 = (-1 : Int32) then (J72) else (if x5 ≤ x7 then (J75 x6) else (J72)))) else (J75 x6))))))
def fX8_waits (s0 : AS) (a1 : Int32) : Option (AS × Int32) :=
  am_r (fX8_isPerson s0 a1) (fun (v1 : Int32) => if v1 = 0 then (some (s0, (-2 : Int32))) else (am_c (fX8_tell s0) (fun (s3 : AS) (v2 : Unit) => am_g (¬ (a1 < 0 ∨ 8 ≤ a1.toNatClampNeg)) (am_let (s3.1 167 a1.toNatClampNeg) (fun (x5 : Int32) => fX8_waits_L30 a1 s3 x5 am_fu (0 : Int32) (0 : Int32))))))
def kX8_waits : List (Nat × Instr × Nat) := [(0, .aload_n 0, 1), (1, .iload_n 1, 1), (2, .invokevirtual 137, 3), (5, .ifCond .ne 6, 3), (8, .bipush (-2), 2), (10, .ireturn, 1), (11, .aload_n 0, 1), (12, .invokevirtual 165, 3), (15, .iconst 0, 1), (16, .istore_n 2, 1), (17, .aload_n 0, 1), (18, .getfield 61, 3), (21, .getfield 228, 3), (24, .iload_n 1, 1), (25, .iaload, 1), (26, .istore_n 3, 1), (27, .iconst 0, 1), (28, .istore 4, 2), (30, .iload 4, 2), (32, .bipush 61, 2), (34, .if_icmp .ge 47, 3), (37, .aload_n 0, 1), (38, .getfield 61, 3), (41, .getfield 212, 3), (44, .iload 4, 2), (46, .iaload, 1), (47, .aload_n 0, 1), (48, .getfield 29, 3), (51, .getfield 140, 3), (54, .iload_n 1, 1), (55, .aaload, 1), (56, .iconst 0, 1), (57, .iaload, 1), (58, .if_icmp .ne 17, 3), (61, .iload_n 3, 1), (62, .iconst (-1), 1), (63, .if_icmp .eq 9, 3), (66, .iload_n 3, 1), (67, .iload 4, 2), (69, .if_icmp .le 6, 3), (72, .iinc 2 1, 3), (75, .iinc 4 1, 3), (78, .goto (-48), 3), (81, .iload_n 2, 1), (82, .ireturn, 1)]
theorem qX8_waits : ∀ q ∈ kX8_waits, decode mX8_waits.2.2.1 q.1 = .ok (q.2.1, q.2.2) ∧ am_iok mX8_waits.2.2.2.1 q.1 q.2.1 q.2.2 = true := by decide +kernel
set_option maxRecDepth 100000 in
theorem wX8_waits : Cond.code mX8_waits.2.1 mX8_waits.2.2.1 mX8_waits.2.2.2.1 mX8_waits.2.2.2.2.1 ∈ am_T := List.mem_filter.mpr ⟨List.mem_of_getElem? (i := 987) rfl, rfl⟩
set_option maxHeartbeats 4000000 in
set_option maxRecDepth 100000 in
theorem tX8_waits (l : Launch) (d : Nat) {s0 : AS} {a1 : Int32} {sE : AS} {rE : Int32} (hf : fX8_waits s0 a1 = some (sE, rE)) : am_Ct l (d + 6) mX8_waits [.inr (.inr ((9, 0, 0), 0)), .inl a1] s0 sE (some (.inl rE)) := by
  refine am_sim l (d + 5) (code := kX8_waits) (by decide +kernel) wX8_waits qX8_waits (Nat.le_of_ble_eq_true rfl) ?_
  intro X hX
  show X 0 [(0, .inr (.inr ((9, 0, 0), 0))), (1, .inl a1)] [] s0
  unfold fX8_waits at hf
  obtain ⟨v1, hcv1, hf⟩ := am_r_of hf
  refine am_blk hX 0 4 (And.intro rfl (And.intro rfl (Exists.intro s0 (Exists.intro (some (.inl v1)) (And.intro (tX8_isPerson l (d + 4) hcv1) (And.intro (fun hb => ?_) (fun hb => ?_)))))))
  · have hf := am_if hf hb
    show X 11 [(0, .inr (.inr ((9, 0, 0), 0))), (1, .inl a1)] [] s0
    obtain ⟨s3, v2, hcv2, hf⟩ := am_c_of hf
    obtain ⟨g4, hf⟩ := am_g_of hf
    refine am_blk hX 6 10 (And.intro rfl (And.intro rfl (Exists.intro s3 (Exists.intro none (And.intro (tX8_tell l (d + 0) hcv2) (And.intro rfl (And.intro rfl (And.intro rfl (And.intro g4 (am_nl (Z := fun x5 => X 27 [(3, .inl x5), (2, .inl (0 : Int32)), (0, .inr (.inr ((9, 0, 0), 0))), (1, .inl a1)] [] s3) hf (fun x5 hf => ?_)))))))))))
    have hL30 : ∀ (n30 : Nat) (x6 : Int32) (x7 : Int32), fX8_waits_L30 a1 s3 x5 n30 x6 x7 = some (sE, rE) → X 30 [(0, .inr (.inr ((9, 0, 0), 0))), (1, .inl a1), (2, .inl x6), (3, .inl x5), (4, .inl x7)] [] s3 := by
      intro n30
      induction n30 with
      | zero => intro x6 x7 hf; exact am_no (show none = some _ from hf)
      | succ n30 ih30 =>
        intro x6 x7 hf
        refine am_blk hX 18 3 (And.intro (fun hb => ?_) (fun hb => ?_))
        · have hf := am_it hf hb
          show X 81 [(0, .inr (.inr ((9, 0, 0), 0))), (1, .inl a1), (2, .inl x6), (3, .inl x5), (4, .inl x7)] [] s3
          refine am_blk hX 43 2 (am_ri hf)
        · have hf := am_if hf hb
          show X 37 [(0, .inr (.inr ((9, 0, 0), 0))), (1, .inl a1), (2, .inl x6), (3, .inl x5), (4, .inl x7)] [] s3
          obtain ⟨g8, hf⟩ := am_g_of hf
          obtain ⟨g9, hf⟩ := am_g_of hf
          obtain ⟨g10, hf⟩ := am_g_of hf
          refine am_jn hf (fun J75 => ∀ (x11 : Int32), J75 x11 = some (sE, rE) → X 75 [(0, .inr (.inr ((9, 0, 0), 0))), (1, .inl a1), (2, .inl x11), (3, .inl x5), (4, .inl x7)] [] s3) ?_ ?_
          · intro x11 hf
            refine am_blk hX 41 1 (am_nl (Z := fun x12 => X 78 [(4, .inl x12), (0, .inr (.inr ((9, 0, 0), 0))), (1, .inl a1), (2, .inl x11), (3, .inl x5)] [] s3) hf (fun x12 hf => ?_))
            refine am_blk hX 42 1 (?_)
            show X 30 [(4, .inl x12), (0, .inr (.inr ((9, 0, 0), 0))), (1, .inl a1), (2, .inl x11), (3, .inl x5)] [] s3
            exact am_wk hX [1, 2, 3, 4, 0] (ih30 x11 x12 hf)
          · intro J75 hJ75 hf
            refine am_blk hX 21 13 (And.intro rfl (And.intro rfl (And.intro rfl (And.intro g8 (And.intro rfl (And.intro rfl (And.intro g9 (And.intro rfl (And.intro g10 (And.intro (fun hb => ?_) (fun hb => ?_)))))))))))
            · have hf := am_if hf hb
              show X 75 [(0, .inr (.inr ((9, 0, 0), 0))), (1, .inl a1), (2, .inl x6), (3, .inl x5), (4, .inl x7)] [] s3
              exact am_wk hX [0, 1, 2, 3, 4] (hJ75 x6 hf)
            · have hf := am_it hf hb
              show X 61 [(0, .inr (.inr ((9, 0, 0), 0))), (1, .inl a1), (2, .inl x6), (3, .inl x5), (4, .inl x7)] [] s3
              refine am_jn hf (fun J72 => J72 = some (sE, rE) → X 72 [(0, .inr (.inr ((9, 0, 0), 0))), (1, .inl a1), (2, .inl x6), (3, .inl x5), (4, .inl x7)] [] s3) ?_ ?_
              · intro hf
                refine am_blk hX 40 1 (am_nl (Z := fun x13 => X 75 [(2, .inl x13), (0, .inr (.inr ((9, 0, 0), 0))), (1, .inl a1), (3, .inl x5), (4, .inl x7)] [] s3) hf (fun x13 hf => ?_))
                exact am_wk hX [1, 2, 0, 3, 4] (hJ75 x13 hf)
              · intro J72 hJ72 hf
                refine am_blk hX 34 3 (And.intro (fun hb => ?_) (fun hb => ?_))
                · have hf := am_it hf hb
                  show X 72 [(0, .inr (.inr ((9, 0, 0), 0))), (1, .inl a1), (2, .inl x6), (3, .inl x5), (4, .inl x7)] [] s3
                  exact am_wk hX [0, 1, 2, 3, 4] (hJ72 hf)
                · have hf := am_if hf hb
                  show X 66 [(0, .inr (.inr ((9, 0, 0), 0))), (1, .inl a1), (2, .inl x6), (3, .inl x5), (4, .inl x7)] [] s3
                  refine am_blk hX 37 3 (And.intro (fun hb => ?_) (fun hb => ?_))
                  · have hf := am_it hf hb
                    show X 75 [(0, .inr (.inr ((9, 0, 0), 0))), (1, .inl a1), (2, .inl x6), (3, .inl x5), (4, .inl x7)] [] s3
                    exact am_wk hX [0, 1, 2, 3, 4] (hJ75 x6 hf)
                  · have hf := am_if hf hb
                    show X 72 [(0, .inr (.inr ((9, 0, 0), 0))), (1, .inl a1), (2, .inl x6), (3, .inl x5), (4, .inl x7)] [] s3
                    exact am_wk hX [0, 1, 2, 3, 4] (hJ72 hf)
    refine am_blk hX 16 2 (?_)
    show X 30 [(4, .inl (0 : Int32)), (3, .inl x5), (2, .inl (0 : Int32)), (0, .inr (.inr ((9, 0, 0), 0))), (1, .inl a1)] [] s3
    exact am_wk hX [3, 4, 2, 1, 0] (hL30 am_fu (0 : Int32) (0 : Int32) hf)
  · have hf := am_it hf hb
    show X 8 [(0, .inr (.inr ((9, 0, 0), 0))), (1, .inl a1)] [] s0
    refine am_blk hX 4 2 (am_ri hf)
def fX8_walks (s0 : AS) (a1 : Int32) : Option (AS × Int32) :=
  am_r (fX8_isPerson s0 a1) (fun (v1 : Int32) => if v1 = 0 then (some (s0, (-2 : Int32))) else (am_c (fX8_tell s0) (fun (s3 : AS) (v2 : Unit) => am_g (¬ (a1 < 0 ∨ 8 ≤ a1.toNatClampNeg)) (am_let (s3.1 167 a1.toNatClampNeg) (fun (x5 : Int32) => if x5 = (-1 : Int32) then (some (s3, (-1 : Int32))) else (am_g (¬ (a1 < 0 ∨ 8 ≤ a1.toNatClampNeg)) (am_let (s3.1 168 a1.toNatClampNeg) (fun (x7 : Int32) => am_let (fun (x8 : Int32) => am_r (fX8_goneBetween s3 x5 x8) (fun (v9 : Int32) => some (s3, v9))) (fun J55 => if x7 = (-1 : Int32) then (J55 (60 : Int32)) else (J55 x7))))))))))
def kX8_walks : List (Nat × Instr × Nat) := [(0, .aload_n 0, 1), (1, .iload_n 1, 1), (2, .invokevirtual 137, 3), (5, .ifCond .ne 6, 3), (8, .bipush (-2), 2), (10, .ireturn, 1), (11, .aload_n 0, 1), (12, .invokevirtual 165, 3), (15, .aload_n 0, 1), (16, .getfield 61, 3), (19, .getfield 228, 3), (22, .iload_n 1, 1), (23, .iaload, 1), (24, .istore_n 2, 1), (25, .iload_n 2, 1), (26, .iconst (-1), 1), (27, .if_icmp .ne 5, 3), (30, .iconst (-1), 1), (31, .ireturn, 1), (32, .aload_n 0, 1), (33, .getfield 61, 3), (36, .getfield 231, 3), (39, .iload_n 1, 1), (40, .iaload, 1), (41, .istore_n 3, 1), (42, .aload_n 0, 1), (43, .iload_n 2, 1), (44, .iload_n 3, 1), (45, .iconst (-1), 1), (46, .if_icmp .ne 8, 3), (49, .bipush 60, 2), (51, .goto 4, 3), (54, .iload_n 3, 1), (55, .invokevirtual 243, 3), (58, .ireturn, 1)]
theorem qX8_walks : ∀ q ∈ kX8_walks, decode mX8_walks.2.2.1 q.1 = .ok (q.2.1, q.2.2) ∧ am_iok mX8_walks.2.2.2.1 q.1 q.2.1 q.2.2 = true := by decide +kernel
set_option maxRecDepth 100000 in
theorem wX8_walks : Cond.code mX8_walks.2.1 mX8_walks.2.2.1 mX8_walks.2.2.2.1 mX8_walks.2.2.2.2.1 ∈ am_T := List.mem_filter.mpr ⟨List.mem_of_getElem? (i := 970) rfl, rfl⟩
set_option maxHeartbeats 4000000 in
set_option maxRecDepth 100000 in
theorem tX8_walks (l : Launch) (d : Nat) {s0 : AS} {a1 : Int32} {sE : AS} {rE : Int32} (hf : fX8_walks s0 a1 = some (sE, rE)) : am_Ct l (d + 6) mX8_walks [.inr (.inr ((9, 0, 0), 0)), .inl a1] s0 sE (some (.inl rE)) := by
  refine am_sim l (d + 5) (code := kX8_walks) (by decide +kernel) wX8_walks qX8_walks (Nat.le_of_ble_eq_true rfl) ?_
  intro X hX
  show X 0 [(0, .inr (.inr ((9, 0, 0), 0))), (1, .inl a1)] [] s0
  unfold fX8_walks at hf
  obtain ⟨v1, hcv1, hf⟩ := am_r_of hf
  refine am_blk hX 0 4 (And.intro rfl (And.intro rfl (Exists.intro s0 (Exists.intro (some (.inl v1)) (And.intro (tX8_isPerson l (d + 4) hcv1) (And.intro (fun hb => ?_) (fun hb => ?_)))))))
  · have hf := am_if hf hb
    show X 11 [(0, .inr (.inr ((9, 0, 0), 0))), (1, .inl a1)] [] s0
    obtain ⟨s3, v2, hcv2, hf⟩ := am_c_of hf
    obtain ⟨g4, hf⟩ := am_g_of hf
    refine am_blk hX 6 8 (And.intro rfl (And.intro rfl (Exists.intro s3 (Exists.intro none (And.intro (tX8_tell l (d + 0) hcv2) (And.intro rfl (And.intro rfl (And.intro rfl (And.intro g4 (am_nl (Z := fun x5 => X 25 [(2, .inl x5), (0, .inr (.inr ((9, 0, 0), 0))), (1, .inl a1)] [] s3) hf (fun x5 hf => ?_)))))))))))
    refine am_blk hX 14 3 (And.intro (fun hb => ?_) (fun hb => ?_))
    · have hf := am_if hf hb
      show X 32 [(2, .inl x5), (0, .inr (.inr ((9, 0, 0), 0))), (1, .inl a1)] [] s3
      obtain ⟨g6, hf⟩ := am_g_of hf
      refine am_blk hX 19 6 (And.intro rfl (And.intro rfl (And.intro rfl (And.intro g6 (am_nl (Z := fun x7 => X 42 [(3, .inl x7), (2, .inl x5), (0, .inr (.inr ((9, 0, 0), 0))), (1, .inl a1)] [] s3) hf (fun x7 hf => ?_))))))
      refine am_jn hf (fun J55 => ∀ (x8 : Int32), J55 x8 = some (sE, rE) → X 55 [] [.inl x8, .inl x5, .inr (.inr ((9, 0, 0), 0))] s3) ?_ ?_
      · intro x8 hf
        obtain ⟨v9, hcv9, hf⟩ := am_r_of hf
        refine am_blk hX 33 2 (And.intro rfl (And.intro rfl (Exists.intro s3 (Exists.intro (some (.inl v9)) (And.intro (tX8_goneBetween l (d + 1) hcv9) (am_ri hf))))))
      · intro J55 hJ55 hf
        refine am_blk hX 25 5 (And.intro (fun hb => ?_) (fun hb => ?_))
        · have hf := am_if hf hb
          show X 54 [(3, .inl x7), (2, .inl x5), (0, .inr (.inr ((9, 0, 0), 0))), (1, .inl a1)] [.inl x5, .inr (.inr ((9, 0, 0), 0))] s3
          refine am_blk hX 32 1 (?_)
          show X 55 [(3, .inl x7), (2, .inl x5), (0, .inr (.inr ((9, 0, 0), 0))), (1, .inl a1)] [.inl x7, .inl x5, .inr (.inr ((9, 0, 0), 0))] s3
          exact am_wk hX [] (hJ55 x7 hf)
        · have hf := am_it hf hb
          show X 49 [(3, .inl x7), (2, .inl x5), (0, .inr (.inr ((9, 0, 0), 0))), (1, .inl a1)] [.inl x5, .inr (.inr ((9, 0, 0), 0))] s3
          refine am_blk hX 30 2 (?_)
          show X 55 [(3, .inl x7), (2, .inl x5), (0, .inr (.inr ((9, 0, 0), 0))), (1, .inl a1)] [.inl (60 : Int32), .inl x5, .inr (.inr ((9, 0, 0), 0))] s3
          exact am_wk hX [] (hJ55 (60 : Int32) hf)
    · have hf := am_it hf hb
      show X 30 [(2, .inl x5), (0, .inr (.inr ((9, 0, 0), 0))), (1, .inl a1)] [] s3
      refine am_blk hX 17 2 (am_ri hf)
  · have hf := am_it hf hb
    show X 8 [(0, .inr (.inr ((9, 0, 0), 0))), (1, .inl a1)] [] s0
    refine am_blk hX 4 2 (am_ri hf)
def fX8_way (s0 : AS) (a1 : Int32) (a2 : Int32) : Option (AS × Int32) :=
  am_r (fX8_isPlace s0 a1) (fun (v1 : Int32) => am_let (some (s0, (-2 : Int32))) (fun J16 => if v1 = 0 then (J16) else (am_r (fX8_isPlace s0 a2) (fun (v2 : Int32) => if v2 = 0 then (J16) else (am_c (fX8_tell s0) (fun (s4 : AS) (v3 : Unit) => am_r (fX7_lengthOf s4 138 a1 a2) (fun (v5 : Int32) => some (s4, v5))))))))
def kX8_way : List (Nat × Instr × Nat) := [(0, .aload_n 0, 1), (1, .iload_n 1, 1), (2, .invokevirtual 162, 3), (5, .ifCond .eq 11, 3), (8, .aload_n 0, 1), (9, .iload_n 2, 1), (10, .invokevirtual 162, 3), (13, .ifCond .ne 6, 3), (16, .bipush (-2), 2), (18, .ireturn, 1), (19, .aload_n 0, 1), (20, .invokevirtual 165, 3), (23, .aload_n 0, 1), (24, .getfield 54, 3), (27, .iload_n 1, 1), (28, .iload_n 2, 1), (29, .invokevirtual 168, 3), (32, .ireturn, 1)]
theorem qX8_way : ∀ q ∈ kX8_way, decode mX8_way.2.2.1 q.1 = .ok (q.2.1, q.2.2) ∧ am_iok mX8_way.2.2.2.1 q.1 q.2.1 q.2.2 = true := by decide +kernel
set_option maxRecDepth 100000 in
theorem wX8_way : Cond.code mX8_way.2.1 mX8_way.2.2.1 mX8_way.2.2.2.1 mX8_way.2.2.2.2.1 ∈ am_T := List.mem_filter.mpr ⟨List.mem_of_getElem? (i := 708) rfl, rfl⟩
set_option maxHeartbeats 4000000 in
set_option maxRecDepth 100000 in
theorem tX8_way (l : Launch) (d : Nat) {s0 : AS} {a1 : Int32} {a2 : Int32} {sE : AS} {rE : Int32} (hf : fX8_way s0 a1 a2 = some (sE, rE)) : am_Ct l (d + 6) mX8_way [.inr (.inr ((9, 0, 0), 0)), .inl a1, .inl a2] s0 sE (some (.inl rE)) := by
  refine am_sim l (d + 5) (code := kX8_way) (by decide +kernel) wX8_way qX8_way (Nat.le_of_ble_eq_true rfl) ?_
  intro X hX
  show X 0 [(0, .inr (.inr ((9, 0, 0), 0))), (1, .inl a1), (2, .inl a2)] [] s0
  unfold fX8_way at hf
  obtain ⟨v1, hcv1, hf⟩ := am_r_of hf
  refine am_jn hf (fun J16 => J16 = some (sE, rE) → X 16 [] [] s0) ?_ ?_
  · intro hf
    refine am_blk hX 8 2 (am_ri hf)
  · intro J16 hJ16 hf
    refine am_blk hX 0 4 (And.intro rfl (And.intro rfl (Exists.intro s0 (Exists.intro (some (.inl v1)) (And.intro (tX8_isPlace l (d + 4) hcv1) (And.intro (fun hb => ?_) (fun hb => ?_)))))))
    · have hf := am_it hf hb
      show X 16 [(0, .inr (.inr ((9, 0, 0), 0))), (1, .inl a1), (2, .inl a2)] [] s0
      exact am_wk hX [] (hJ16 hf)
    · have hf := am_if hf hb
      show X 8 [(0, .inr (.inr ((9, 0, 0), 0))), (1, .inl a1), (2, .inl a2)] [] s0
      obtain ⟨v2, hcv2, hf⟩ := am_r_of hf
      refine am_blk hX 4 4 (And.intro rfl (And.intro rfl (Exists.intro s0 (Exists.intro (some (.inl v2)) (And.intro (tX8_isPlace l (d + 4) hcv2) (And.intro (fun hb => ?_) (fun hb => ?_)))))))
      · have hf := am_if hf hb
        show X 19 [(0, .inr (.inr ((9, 0, 0), 0))), (1, .inl a1), (2, .inl a2)] [] s0
        obtain ⟨s4, v3, hcv3, hf⟩ := am_c_of hf
        obtain ⟨v5, hcv5, hf⟩ := am_r_of hf
        refine am_blk hX 10 8 (And.intro rfl (And.intro rfl (Exists.intro s4 (Exists.intro none (And.intro (tX8_tell l (d + 0) hcv3) (And.intro rfl (And.intro rfl (And.intro rfl (Exists.intro s4 (Exists.intro (some (.inl v5)) (And.intro (tX7_lengthOf l (d + 3) hcv5) (am_ri hf))))))))))))
      · have hf := am_it hf hb
        show X 16 [(0, .inr (.inr ((9, 0, 0), 0))), (1, .inl a1), (2, .inl a2)] [] s0
        exact am_wk hX [] (hJ16 hf)
def fX8_weighs_L19 (a1 : Int32) (s3 : AS) : Nat → Int32 → Int32 → Option (AS × Int32)
  | 0, _, _ => none
  | n19 + 1, x4, x5 =>
    if (s3.1 25 6) ≤ x5 then (some (s3, x4)) else (am_r (fX8_isIn s3 x5 a1) (fun (v6 : Int32) => am_let (fun (x7 : Int32) => am_let (x5 + (1 : Int32)) (fun (x8 : Int32) => fX8_weighs_L19 a1 s3 n19 x7 x8)) (fun J53 => if v6 = 0 then (J53 x4) else (am_g (¬ (x5 < 0 ∨ 8 ≤ x5.toNatClampNeg)) (am_g (¬ ((4 : Int32) < 0 ∨ 5 ≤ (4 : Int32).toNatClampNeg)) (am_let (x4 + (s3.1 (38 + x5.toNatClampNeg) ((4 : Int32).toNatClampNeg))) (fun (x11 : Int32) => J53 x11)))))))
def fX8_weighs (s0 : AS) (a1 : Int32) : Option (AS × Int32) :=
  am_r (fX8_isStep s0 a1) (fun (v1 : Int32) => if v1 = 0 then (some (s0, (-2 : Int32))) else (am_c (fX8_tell s0) (fun (s3 : AS) (v2 : Unit) => fX8_weighs_L19 a1 s3 am_fu (0 : Int32) (0 : Int32))))
def kX8_weighs : List (Nat × Instr × Nat) := [(0, .aload_n 0, 1), (1, .iload_n 1, 1), (2, .invokevirtual 209, 3), (5, .ifCond .ne 6, 3), (8, .bipush (-2), 2), (10, .ireturn, 1), (11, .aload_n 0, 1), (12, .invokevirtual 165, 3), (15, .iconst 0, 1), (16, .istore_n 2, 1), (17, .iconst 0, 1), (18, .istore_n 3, 1), (19, .iload_n 3, 1), (20, .aload_n 0, 1), (21, .getfield 29, 3), (24, .getfield 123, 3), (27, .if_icmp .ge 32, 3), (30, .aload_n 0, 1), (31, .iload_n 3, 1), (32, .iload_n 1, 1), (33, .invokevirtual 219, 3), (36, .ifCond .eq 17, 3), (39, .iload_n 2, 1), (40, .aload_n 0, 1), (41, .getfield 29, 3), (44, .getfield 140, 3), (47, .iload_n 3, 1), (48, .aaload, 1), (49, .iconst 4, 1), (50, .iaload, 1), (51, .iadd, 1), (52, .istore_n 2, 1), (53, .iinc 3 1, 3), (56, .goto (-37), 3), (59, .iload_n 2, 1), (60, .ireturn, 1)]
theorem qX8_weighs : ∀ q ∈ kX8_weighs, decode mX8_weighs.2.2.1 q.1 = .ok (q.2.1, q.2.2) ∧ am_iok mX8_weighs.2.2.2.1 q.1 q.2.1 q.2.2 = true := by decide +kernel
set_option maxRecDepth 100000 in
theorem wX8_weighs : Cond.code mX8_weighs.2.1 mX8_weighs.2.2.1 mX8_weighs.2.2.2.1 mX8_weighs.2.2.2.2.1 ∈ am_T := List.mem_filter.mpr ⟨List.mem_of_getElem? (i := 942) rfl, rfl⟩
set_option maxHeartbeats 4000000 in
set_option maxRecDepth 100000 in
theorem tX8_weighs (l : Launch) (d : Nat) {s0 : AS} {a1 : Int32} {sE : AS} {rE : Int32} (hf : fX8_weighs s0 a1 = some (sE, rE)) : am_Ct l (d + 6) mX8_weighs [.inr (.inr ((9, 0, 0), 0)), .inl a1] s0 sE (some (.inl rE)) := by
  refine am_sim l (d + 5) (code := kX8_weighs) (by decide +kernel) wX8_weighs qX8_weighs (Nat.le_of_ble_eq_true rfl) ?_
  intro X hX
  show X 0 [(0, .inr (.inr ((9, 0, 0), 0))), (1, .inl a1)] [] s0
  unfold fX8_weighs at hf
  obtain ⟨v1, hcv1, hf⟩ := am_r_of hf
  refine am_blk hX 0 4 (And.intro rfl (And.intro rfl (Exists.intro s0 (Exists.intro (some (.inl v1)) (And.intro (tX8_isStep l (d + 3) hcv1) (And.intro (fun hb => ?_) (fun hb => ?_)))))))
  · have hf := am_if hf hb
    show X 11 [(0, .inr (.inr ((9, 0, 0), 0))), (1, .inl a1)] [] s0
    obtain ⟨s3, v2, hcv2, hf⟩ := am_c_of hf
    have hL19 : ∀ (n19 : Nat) (x4 : Int32) (x5 : Int32), fX8_weighs_L19 a1 s3 n19 x4 x5 = some (sE, rE) → X 19 [(0, .inr (.inr ((9, 0, 0), 0))), (1, .inl a1), (2, .inl x4), (3, .inl x5)] [] s3 := by
      intro n19
      induction n19 with
      | zero => intro x4 x5 hf; exact am_no (show none = some _ from hf)
      | succ n19 ih19 =>
        intro x4 x5 hf
        refine am_blk hX 12 5 (And.intro rfl (And.intro rfl (And.intro (fun hb => ?_) (fun hb => ?_))))
        · have hf := am_it hf hb
          show X 59 [(0, .inr (.inr ((9, 0, 0), 0))), (1, .inl a1), (2, .inl x4), (3, .inl x5)] [] s3
          refine am_blk hX 34 2 (am_ri hf)
        · have hf := am_if hf hb
          show X 30 [(0, .inr (.inr ((9, 0, 0), 0))), (1, .inl a1), (2, .inl x4), (3, .inl x5)] [] s3
          obtain ⟨v6, hcv6, hf⟩ := am_r_of hf
          refine am_jn hf (fun J53 => ∀ (x7 : Int32), J53 x7 = some (sE, rE) → X 53 [(0, .inr (.inr ((9, 0, 0), 0))), (1, .inl a1), (2, .inl x7), (3, .inl x5)] [] s3) ?_ ?_
          · intro x7 hf
            refine am_blk hX 32 1 (am_nl (Z := fun x8 => X 56 [(3, .inl x8), (0, .inr (.inr ((9, 0, 0), 0))), (1, .inl a1), (2, .inl x7)] [] s3) hf (fun x8 hf => ?_))
            refine am_blk hX 33 1 (?_)
            show X 19 [(3, .inl x8), (0, .inr (.inr ((9, 0, 0), 0))), (1, .inl a1), (2, .inl x7)] [] s3
            exact am_wk hX [1, 2, 3, 0] (ih19 x7 x8 hf)
          · intro J53 hJ53 hf
            refine am_blk hX 17 5 (And.intro rfl (And.intro rfl (Exists.intro s3 (Exists.intro (some (.inl v6)) (And.intro (tX8_isIn l (d + 3) hcv6) (And.intro (fun hb => ?_) (fun hb => ?_)))))))
            · have hf := am_it hf hb
              show X 53 [(0, .inr (.inr ((9, 0, 0), 0))), (1, .inl a1), (2, .inl x4), (3, .inl x5)] [] s3
              exact am_wk hX [0, 1, 2, 3] (hJ53 x4 hf)
            · have hf := am_if hf hb
              show X 39 [(0, .inr (.inr ((9, 0, 0), 0))), (1, .inl a1), (2, .inl x4), (3, .inl x5)] [] s3
              obtain ⟨g9, hf⟩ := am_g_of hf
              obtain ⟨g10, hf⟩ := am_g_of hf
              refine am_blk hX 22 10 (And.intro rfl (And.intro rfl (And.intro g9 (And.intro rfl (And.intro g10 (am_nl (Z := fun x11 => X 53 [(2, .inl x11), (0, .inr (.inr ((9, 0, 0), 0))), (1, .inl a1), (3, .inl x5)] [] s3) hf (fun x11 hf => ?_)))))))
              exact am_wk hX [1, 2, 0, 3] (hJ53 x11 hf)
    refine am_blk hX 6 6 (And.intro rfl (And.intro rfl (Exists.intro s3 (Exists.intro none (And.intro (tX8_tell l (d + 0) hcv2) (?_))))))
    show X 19 [(3, .inl (0 : Int32)), (2, .inl (0 : Int32)), (0, .inr (.inr ((9, 0, 0), 0))), (1, .inl a1)] [] s3
    exact am_wk hX [2, 3, 1, 0] (hL19 am_fu (0 : Int32) (0 : Int32) hf)
  · have hf := am_it hf hb
    show X 8 [(0, .inr (.inr ((9, 0, 0), 0))), (1, .inl a1)] [] s0
    refine am_blk hX 4 2 (am_ri hf)
def fX8_why (s0 : AS) : Option (AS × Int32) :=
  am_r (fX8_isMarch s0) (fun (v1 : Int32) => if v1 = 0 then (some (s0, (-2 : Int32))) else (am_c (fX8_tell s0) (fun (s3 : AS) (v2 : Unit) => some (s3, s3.1 163 7))))
def kX8_why : List (Nat × Instr × Nat) := [(0, .aload_n 0, 1), (1, .invokevirtual 126, 3), (4, .ifCond .ne 6, 3), (7, .bipush (-2), 2), (9, .ireturn, 1), (10, .aload_n 0, 1), (11, .invokevirtual 165, 3), (14, .aload_n 0, 1), (15, .getfield 61, 3), (18, .getfield 237, 3), (21, .ireturn, 1)]
theorem qX8_why : ∀ q ∈ kX8_why, decode mX8_why.2.2.1 q.1 = .ok (q.2.1, q.2.2) ∧ am_iok mX8_why.2.2.2.1 q.1 q.2.1 q.2.2 = true := by decide +kernel
set_option maxRecDepth 100000 in
theorem wX8_why : Cond.code mX8_why.2.1 mX8_why.2.2.1 mX8_why.2.2.2.1 mX8_why.2.2.2.2.1 ∈ am_T := List.mem_filter.mpr ⟨List.mem_of_getElem? (i := 882) rfl, rfl⟩
set_option maxHeartbeats 4000000 in
set_option maxRecDepth 100000 in
theorem tX8_why (l : Launch) (d : Nat) {s0 : AS} {sE : AS} {rE : Int32} (hf : fX8_why s0 = some (sE, rE)) : am_Ct l (d + 6) mX8_why [.inr (.inr ((9, 0, 0), 0))] s0 sE (some (.inl rE)) := by
  refine am_sim l (d + 5) (code := kX8_why) (by decide +kernel) wX8_why qX8_why (Nat.le_of_ble_eq_true rfl) ?_
  intro X hX
  show X 0 [(0, .inr (.inr ((9, 0, 0), 0)))] [] s0
  unfold fX8_why at hf
  obtain ⟨v1, hcv1, hf⟩ := am_r_of hf
  refine am_blk hX 0 3 (And.intro rfl (And.intro rfl (Exists.intro s0 (Exists.intro (some (.inl v1)) (And.intro (tX8_isMarch l (d + 4) hcv1) (And.intro (fun hb => ?_) (fun hb => ?_)))))))
  · have hf := am_if hf hb
    show X 10 [(0, .inr (.inr ((9, 0, 0), 0)))] [] s0
    obtain ⟨s3, v2, hcv2, hf⟩ := am_c_of hf
    refine am_blk hX 5 6 (And.intro rfl (And.intro rfl (Exists.intro s3 (Exists.intro none (And.intro (tX8_tell l (d + 0) hcv2) (And.intro rfl (And.intro rfl (am_ri hf))))))))
  · have hf := am_it hf hb
    show X 7 [(0, .inr (.inr ((9, 0, 0), 0)))] [] s0
    refine am_blk hX 3 2 (am_ri hf)
def fX8_write (s0 : AS) (a1 : Int32) (a2 : Int32) (a3 : Int64) : Option (AS × Int32) :=
  am_r (fX8_isSlot a1) (fun (v1 : Int32) => if v1 = 0 then (some (s0, (-2 : Int32))) else (am_g (¬ (a1 < 0 ∨ 4 ≤ a1.toNatClampNeg)) (if (s0.1 (130 + 2 * a1.toNatClampNeg) 0) = 0 then (some (s0, (-6 : Int32))) else (am_let (some (s0, (-7 : Int32))) (fun J43 => if a2 < 0 then (J43) else (am_g (¬ (a1 < 0 ∨ 4 ≤ a1.toNatClampNeg)) (if a2 < (s0.1 (130 + 2 * a1.toNatClampNeg) 2) then (am_g (¬ (a1 < 0 ∨ 4 ≤ a1.toNatClampNeg)) (am_c (fX5_put s0 (130 + 2 * a1.toNatClampNeg) a2 a3) (fun (s6 : AS) (v5 : Unit) => some (s6, (0 : Int32))))) else (J43))))))))
def kX8_write : List (Nat × Instr × Nat) := [(0, .aload_n 0, 1), (1, .iload_n 1, 1), (2, .invokevirtual 312, 3), (5, .ifCond .ne 6, 3), (8, .bipush (-2), 2), (10, .ireturn, 1), (11, .aload_n 0, 1), (12, .getfield 47, 3), (15, .iload_n 1, 1), (16, .aaload, 1), (17, .getfield 159, 3), (20, .ifCond .ne 6, 3), (23, .bipush (-6), 2), (25, .ireturn, 1), (26, .iload_n 2, 1), (27, .ifCond .lt 16, 3), (30, .iload_n 2, 1), (31, .aload_n 0, 1), (32, .getfield 47, 3), (35, .iload_n 1, 1), (36, .aaload, 1), (37, .getfield 315, 3), (40, .if_icmp .lt 6, 3), (43, .bipush (-7), 2), (45, .ireturn, 1), (46, .aload_n 0, 1), (47, .getfield 47, 3), (50, .iload_n 1, 1), (51, .aaload, 1), (52, .iload_n 2, 1), (53, .lload_n 3, 1), (54, .invokevirtual 452, 3), (57, .iconst 0, 1), (58, .ireturn, 1)]
theorem qX8_write : ∀ q ∈ kX8_write, decode mX8_write.2.2.1 q.1 = .ok (q.2.1, q.2.2) ∧ am_iok mX8_write.2.2.2.1 q.1 q.2.1 q.2.2 = true := by decide +kernel
set_option maxRecDepth 100000 in
theorem wX8_write : Cond.code mX8_write.2.1 mX8_write.2.2.1 mX8_write.2.2.2.1 mX8_write.2.2.2.2.1 ∈ am_T := List.mem_filter.mpr ⟨List.mem_of_getElem? (i := 1276) rfl, rfl⟩
set_option maxHeartbeats 4000000 in
set_option maxRecDepth 100000 in
theorem tX8_write (l : Launch) (d : Nat) {s0 : AS} {a1 : Int32} {a2 : Int32} {a3 : Int64} {sE : AS} {rE : Int32} (hf : fX8_write s0 a1 a2 a3 = some (sE, rE)) : am_Ct l (d + 2) mX8_write [.inr (.inr ((9, 0, 0), 0)), .inl a1, .inl a2, .inr (.inl a3)] s0 sE (some (.inl rE)) := by
  refine am_sim l (d + 1) (code := kX8_write) (by decide +kernel) wX8_write qX8_write (Nat.le_of_ble_eq_true rfl) ?_
  intro X hX
  show X 0 [(0, .inr (.inr ((9, 0, 0), 0))), (1, .inl a1), (2, .inl a2), (3, .inr (.inl a3))] [] s0
  unfold fX8_write at hf
  obtain ⟨v1, hcv1, hf⟩ := am_r_of hf
  refine am_blk hX 0 4 (And.intro rfl (And.intro rfl (Exists.intro s0 (Exists.intro (some (.inl v1)) (And.intro (tX8_isSlot l (d + 0) hcv1) (And.intro (fun hb => ?_) (fun hb => ?_)))))))
  · have hf := am_if hf hb
    show X 11 [(0, .inr (.inr ((9, 0, 0), 0))), (1, .inl a1), (2, .inl a2), (3, .inr (.inl a3))] [] s0
    obtain ⟨g2, hf⟩ := am_g_of hf
    refine am_blk hX 6 6 (And.intro rfl (And.intro g2 (And.intro rfl (And.intro (fun hb => ?_) (fun hb => ?_)))))
    · have hf := am_if hf hb
      show X 26 [(0, .inr (.inr ((9, 0, 0), 0))), (1, .inl a1), (2, .inl a2), (3, .inr (.inl a3))] [] s0
      refine am_jn hf (fun J43 => J43 = some (sE, rE) → X 43 [] [] s0) ?_ ?_
      · intro hf
        refine am_blk hX 23 2 (am_ri hf)
      · intro J43 hJ43 hf
        refine am_blk hX 14 2 (And.intro (fun hb => ?_) (fun hb => ?_))
        · have hf := am_it hf hb
          show X 43 [(0, .inr (.inr ((9, 0, 0), 0))), (1, .inl a1), (2, .inl a2), (3, .inr (.inl a3))] [] s0
          exact am_wk hX [] (hJ43 hf)
        · have hf := am_if hf hb
          show X 30 [(0, .inr (.inr ((9, 0, 0), 0))), (1, .inl a1), (2, .inl a2), (3, .inr (.inl a3))] [] s0
          obtain ⟨g3, hf⟩ := am_g_of hf
          refine am_blk hX 16 7 (And.intro rfl (And.intro g3 (And.intro rfl (And.intro (fun hb => ?_) (fun hb => ?_)))))
          · have hf := am_it hf hb
            show X 46 [(0, .inr (.inr ((9, 0, 0), 0))), (1, .inl a1), (2, .inl a2), (3, .inr (.inl a3))] [] s0
            obtain ⟨g4, hf⟩ := am_g_of hf
            obtain ⟨s6, v5, hcv5, hf⟩ := am_c_of hf
            refine am_blk hX 25 9 (And.intro rfl (And.intro g4 (And.intro rfl (And.intro rfl (Exists.intro s6 (Exists.intro none (And.intro (tX5_put l (d + 0) hcv5) (am_ri hf))))))))
          · have hf := am_if hf hb
            show X 43 [(0, .inr (.inr ((9, 0, 0), 0))), (1, .inl a1), (2, .inl a2), (3, .inr (.inl a3))] [] s0
            exact am_wk hX [] (hJ43 hf)
    · have hf := am_it hf hb
      show X 23 [(0, .inr (.inr ((9, 0, 0), 0))), (1, .inl a1), (2, .inl a2), (3, .inr (.inl a3))] [] s0
      refine am_blk hX 12 2 (am_ri hf)
  · have hf := am_it hf hb
    show X 8 [(0, .inr (.inr ((9, 0, 0), 0))), (1, .inl a1), (2, .inl a2), (3, .inr (.inl a3))] [] s0
    refine am_blk hX 4 2 (am_ri hf)
def fX9_acts (s0 : AS) (a1 : Int32) (a2 : Int32) (a3 : Int32) : Option (AS × Unit) :=
  am_g (¬ ((6 : Int32) < 0 ∨ 35 ≤ (6 : Int32).toNatClampNeg)) (am_let ((3 : Int32) * (s0.1 222 ((6 : Int32).toNatClampNeg))) (fun (x2 : Int32) => am_g (¬ (x2 < 0 ∨ 600 ≤ x2.toNatClampNeg)) (am_let (am_si s0 226 (x2.toNatClampNeg) a1) (fun (s4 : AS) => am_g (¬ ((x2 + (1 : Int32)) < 0 ∨ 600 ≤ (x2 + (1 : Int32)).toNatClampNeg)) (am_let (am_si s4 226 ((x2 + (1 : Int32)).toNatClampNeg) a2) (fun (s6 : AS) => am_g (¬ ((x2 + (2 : Int32)) < 0 ∨ 600 ≤ (x2 + (2 : Int32)).toNatClampNeg)) (am_let (am_si s6 226 ((x2 + (2 : Int32)).toNatClampNeg) a3) (fun (s8 : AS) => am_g (¬ ((6 : Int32) < 0 ∨ 35 ≤ (6 : Int32).toNatClampNeg)) (am_g (¬ ((6 : Int32) < 0 ∨ 35 ≤ (6 : Int32).toNatClampNeg)) (am_let (am_si s8 222 ((6 : Int32).toNatClampNeg) ((s8.1 222 ((6 : Int32).toNatClampNeg)) + (1 : Int32))) (fun (s11 : AS) => some (s11, ()))))))))))))
def kX9_acts : List (Nat × Instr × Nat) := [(0, .iconst 3, 1), (1, .aload_n 0, 1), (2, .getfield 34, 3), (5, .bipush 6, 2), (7, .iaload, 1), (8, .imul, 1), (9, .istore 4, 2), (11, .aload_n 0, 1), (12, .getfield 46, 3), (15, .iload 4, 2), (17, .iload_n 1, 1), (18, .iastore, 1), (19, .aload_n 0, 1), (20, .getfield 46, 3), (23, .iload 4, 2), (25, .iconst 1, 1), (26, .iadd, 1), (27, .iload_n 2, 1), (28, .iastore, 1), (29, .aload_n 0, 1), (30, .getfield 46, 3), (33, .iload 4, 2), (35, .iconst 2, 1), (36, .iadd, 1), (37, .iload_n 3, 1), (38, .iastore, 1), (39, .aload_n 0, 1), (40, .getfield 34, 3), (43, .bipush 6, 2), (45, .dup2, 1), (46, .iaload, 1), (47, .iconst 1, 1), (48, .iadd, 1), (49, .iastore, 1), (50, .return_, 1)]
theorem qX9_acts : ∀ q ∈ kX9_acts, decode mX9_acts.2.2.1 q.1 = .ok (q.2.1, q.2.2) ∧ am_iok mX9_acts.2.2.2.1 q.1 q.2.1 q.2.2 = true := by decide +kernel
set_option maxRecDepth 100000 in
theorem wX9_acts : Cond.code mX9_acts.2.1 mX9_acts.2.2.1 mX9_acts.2.2.2.1 mX9_acts.2.2.2.2.1 ∈ am_T := List.mem_filter.mpr ⟨List.mem_of_getElem? (i := 1979) rfl, rfl⟩
set_option maxHeartbeats 4000000 in
set_option maxRecDepth 100000 in
theorem tX9_acts (l : Launch) (d : Nat) {s0 : AS} {a1 : Int32} {a2 : Int32} {a3 : Int32} {sE : AS} {rE : Unit} (hf : fX9_acts s0 a1 a2 a3 = some (sE, rE)) : am_Ct l (d + 1) mX9_acts [.inr (.inr ((10, 0, 0), 215)), .inl a1, .inl a2, .inl a3] s0 sE none := by
  refine am_sim l (d + 0) (code := kX9_acts) (by decide +kernel) wX9_acts qX9_acts (Nat.le_of_ble_eq_true rfl) ?_
  intro X hX
  show X 0 [(0, .inr (.inr ((10, 0, 0), 215))), (1, .inl a1), (2, .inl a2), (3, .inl a3)] [] s0
  unfold fX9_acts at hf
  obtain ⟨g1, hf⟩ := am_g_of hf
  refine am_blk hX 0 7 (And.intro rfl (And.intro rfl (And.intro g1 (am_nl (Z := fun x2 => X 11 [(4, .inl x2), (0, .inr (.inr ((10, 0, 0), 215))), (1, .inl a1), (2, .inl a2), (3, .inl a3)] [] s0) hf (fun x2 hf => ?_)))))
  obtain ⟨g3, hf⟩ := am_g_of hf
  refine am_blk hX 7 5 (And.intro rfl (And.intro rfl (And.intro g3 (am_nl (Z := fun s4 => X 19 [(4, .inl x2), (0, .inr (.inr ((10, 0, 0), 215))), (1, .inl a1), (2, .inl a2), (3, .inl a3)] [] s4) hf (fun s4 hf => ?_)))))
  obtain ⟨g5, hf⟩ := am_g_of hf
  refine am_blk hX 12 7 (And.intro rfl (And.intro rfl (And.intro g5 (am_nl (Z := fun s6 => X 29 [(4, .inl x2), (0, .inr (.inr ((10, 0, 0), 215))), (1, .inl a1), (2, .inl a2), (3, .inl a3)] [] s6) hf (fun s6 hf => ?_)))))
  obtain ⟨g7, hf⟩ := am_g_of hf
  refine am_blk hX 19 7 (And.intro rfl (And.intro rfl (And.intro g7 (am_nl (Z := fun s8 => X 39 [(4, .inl x2), (0, .inr (.inr ((10, 0, 0), 215))), (1, .inl a1), (2, .inl a2), (3, .inl a3)] [] s8) hf (fun s8 hf => ?_)))))
  obtain ⟨g9, hf⟩ := am_g_of hf
  obtain ⟨g10, hf⟩ := am_g_of hf
  refine am_blk hX 26 8 (And.intro rfl (And.intro rfl (And.intro g9 (And.intro rfl (And.intro g10 (am_nl (Z := fun s11 => X 50 [(4, .inl x2), (0, .inr (.inr ((10, 0, 0), 215))), (1, .inl a1), (2, .inl a2), (3, .inl a3)] [] s11) hf (fun s11 hf => ?_)))))))
  refine am_blk hX 34 1 (And.intro rfl (am_rv hf))
def fX9_isMarch (s0 : AS) : Option Int32 :=
  am_g (¬ ((0 : Int32) < 0 ∨ 5 ≤ (0 : Int32).toNatClampNeg)) (am_let (fun (x2 : Int32) => am_g (x2 = 0 ∨ x2 = 1) (some x2)) (fun J14 => if (s0.1 221 ((0 : Int32).toNatClampNeg)) ≤ 0 then (J14 (0 : Int32)) else (J14 (1 : Int32))))
def kX9_isMarch : List (Nat × Instr × Nat) := [(0, .aload_n 0, 1), (1, .getfield 31, 3), (4, .iconst 0, 1), (5, .iaload, 1), (6, .ifCond .le 7, 3), (9, .iconst 1, 1), (10, .goto 4, 3), (13, .iconst 0, 1), (14, .ireturn, 1)]
theorem qX9_isMarch : ∀ q ∈ kX9_isMarch, decode mX9_isMarch.2.2.1 q.1 = .ok (q.2.1, q.2.2) ∧ am_iok mX9_isMarch.2.2.2.1 q.1 q.2.1 q.2.2 = true := by decide +kernel
set_option maxRecDepth 100000 in
theorem wX9_isMarch : Cond.code mX9_isMarch.2.1 mX9_isMarch.2.2.1 mX9_isMarch.2.2.2.1 mX9_isMarch.2.2.2.2.1 ∈ am_T := List.mem_filter.mpr ⟨List.mem_of_getElem? (i := 1662) rfl, rfl⟩
set_option maxHeartbeats 4000000 in
set_option maxRecDepth 100000 in
theorem tX9_isMarch (l : Launch) (d : Nat) {s0 : AS} {rE : Int32} (hf : fX9_isMarch s0 = some rE) : am_Ct l (d + 1) mX9_isMarch [.inr (.inr ((10, 0, 0), 215))] s0 s0 (some (.inl rE)) := by
  refine am_sim l (d + 0) (code := kX9_isMarch) (by decide +kernel) wX9_isMarch qX9_isMarch (Nat.le_of_ble_eq_true rfl) ?_
  intro X hX
  show X 0 [(0, .inr (.inr ((10, 0, 0), 215)))] [] s0
  unfold fX9_isMarch at hf
  obtain ⟨g1, hf⟩ := am_g_of hf
  refine am_jn hf (fun J14 => ∀ (x2 : Int32), J14 x2 = some rE → X 14 [] [.inl x2] s0) ?_ ?_
  · intro x2 hf
    obtain ⟨g3, hf⟩ := am_g_of hf
    refine am_blk hX 8 1 (And.intro g3 (am_rpi hf))
  · intro J14 hJ14 hf
    refine am_blk hX 0 5 (And.intro rfl (And.intro rfl (And.intro g1 (And.intro (fun hb => ?_) (fun hb => ?_)))))
    · have hf := am_it hf hb
      show X 13 [(0, .inr (.inr ((10, 0, 0), 215)))] [] s0
      refine am_blk hX 7 1 (?_)
      show X 14 [(0, .inr (.inr ((10, 0, 0), 215)))] [.inl (0 : Int32)] s0
      exact am_wk hX [] (hJ14 (0 : Int32) hf)
    · have hf := am_if hf hb
      show X 9 [(0, .inr (.inr ((10, 0, 0), 215)))] [] s0
      refine am_blk hX 5 2 (?_)
      show X 14 [(0, .inr (.inr ((10, 0, 0), 215)))] [.inl (1 : Int32)] s0
      exact am_wk hX [] (hJ14 (1 : Int32) hf)
def fX9_anew (s0 : AS) : Option (AS × Int32) :=
  am_let (am_si s0 215 0 (0 : Int32)) (fun (s1 : AS) => am_r (fX9_isMarch s1) (fun (v2 : Int32) => if v2 = 0 then (some (s1, (-2 : Int32))) else (am_g (¬ ((6 : Int32) < 0 ∨ 35 ≤ (6 : Int32).toNatClampNeg)) (am_let (s1.1 222 ((6 : Int32).toNatClampNeg)) (fun (x4 : Int32) => am_g (¬ ((6 : Int32) < 0 ∨ 35 ≤ (6 : Int32).toNatClampNeg)) (am_let (am_si s1 222 ((6 : Int32).toNatClampNeg) (0 : Int32)) (fun (s6 : AS) => some (s6, x4))))))))
def kX9_anew : List (Nat × Instr × Nat) := [(0, .aload_n 0, 1), (1, .iconst 0, 1), (2, .putfield 80, 3), (5, .aload_n 0, 1), (6, .invokevirtual 251, 3), (9, .ifCond .ne 6, 3), (12, .bipush (-2), 2), (14, .ireturn, 1), (15, .aload_n 0, 1), (16, .getfield 34, 3), (19, .bipush 6, 2), (21, .iaload, 1), (22, .istore_n 1, 1), (23, .aload_n 0, 1), (24, .getfield 34, 3), (27, .bipush 6, 2), (29, .iconst 0, 1), (30, .iastore, 1), (31, .iload_n 1, 1), (32, .ireturn, 1)]
theorem qX9_anew : ∀ q ∈ kX9_anew, decode mX9_anew.2.2.1 q.1 = .ok (q.2.1, q.2.2) ∧ am_iok mX9_anew.2.2.2.1 q.1 q.2.1 q.2.2 = true := by decide +kernel
set_option maxRecDepth 100000 in
theorem wX9_anew : Cond.code mX9_anew.2.1 mX9_anew.2.2.1 mX9_anew.2.2.2.1 mX9_anew.2.2.2.2.1 ∈ am_T := List.mem_filter.mpr ⟨List.mem_of_getElem? (i := 2003) rfl, rfl⟩
set_option maxHeartbeats 4000000 in
set_option maxRecDepth 100000 in
theorem tX9_anew (l : Launch) (d : Nat) {s0 : AS} {sE : AS} {rE : Int32} (hf : fX9_anew s0 = some (sE, rE)) : am_Ct l (d + 2) mX9_anew [.inr (.inr ((10, 0, 0), 215))] s0 sE (some (.inl rE)) := by
  refine am_sim l (d + 1) (code := kX9_anew) (by decide +kernel) wX9_anew qX9_anew (Nat.le_of_ble_eq_true rfl) ?_
  intro X hX
  show X 0 [(0, .inr (.inr ((10, 0, 0), 215)))] [] s0
  unfold fX9_anew at hf
  refine am_blk hX 0 3 (And.intro rfl (am_nl (Z := fun s1 => X 5 [(0, .inr (.inr ((10, 0, 0), 215)))] [] s1) hf (fun s1 hf => ?_)))
  obtain ⟨v2, hcv2, hf⟩ := am_r_of hf
  refine am_blk hX 3 3 (And.intro rfl (And.intro rfl (Exists.intro s1 (Exists.intro (some (.inl v2)) (And.intro (tX9_isMarch l (d + 0) hcv2) (And.intro (fun hb => ?_) (fun hb => ?_)))))))
  · have hf := am_if hf hb
    show X 15 [(0, .inr (.inr ((10, 0, 0), 215)))] [] s1
    obtain ⟨g3, hf⟩ := am_g_of hf
    refine am_blk hX 8 5 (And.intro rfl (And.intro rfl (And.intro g3 (am_nl (Z := fun x4 => X 23 [(1, .inl x4), (0, .inr (.inr ((10, 0, 0), 215)))] [] s1) hf (fun x4 hf => ?_)))))
    obtain ⟨g5, hf⟩ := am_g_of hf
    refine am_blk hX 13 5 (And.intro rfl (And.intro rfl (And.intro g5 (am_nl (Z := fun s6 => X 31 [(1, .inl x4), (0, .inr (.inr ((10, 0, 0), 215)))] [] s6) hf (fun s6 hf => ?_)))))
    refine am_blk hX 18 2 (am_ri hf)
  · have hf := am_it hf hb
    show X 12 [(0, .inr (.inr ((10, 0, 0), 215)))] [] s1
    refine am_blk hX 6 2 (am_ri hf)
