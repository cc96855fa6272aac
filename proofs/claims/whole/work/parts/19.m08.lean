/-! METHODS, printed by gen.py. -/
def fX8_paste (s0 : AS) (a1 : Int32) (a2 : Int32) (a3 : Int32) (a4 : Int32) (a5 : Int32) : Option (AS × Int32) :=
  am_r (fX8_isSlot a1) (fun (v1 : Int32) => am_let (some (s0, (-2 : Int32))) (fun J16 => if v1 = 0 then (J16) else (am_r (fX8_isSlot a3) (fun (v2 : Int32) => if v2 = 0 then (J16) else (am_g (¬ (a1 < 0 ∨ 4 ≤ a1.toNatClampNeg)) (am_let (some (s0, (-6 : Int32))) (fun J43 => if (s0.1 (130 + 2 * a1.toNatClampNeg) 0) = 0 then (J43) else (am_g (¬ (a3 < 0 ∨ 4 ≤ a3.toNatClampNeg)) (if (s0.1 (130 + 2 * a3.toNatClampNeg) 0) = 0 then (J43) else (am_g (¬ (a1 < 0 ∨ 4 ≤ a1.toNatClampNeg)) (am_g (¬ (a3 < 0 ∨ 4 ≤ a3.toNatClampNeg)) (if (s0.1 (130 + 2 * a1.toNatClampNeg) 1) = (s0.1 (130 + 2 * a3.toNatClampNeg) 1) then (am_g (¬ (a1 < 0 ∨ 4 ≤ a1.toNatClampNeg)) (am_r (fX5_hasFrom s0 (130 + 2 * a1.toNatClampNeg) a2 a5) (fun (v8 : Int32) => am_let (some (s0, (-7 : Int32))) (fun J101 => if v8 = 0 then (J101) else (am_g (¬ (a3 < 0 ∨ 4 ≤ a3.toNatClampNeg)) (am_r (fX5_hasFrom s0 (130 + 2 * a3.toNatClampNeg) a4 a5) (fun (v10 : Int32) => if v10 = 0 then (J101) else (am_g (¬ (a1 < 0 ∨ 4 ≤ a1.toNatClampNeg)) (am_g (¬ (a3 < 0 ∨ 4 ≤ a3.toNatClampNeg)) (am_g (¬ a2 < 0 ∧ ¬ a4 < 0 ∧ ¬ a5 < 0 ∧ a2.toNatClampNeg + a5.toNatClampNeg ≤ 60 ∧ a4.toNatClampNeg + a5.toNatClampNeg ≤ 60) (am_let (am_srj s0 (130 + 2 * a3.toNatClampNeg + 1) (va_cpy (s0.2 (130 + 2 * a1.toNatClampNeg + 1)) (s0.2 (130 + 2 * a3.toNatClampNeg + 1)) a2.toNatClampNeg a4.toNatClampNeg a5.toNatClampNeg)) (fun (s14 : AS) => some (s14, (0 : Int32)))))))))))))) else (some (s0, (-8 : Int32)))))))))))))))
def kX8_paste : List (Nat × Instr × Nat) := [(0, .aload_n 0, 1), (1, .iload_n 1, 1), (2, .invokevirtual 312, 3), (5, .ifCond .eq 11, 3), (8, .aload_n 0, 1), (9, .iload_n 3, 1), (10, .invokevirtual 312, 3), (13, .ifCond .ne 6, 3), (16, .bipush (-2), 2), (18, .ireturn, 1), (19, .aload_n 0, 1), (20, .getfield 47, 3), (23, .iload_n 1, 1), (24, .aaload, 1), (25, .getfield 159, 3), (28, .ifCond .eq 15, 3), (31, .aload_n 0, 1), (32, .getfield 47, 3), (35, .iload_n 3, 1), (36, .aaload, 1), (37, .getfield 159, 3), (40, .ifCond .ne 6, 3), (43, .bipush (-6), 2), (45, .ireturn, 1), (46, .aload_n 0, 1), (47, .getfield 47, 3), (50, .iload_n 1, 1), (51, .aaload, 1), (52, .getfield 456, 3), (55, .aload_n 0, 1), (56, .getfield 47, 3), (59, .iload_n 3, 1), (60, .aaload, 1), (61, .getfield 456, 3), (64, .if_icmp .eq 6, 3), (67, .bipush (-8), 2), (69, .ireturn, 1), (70, .aload_n 0, 1), (71, .getfield 47, 3), (74, .iload_n 1, 1), (75, .aaload, 1), (76, .iload_n 2, 1), (77, .iload 5, 2), (79, .invokevirtual 459, 3), (82, .ifCond .eq 19, 3), (85, .aload_n 0, 1), (86, .getfield 47, 3), (89, .iload_n 3, 1), (90, .aaload, 1), (91, .iload 4, 2), (93, .iload 5, 2), (95, .invokevirtual 459, 3), (98, .ifCond .ne 6, 3), (101, .bipush (-7), 2), (103, .ireturn, 1), (104, .aload_n 0, 1), (105, .getfield 47, 3), (108, .iload_n 1, 1), (109, .aaload, 1), (110, .getfield 318, 3), (113, .iload_n 2, 1), (114, .aload_n 0, 1), (115, .getfield 47, 3), (118, .iload_n 3, 1), (119, .aaload, 1), (120, .getfield 318, 3), (123, .iload 4, 2), (125, .iload 5, 2), (127, .invokestatic 341, 3), (130, .iconst 0, 1), (131, .ireturn, 1)]
theorem qX8_paste : ∀ q ∈ kX8_paste, decode mX8_paste.2.2.1 q.1 = .ok (q.2.1, q.2.2) ∧ am_iok mX8_paste.2.2.2.1 q.1 q.2.1 q.2.2 = true := by decide +kernel
set_option maxRecDepth 100000 in
theorem wX8_paste : Cond.code mX8_paste.2.1 mX8_paste.2.2.1 mX8_paste.2.2.2.1 mX8_paste.2.2.2.2.1 ∈ am_T := List.mem_filter.mpr ⟨List.mem_of_getElem? (i := 1284) rfl, rfl⟩
set_option maxHeartbeats 4000000 in
set_option maxRecDepth 100000 in
theorem tX8_paste (l : Launch) (d : Nat) {s0 : AS} {a1 : Int32} {a2 : Int32} {a3 : Int32} {a4 : Int32} {a5 : Int32} {sE : AS} {rE : Int32} (hf : fX8_paste s0 a1 a2 a3 a4 a5 = some (sE, rE)) : am_Ct l (d + 2) mX8_paste [.inr (.inr ((9, 0, 0), 0)), .inl a1, .inl a2, .inl a3, .inl a4, .inl a5] s0 sE (some (.inl rE)) := by
  refine am_sim l (d + 1) (code := kX8_paste) (by decide +kernel) wX8_paste qX8_paste (Nat.le_of_ble_eq_true rfl) ?_
  intro X hX
  show X 0 [(0, .inr (.inr ((9, 0, 0), 0))), (1, .inl a1), (2, .inl a2), (3, .inl a3), (4, .inl a4), (5, .inl a5)] [] s0
  unfold fX8_paste at hf
  obtain ⟨v1, hcv1, hf⟩ := am_r_of hf
  refine am_jn hf (fun J16 => J16 = some (sE, rE) → X 16 [] [] s0) ?_ ?_
  · intro hf
    refine am_blk hX 8 2 (am_ri hf)
  · intro J16 hJ16 hf
    refine am_blk hX 0 4 (And.intro rfl (And.intro rfl (Exists.intro s0 (Exists.intro (some (.inl v1)) (And.intro (tX8_isSlot l (d + 0) hcv1) (And.intro (fun hb => ?_) (fun hb => ?_)))))))
    · have hf := am_it hf hb
      show X 16 [(0, .inr (.inr ((9, 0, 0), 0))), (1, .inl a1), (2, .inl a2), (3, .inl a3), (4, .inl a4), (5, .inl a5)] [] s0
      exact am_wk hX [] (hJ16 hf)
    · have hf := am_if hf hb
      show X 8 [(0, .inr (.inr ((9, 0, 0), 0))), (1, .inl a1), (2, .inl a2), (3, .inl a3), (4, .inl a4), (5, .inl a5)] [] s0
      obtain ⟨v2, hcv2, hf⟩ := am_r_of hf
      refine am_blk hX 4 4 (And.intro rfl (And.intro rfl (Exists.intro s0 (Exists.intro (some (.inl v2)) (And.intro (tX8_isSlot l (d + 0) hcv2) (And.intro (fun hb => ?_) (fun hb => ?_)))))))
      · have hf := am_if hf hb
        show X 19 [(0, .inr (.inr ((9, 0, 0), 0))), (1, .inl a1), (2, .inl a2), (3, .inl a3), (4, .inl a4), (5, .inl a5)] [] s0
        obtain ⟨g3, hf⟩ := am_g_of hf
        refine am_jn hf (fun J43 => J43 = some (sE, rE) → X 43 [] [] s0) ?_ ?_
        · intro hf
          refine am_blk hX 22 2 (am_ri hf)
        · intro J43 hJ43 hf
          refine am_blk hX 10 6 (And.intro rfl (And.intro g3 (And.intro rfl (And.intro (fun hb => ?_) (fun hb => ?_)))))
          · have hf := am_it hf hb
            show X 43 [(0, .inr (.inr ((9, 0, 0), 0))), (1, .inl a1), (2, .inl a2), (3, .inl a3), (4, .inl a4), (5, .inl a5)] [] s0
            exact am_wk hX [] (hJ43 hf)
          · have hf := am_if hf hb
            show X 31 [(0, .inr (.inr ((9, 0, 0), 0))), (1, .inl a1), (2, .inl a2), (3, .inl a3), (4, .inl a4), (5, .inl a5)] [] s0
            obtain ⟨g4, hf⟩ := am_g_of hf
            refine am_blk hX 16 6 (And.intro rfl (And.intro g4 (And.intro rfl (And.intro (fun hb => ?_) (fun hb => ?_)))))
            · have hf := am_if hf hb
              show X 46 [(0, .inr (.inr ((9, 0, 0), 0))), (1, .inl a1), (2, .inl a2), (3, .inl a3), (4, .inl a4), (5, .inl a5)] [] s0
              obtain ⟨g5, hf⟩ := am_g_of hf
              obtain ⟨g6, hf⟩ := am_g_of hf
              refine am_blk hX 24 11 (And.intro rfl (And.intro g5 (And.intro rfl (And.intro rfl (And.intro g6 (And.intro rfl (And.intro (fun hb => ?_) (fun hb => ?_))))))))
              · have hf := am_it hf hb
                show X 70 [(0, .inr (.inr ((9, 0, 0), 0))), (1, .inl a1), (2, .inl a2), (3, .inl a3), (4, .inl a4), (5, .inl a5)] [] s0
                obtain ⟨g7, hf⟩ := am_g_of hf
                obtain ⟨v8, hcv8, hf⟩ := am_r_of hf
                refine am_jn hf (fun J101 => J101 = some (sE, rE) → X 101 [] [] s0) ?_ ?_
                · intro hf
                  refine am_blk hX 53 2 (am_ri hf)
                · intro J101 hJ101 hf
                  refine am_blk hX 37 8 (And.intro rfl (And.intro g7 (And.intro rfl (And.intro rfl (Exists.intro s0 (Exists.intro (some (.inl v8)) (And.intro (tX5_hasFrom l (d + 0) hcv8) (And.intro (fun hb => ?_) (fun hb => ?_)))))))))
                  · have hf := am_it hf hb
                    show X 101 [(0, .inr (.inr ((9, 0, 0), 0))), (1, .inl a1), (2, .inl a2), (3, .inl a3), (4, .inl a4), (5, .inl a5)] [] s0
                    exact am_wk hX [] (hJ101 hf)
                  · have hf := am_if hf hb
                    show X 85 [(0, .inr (.inr ((9, 0, 0), 0))), (1, .inl a1), (2, .inl a2), (3, .inl a3), (4, .inl a4), (5, .inl a5)] [] s0
                    obtain ⟨g9, hf⟩ := am_g_of hf
                    obtain ⟨v10, hcv10, hf⟩ := am_r_of hf
                    refine am_blk hX 45 8 (And.intro rfl (And.intro g9 (And.intro rfl (And.intro rfl (Exists.intro s0 (Exists.intro (some (.inl v10)) (And.intro (tX5_hasFrom l (d + 0) hcv10) (And.intro (fun hb => ?_) (fun hb => ?_)))))))))
                    · have hf := am_if hf hb
                      show X 104 [(0, .inr (.inr ((9, 0, 0), 0))), (1, .inl a1), (2, .inl a2), (3, .inl a3), (4, .inl a4), (5, .inl a5)] [] s0
                      obtain ⟨g11, hf⟩ := am_g_of hf
                      obtain ⟨g12, hf⟩ := am_g_of hf
                      obtain ⟨g13, hf⟩ := am_g_of hf
                      refine am_blk hX 55 14 (And.intro rfl (And.intro g11 (And.intro rfl (And.intro rfl (And.intro g12 (And.intro rfl (And.intro rfl (And.intro rfl (And.intro g13 (am_nl (Z := fun s14 => X 130 [(0, .inr (.inr ((9, 0, 0), 0))), (1, .inl a1), (2, .inl a2), (3, .inl a3), (4, .inl a4), (5, .inl a5)] [] s14) hf (fun s14 hf => ?_)))))))))))
                      refine am_blk hX 69 2 (am_ri hf)
                    · have hf := am_it hf hb
                      show X 101 [(0, .inr (.inr ((9, 0, 0), 0))), (1, .inl a1), (2, .inl a2), (3, .inl a3), (4, .inl a4), (5, .inl a5)] [] s0
                      exact am_wk hX [] (hJ101 hf)
              · have hf := am_if hf hb
                show X 67 [(0, .inr (.inr ((9, 0, 0), 0))), (1, .inl a1), (2, .inl a2), (3, .inl a3), (4, .inl a4), (5, .inl a5)] [] s0
                refine am_blk hX 35 2 (am_ri hf)
            · have hf := am_it hf hb
              show X 43 [(0, .inr (.inr ((9, 0, 0), 0))), (1, .inl a1), (2, .inl a2), (3, .inl a3), (4, .inl a4), (5, .inl a5)] [] s0
              exact am_wk hX [] (hJ43 hf)
      · have hf := am_it hf hb
        show X 16 [(0, .inr (.inr ((9, 0, 0), 0))), (1, .inl a1), (2, .inl a2), (3, .inl a3), (4, .inl a4), (5, .inl a5)] [] s0
        exact am_wk hX [] (hJ16 hf)
def fX8_peak (s0 : AS) : Option (AS × Int32) :=
  am_r (fX8_isMarch s0) (fun (v1 : Int32) => if v1 = 0 then (some (s0, (-2 : Int32))) else (am_c (fX8_tell s0) (fun (s3 : AS) (v2 : Unit) => am_r (fX8_fullestStep s3) (fun (v4 : Int32) => am_g (¬ (v4 < 0 ∨ 61 ≤ v4.toNatClampNeg)) (am_let (fun (x6 : Int32) => some (s3, x6)) (fun J36 => if (s3.1 165 v4.toNatClampNeg) = 0 then (J36 (-1 : Int32)) else (J36 v4)))))))
def kX8_peak : List (Nat × Instr × Nat) := [(0, .aload_n 0, 1), (1, .invokevirtual 126, 3), (4, .ifCond .ne 6, 3), (7, .bipush (-2), 2), (9, .ireturn, 1), (10, .aload_n 0, 1), (11, .invokevirtual 165, 3), (14, .aload_n 0, 1), (15, .invokevirtual 249, 3), (18, .istore_n 1, 1), (19, .aload_n 0, 1), (20, .getfield 61, 3), (23, .getfield 216, 3), (26, .iload_n 1, 1), (27, .iaload, 1), (28, .ifCond .ne 7, 3), (31, .iconst (-1), 1), (32, .goto 4, 3), (35, .iload_n 1, 1), (36, .ireturn, 1)]
theorem qX8_peak : ∀ q ∈ kX8_peak, decode mX8_peak.2.2.1 q.1 = .ok (q.2.1, q.2.2) ∧ am_iok mX8_peak.2.2.2.1 q.1 q.2.1 q.2.2 = true := by decide +kernel
set_option maxRecDepth 100000 in
theorem wX8_peak : Cond.code mX8_peak.2.1 mX8_peak.2.2.1 mX8_peak.2.2.2.1 mX8_peak.2.2.2.2.1 ∈ am_T := List.mem_filter.mpr ⟨List.mem_of_getElem? (i := 926) rfl, rfl⟩
set_option maxHeartbeats 4000000 in
set_option maxRecDepth 100000 in
theorem tX8_peak (l : Launch) (d : Nat) {s0 : AS} {sE : AS} {rE : Int32} (hf : fX8_peak s0 = some (sE, rE)) : am_Ct l (d + 6) mX8_peak [.inr (.inr ((9, 0, 0), 0))] s0 sE (some (.inl rE)) := by
  refine am_sim l (d + 5) (code := kX8_peak) (by decide +kernel) wX8_peak qX8_peak (Nat.le_of_ble_eq_true rfl) ?_
  intro X hX
  show X 0 [(0, .inr (.inr ((9, 0, 0), 0)))] [] s0
  unfold fX8_peak at hf
  obtain ⟨v1, hcv1, hf⟩ := am_r_of hf
  refine am_blk hX 0 3 (And.intro rfl (And.intro rfl (Exists.intro s0 (Exists.intro (some (.inl v1)) (And.intro (tX8_isMarch l (d + 4) hcv1) (And.intro (fun hb => ?_) (fun hb => ?_)))))))
  · have hf := am_if hf hb
    show X 10 [(0, .inr (.inr ((9, 0, 0), 0)))] [] s0
    obtain ⟨s3, v2, hcv2, hf⟩ := am_c_of hf
    obtain ⟨v4, hcv4, hf⟩ := am_r_of hf
    obtain ⟨g5, hf⟩ := am_g_of hf
    refine am_jn hf (fun J36 => ∀ (x6 : Int32), J36 x6 = some (sE, rE) → X 36 [] [.inl x6] s3) ?_ ?_
    · intro x6 hf
      refine am_blk hX 19 1 (am_ri hf)
    · intro J36 hJ36 hf
      refine am_blk hX 5 11 (And.intro rfl (And.intro rfl (Exists.intro s3 (Exists.intro none (And.intro (tX8_tell l (d + 0) hcv2) (And.intro rfl (And.intro rfl (Exists.intro s3 (Exists.intro (some (.inl v4)) (And.intro (tX8_fullestStep l (d + 3) hcv4) (And.intro rfl (And.intro rfl (And.intro rfl (And.intro g5 (And.intro (fun hb => ?_) (fun hb => ?_))))))))))))))))
      · have hf := am_if hf hb
        show X 35 [(1, .inl v4), (0, .inr (.inr ((9, 0, 0), 0)))] [] s3
        refine am_blk hX 18 1 (?_)
        show X 36 [(1, .inl v4), (0, .inr (.inr ((9, 0, 0), 0)))] [.inl v4] s3
        exact am_wk hX [] (hJ36 v4 hf)
      · have hf := am_it hf hb
        show X 31 [(1, .inl v4), (0, .inr (.inr ((9, 0, 0), 0)))] [] s3
        refine am_blk hX 16 2 (?_)
        show X 36 [(1, .inl v4), (0, .inr (.inr ((9, 0, 0), 0)))] [.inl (-1 : Int32)] s3
        exact am_wk hX [] (hJ36 (-1 : Int32) hf)
  · have hf := am_it hf hb
    show X 7 [(0, .inr (.inr ((9, 0, 0), 0)))] [] s0
    refine am_blk hX 3 2 (am_ri hf)
def fX8_person (s0 : AS) (a1 : Int32) (a2 : Int32) : Option Int32 :=
  am_r (fX8_isPerson s0 a1) (fun (v1 : Int32) => am_let (some (-2 : Int32)) (fun J17 => if v1 = 0 then (J17) else (if a2 < 0 then (J17) else (if a2 < (5 : Int32) then (am_g (¬ (a1 < 0 ∨ 8 ≤ a1.toNatClampNeg)) (am_g (¬ (a2 < 0 ∨ 5 ≤ a2.toNatClampNeg)) (some (s0.1 (38 + a1.toNatClampNeg) a2.toNatClampNeg)))) else (J17)))))
def kX8_person : List (Nat × Instr × Nat) := [(0, .aload_n 0, 1), (1, .iload_n 1, 1), (2, .invokevirtual 137, 3), (5, .ifCond .eq 12, 3), (8, .iload_n 2, 1), (9, .ifCond .lt 8, 3), (12, .iload_n 2, 1), (13, .iconst 5, 1), (14, .if_icmp .lt 6, 3), (17, .bipush (-2), 2), (19, .ireturn, 1), (20, .aload_n 0, 1), (21, .getfield 29, 3), (24, .getfield 140, 3), (27, .iload_n 1, 1), (28, .aaload, 1), (29, .iload_n 2, 1), (30, .iaload, 1), (31, .ireturn, 1)]
theorem qX8_person : ∀ q ∈ kX8_person, decode mX8_person.2.2.1 q.1 = .ok (q.2.1, q.2.2) ∧ am_iok mX8_person.2.2.2.1 q.1 q.2.1 q.2.2 = true := by decide +kernel
set_option maxRecDepth 100000 in
theorem wX8_person : Cond.code mX8_person.2.1 mX8_person.2.2.1 mX8_person.2.2.2.1 mX8_person.2.2.2.2.1 ∈ am_T := List.mem_filter.mpr ⟨List.mem_of_getElem? (i := 684) rfl, rfl⟩
set_option maxHeartbeats 4000000 in
set_option maxRecDepth 100000 in
theorem tX8_person (l : Launch) (d : Nat) {s0 : AS} {a1 : Int32} {a2 : Int32} {rE : Int32} (hf : fX8_person s0 a1 a2 = some rE) : am_Ct l (d + 2) mX8_person [.inr (.inr ((9, 0, 0), 0)), .inl a1, .inl a2] s0 s0 (some (.inl rE)) := by
  refine am_sim l (d + 1) (code := kX8_person) (by decide +kernel) wX8_person qX8_person (Nat.le_of_ble_eq_true rfl) ?_
  intro X hX
  show X 0 [(0, .inr (.inr ((9, 0, 0), 0))), (1, .inl a1), (2, .inl a2)] [] s0
  unfold fX8_person at hf
  obtain ⟨v1, hcv1, hf⟩ := am_r_of hf
  refine am_jn hf (fun J17 => J17 = some rE → X 17 [] [] s0) ?_ ?_
  · intro hf
    refine am_blk hX 9 2 (am_rpi hf)
  · intro J17 hJ17 hf
    refine am_blk hX 0 4 (And.intro rfl (And.intro rfl (Exists.intro s0 (Exists.intro (some (.inl v1)) (And.intro (tX8_isPerson l (d + 0) hcv1) (And.intro (fun hb => ?_) (fun hb => ?_)))))))
    · have hf := am_it hf hb
      show X 17 [(0, .inr (.inr ((9, 0, 0), 0))), (1, .inl a1), (2, .inl a2)] [] s0
      exact am_wk hX [] (hJ17 hf)
    · have hf := am_if hf hb
      show X 8 [(0, .inr (.inr ((9, 0, 0), 0))), (1, .inl a1), (2, .inl a2)] [] s0
      refine am_blk hX 4 2 (And.intro (fun hb => ?_) (fun hb => ?_))
      · have hf := am_it hf hb
        show X 17 [(0, .inr (.inr ((9, 0, 0), 0))), (1, .inl a1), (2, .inl a2)] [] s0
        exact am_wk hX [] (hJ17 hf)
      · have hf := am_if hf hb
        show X 12 [(0, .inr (.inr ((9, 0, 0), 0))), (1, .inl a1), (2, .inl a2)] [] s0
        refine am_blk hX 6 3 (And.intro (fun hb => ?_) (fun hb => ?_))
        · have hf := am_it hf hb
          show X 20 [(0, .inr (.inr ((9, 0, 0), 0))), (1, .inl a1), (2, .inl a2)] [] s0
          obtain ⟨g2, hf⟩ := am_g_of hf
          obtain ⟨g3, hf⟩ := am_g_of hf
          refine am_blk hX 11 8 (And.intro rfl (And.intro rfl (And.intro g2 (And.intro rfl (And.intro g3 (am_rpi hf))))))
        · have hf := am_if hf hb
          show X 17 [(0, .inr (.inr ((9, 0, 0), 0))), (1, .inl a1), (2, .inl a2)] [] s0
          exact am_wk hX [] (hJ17 hf)
def fX8_reach_L19 (a1 : Int32) (s3 : AS) : Nat → Int32 → Int32 → Option (AS × Int32)
  | 0, _, _ => none
  | n19 + 1, x4, x5 =>
    if (s3.1 25 1) ≤ x5 then (some (s3, x4)) else (am_r (fX7_lengthOf s3 138 a1 x5) (fun (v6 : Int32) => am_let (fun (x7 : Int32) => am_let (x5 + (1 : Int32)) (fun (x8 : Int32) => fX8_reach_L19 a1 s3 n19 x7 x8)) (fun J49 => if v6 = (-1 : Int32) then (J49 x4) else (am_let (x4 ||| ((1 : Int32) <<< (x5 &&& 31))) (fun (x9 : Int32) => J49 x9)))))
def fX8_reach (s0 : AS) (a1 : Int32) : Option (AS × Int32) :=
  am_r (fX8_isPlace s0 a1) (fun (v1 : Int32) => if v1 = 0 then (some (s0, (-2 : Int32))) else (am_c (fX8_tell s0) (fun (s3 : AS) (v2 : Unit) => fX8_reach_L19 a1 s3 am_fu (0 : Int32) (0 : Int32))))
def kX8_reach : List (Nat × Instr × Nat) := [(0, .aload_n 0, 1), (1, .iload_n 1, 1), (2, .invokevirtual 162, 3), (5, .ifCond .ne 6, 3), (8, .bipush (-2), 2), (10, .ireturn, 1), (11, .aload_n 0, 1), (12, .invokevirtual 165, 3), (15, .iconst 0, 1), (16, .istore_n 2, 1), (17, .iconst 0, 1), (18, .istore_n 3, 1), (19, .iload_n 3, 1), (20, .aload_n 0, 1), (21, .getfield 29, 3), (24, .getfield 117, 3), (27, .if_icmp .ge 28, 3), (30, .aload_n 0, 1), (31, .getfield 54, 3), (34, .iload_n 1, 1), (35, .iload_n 3, 1), (36, .invokevirtual 168, 3), (39, .iconst (-1), 1), (40, .if_icmp .eq 9, 3), (43, .iload_n 2, 1), (44, .iconst 1, 1), (45, .iload_n 3, 1), (46, .ishl, 1), (47, .ior, 1), (48, .istore_n 2, 1), (49, .iinc 3 1, 3), (52, .goto (-33), 3), (55, .iload_n 2, 1), (56, .ireturn, 1)]
theorem qX8_reach : ∀ q ∈ kX8_reach, decode mX8_reach.2.2.1 q.1 = .ok (q.2.1, q.2.2) ∧ am_iok mX8_reach.2.2.2.1 q.1 q.2.1 q.2.2 = true := by decide +kernel
set_option maxRecDepth 100000 in
theorem wX8_reach : Cond.code mX8_reach.2.1 mX8_reach.2.2.1 mX8_reach.2.2.2.1 mX8_reach.2.2.2.2.1 ∈ am_T := List.mem_filter.mpr ⟨List.mem_of_getElem? (i := 824) rfl, rfl⟩
set_option maxHeartbeats 4000000 in
set_option maxRecDepth 100000 in
theorem tX8_reach (l : Launch) (d : Nat) {s0 : AS} {a1 : Int32} {sE : AS} {rE : Int32} (hf : fX8_reach s0 a1 = some (sE, rE)) : am_Ct l (d + 6) mX8_reach [.inr (.inr ((9, 0, 0), 0)), .inl a1] s0 sE (some (.inl rE)) := by
  refine am_sim l (d + 5) (code := kX8_reach) (by decide +kernel) wX8_reach qX8_reach (Nat.le_of_ble_eq_true rfl) ?_
  intro X hX
  show X 0 [(0, .inr (.inr ((9, 0, 0), 0))), (1, .inl a1)] [] s0
  unfold fX8_reach at hf
  obtain ⟨v1, hcv1, hf⟩ := am_r_of hf
  refine am_blk hX 0 4 (And.intro rfl (And.intro rfl (Exists.intro s0 (Exists.intro (some (.inl v1)) (And.intro (tX8_isPlace l (d + 4) hcv1) (And.intro (fun hb => ?_) (fun hb => ?_)))))))
  · have hf := am_if hf hb
    show X 11 [(0, .inr (.inr ((9, 0, 0), 0))), (1, .inl a1)] [] s0
    obtain ⟨s3, v2, hcv2, hf⟩ := am_c_of hf
    have hL19 : ∀ (n19 : Nat) (x4 : Int32) (x5 : Int32), fX8_reach_L19 a1 s3 n19 x4 x5 = some (sE, rE) → X 19 [(0, .inr (.inr ((9, 0, 0), 0))), (1, .inl a1), (2, .inl x4), (3, .inl x5)] [] s3 := by
      intro n19
      induction n19 with
      | zero => intro x4 x5 hf; exact am_no (show none = some _ from hf)
      | succ n19 ih19 =>
        intro x4 x5 hf
        refine am_blk hX 12 5 (And.intro rfl (And.intro rfl (And.intro (fun hb => ?_) (fun hb => ?_))))
        · have hf := am_it hf hb
          show X 55 [(0, .inr (.inr ((9, 0, 0), 0))), (1, .inl a1), (2, .inl x4), (3, .inl x5)] [] s3
          refine am_blk hX 32 2 (am_ri hf)
        · have hf := am_if hf hb
          show X 30 [(0, .inr (.inr ((9, 0, 0), 0))), (1, .inl a1), (2, .inl x4), (3, .inl x5)] [] s3
          obtain ⟨v6, hcv6, hf⟩ := am_r_of hf
          refine am_jn hf (fun J49 => ∀ (x7 : Int32), J49 x7 = some (sE, rE) → X 49 [(0, .inr (.inr ((9, 0, 0), 0))), (1, .inl a1), (2, .inl x7), (3, .inl x5)] [] s3) ?_ ?_
          · intro x7 hf
            refine am_blk hX 30 1 (am_nl (Z := fun x8 => X 52 [(3, .inl x8), (0, .inr (.inr ((9, 0, 0), 0))), (1, .inl a1), (2, .inl x7)] [] s3) hf (fun x8 hf => ?_))
            refine am_blk hX 31 1 (?_)
            show X 19 [(3, .inl x8), (0, .inr (.inr ((9, 0, 0), 0))), (1, .inl a1), (2, .inl x7)] [] s3
            exact am_wk hX [1, 2, 3, 0] (ih19 x7 x8 hf)
          · intro J49 hJ49 hf
            refine am_blk hX 17 7 (And.intro rfl (And.intro rfl (And.intro rfl (Exists.intro s3 (Exists.intro (some (.inl v6)) (And.intro (tX7_lengthOf l (d + 3) hcv6) (And.intro (fun hb => ?_) (fun hb => ?_))))))))
            · have hf := am_it hf hb
              show X 49 [(0, .inr (.inr ((9, 0, 0), 0))), (1, .inl a1), (2, .inl x4), (3, .inl x5)] [] s3
              exact am_wk hX [0, 1, 2, 3] (hJ49 x4 hf)
            · have hf := am_if hf hb
              show X 43 [(0, .inr (.inr ((9, 0, 0), 0))), (1, .inl a1), (2, .inl x4), (3, .inl x5)] [] s3
              refine am_blk hX 24 6 (am_nl (Z := fun x9 => X 49 [(2, .inl x9), (0, .inr (.inr ((9, 0, 0), 0))), (1, .inl a1), (3, .inl x5)] [] s3) hf (fun x9 hf => ?_))
              exact am_wk hX [1, 2, 0, 3] (hJ49 x9 hf)
    refine am_blk hX 6 6 (And.intro rfl (And.intro rfl (Exists.intro s3 (Exists.intro none (And.intro (tX8_tell l (d + 0) hcv2) (?_))))))
    show X 19 [(3, .inl (0 : Int32)), (2, .inl (0 : Int32)), (0, .inr (.inr ((9, 0, 0), 0))), (1, .inl a1)] [] s3
    exact am_wk hX [2, 3, 1, 0] (hL19 am_fu (0 : Int32) (0 : Int32) hf)
  · have hf := am_it hf hb
    show X 8 [(0, .inr (.inr ((9, 0, 0), 0))), (1, .inl a1)] [] s0
    refine am_blk hX 4 2 (am_ri hf)
def fX8_road (s0 : AS) (a1 : Int32) (a2 : Int32) : Option Int32 :=
  am_r (fX8_isRoad s0 a1) (fun (v1 : Int32) => am_let (some (-2 : Int32)) (fun J17 => if v1 = 0 then (J17) else (if a2 < 0 then (J17) else (if a2 < (3 : Int32) then (am_g (¬ (a1 < 0 ∨ 10 ≤ a1.toNatClampNeg)) (am_g (¬ (a2 < 0 ∨ 3 ≤ a2.toNatClampNeg)) (some (s0.1 (27 + a1.toNatClampNeg) a2.toNatClampNeg)))) else (J17)))))
def kX8_road : List (Nat × Instr × Nat) := [(0, .aload_n 0, 1), (1, .iload_n 1, 1), (2, .invokevirtual 130, 3), (5, .ifCond .eq 12, 3), (8, .iload_n 2, 1), (9, .ifCond .lt 8, 3), (12, .iload_n 2, 1), (13, .iconst 3, 1), (14, .if_icmp .lt 6, 3), (17, .bipush (-2), 2), (19, .ireturn, 1), (20, .aload_n 0, 1), (21, .getfield 29, 3), (24, .getfield 134, 3), (27, .iload_n 1, 1), (28, .aaload, 1), (29, .iload_n 2, 1), (30, .iaload, 1), (31, .ireturn, 1)]
theorem qX8_road : ∀ q ∈ kX8_road, decode mX8_road.2.2.1 q.1 = .ok (q.2.1, q.2.2) ∧ am_iok mX8_road.2.2.2.1 q.1 q.2.1 q.2.2 = true := by decide +kernel
set_option maxRecDepth 100000 in
theorem wX8_road : Cond.code mX8_road.2.1 mX8_road.2.2.1 mX8_road.2.2.2.1 mX8_road.2.2.2.2.1 ∈ am_T := List.mem_filter.mpr ⟨List.mem_of_getElem? (i := 676) rfl, rfl⟩
set_option maxHeartbeats 4000000 in
set_option maxRecDepth 100000 in
theorem tX8_road (l : Launch) (d : Nat) {s0 : AS} {a1 : Int32} {a2 : Int32} {rE : Int32} (hf : fX8_road s0 a1 a2 = some rE) : am_Ct l (d + 2) mX8_road [.inr (.inr ((9, 0, 0), 0)), .inl a1, .inl a2] s0 s0 (some (.inl rE)) := by
  refine am_sim l (d + 1) (code := kX8_road) (by decide +kernel) wX8_road qX8_road (Nat.le_of_ble_eq_true rfl) ?_
  intro X hX
  show X 0 [(0, .inr (.inr ((9, 0, 0), 0))), (1, .inl a1), (2, .inl a2)] [] s0
  unfold fX8_road at hf
  obtain ⟨v1, hcv1, hf⟩ := am_r_of hf
  refine am_jn hf (fun J17 => J17 = some rE → X 17 [] [] s0) ?_ ?_
  · intro hf
    refine am_blk hX 9 2 (am_rpi hf)
  · intro J17 hJ17 hf
    refine am_blk hX 0 4 (And.intro rfl (And.intro rfl (Exists.intro s0 (Exists.intro (some (.inl v1)) (And.intro (tX8_isRoad l (d + 0) hcv1) (And.intro (fun hb => ?_) (fun hb => ?_)))))))
    · have hf := am_it hf hb
      show X 17 [(0, .inr (.inr ((9, 0, 0), 0))), (1, .inl a1), (2, .inl a2)] [] s0
      exact am_wk hX [] (hJ17 hf)
    · have hf := am_if hf hb
      show X 8 [(0, .inr (.inr ((9, 0, 0), 0))), (1, .inl a1), (2, .inl a2)] [] s0
      refine am_blk hX 4 2 (And.intro (fun hb => ?_) (fun hb => ?_))
      · have hf := am_it hf hb
        show X 17 [(0, .inr (.inr ((9, 0, 0), 0))), (1, .inl a1), (2, .inl a2)] [] s0
        exact am_wk hX [] (hJ17 hf)
      · have hf := am_if hf hb
        show X 12 [(0, .inr (.inr ((9, 0, 0), 0))), (1, .inl a1), (2, .inl a2)] [] s0
        refine am_blk hX 6 3 (And.intro (fun hb => ?_) (fun hb => ?_))
        · have hf := am_it hf hb
          show X 20 [(0, .inr (.inr ((9, 0, 0), 0))), (1, .inl a1), (2, .inl a2)] [] s0
          obtain ⟨g2, hf⟩ := am_g_of hf
          obtain ⟨g3, hf⟩ := am_g_of hf
          refine am_blk hX 11 8 (And.intro rfl (And.intro rfl (And.intro g2 (And.intro rfl (And.intro g3 (am_rpi hf))))))
        · have hf := am_if hf hb
          show X 17 [(0, .inr (.inr ((9, 0, 0), 0))), (1, .inl a1), (2, .inl a2)] [] s0
          exact am_wk hX [] (hJ17 hf)
def fX8_row (s0 : AS) (a1 : Int32) (a2 : Int32) (a3 : Int32) : Option (AS × Int32) :=
  am_r (fX8_isSlot a1) (fun (v1 : Int32) => am_let (some (s0, (-2 : Int32))) (fun J23 => if v1 = 0 then (J23) else (if a2 < 0 then (J23) else (if (4 : Int32) ≤ a2 then (J23) else (if a3 ≤ (60 : Int32) then (if 0 ≤ a3 then (am_g (¬ (a1 < 0 ∨ 4 ≤ a1.toNatClampNeg)) (am_c (fX5_begin s0 (130 + 2 * a1.toNatClampNeg) a2 a3) (fun (s4 : AS) (v3 : Unit) => some (s4, (0 : Int32))))) else (some (s0, (-3 : Int32)))) else (J23))))))
def kX8_row : List (Nat × Instr × Nat) := [(0, .aload_n 0, 1), (1, .iload_n 1, 1), (2, .invokevirtual 312, 3), (5, .ifCond .eq 18, 3), (8, .iload_n 2, 1), (9, .ifCond .lt 14, 3), (12, .iload_n 2, 1), (13, .iconst 4, 1), (14, .if_icmp .ge 9, 3), (17, .iload_n 3, 1), (18, .bipush 60, 2), (20, .if_icmp .le 6, 3), (23, .bipush (-2), 2), (25, .ireturn, 1), (26, .iload_n 3, 1), (27, .ifCond .ge 6, 3), (30, .bipush (-3), 2), (32, .ireturn, 1), (33, .aload_n 0, 1), (34, .getfield 47, 3), (37, .iload_n 1, 1), (38, .aaload, 1), (39, .iload_n 2, 1), (40, .iload_n 3, 1), (41, .invokevirtual 449, 3), (44, .iconst 0, 1), (45, .ireturn, 1)]
theorem qX8_row : ∀ q ∈ kX8_row, decode mX8_row.2.2.1 q.1 = .ok (q.2.1, q.2.2) ∧ am_iok mX8_row.2.2.2.1 q.1 q.2.1 q.2.2 = true := by decide +kernel
set_option maxRecDepth 100000 in
theorem wX8_row : Cond.code mX8_row.2.1 mX8_row.2.2.1 mX8_row.2.2.2.1 mX8_row.2.2.2.2.1 ∈ am_T := List.mem_filter.mpr ⟨List.mem_of_getElem? (i := 1265) rfl, rfl⟩
set_option maxHeartbeats 4000000 in
set_option maxRecDepth 100000 in
theorem tX8_row (l : Launch) (d : Nat) {s0 : AS} {a1 : Int32} {a2 : Int32} {a3 : Int32} {sE : AS} {rE : Int32} (hf : fX8_row s0 a1 a2 a3 = some (sE, rE)) : am_Ct l (d + 3) mX8_row [.inr (.inr ((9, 0, 0), 0)), .inl a1, .inl a2, .inl a3] s0 sE (some (.inl rE)) := by
  refine am_sim l (d + 2) (code := kX8_row) (by decide +kernel) wX8_row qX8_row (Nat.le_of_ble_eq_true rfl) ?_
  intro X hX
  show X 0 [(0, .inr (.inr ((9, 0, 0), 0))), (1, .inl a1), (2, .inl a2), (3, .inl a3)] [] s0
  unfold fX8_row at hf
  obtain ⟨v1, hcv1, hf⟩ := am_r_of hf
  refine am_jn hf (fun J23 => J23 = some (sE, rE) → X 23 [] [] s0) ?_ ?_
  · intro hf
    refine am_blk hX 12 2 (am_ri hf)
  · intro J23 hJ23 hf
    refine am_blk hX 0 4 (And.intro rfl (And.intro rfl (Exists.intro s0 (Exists.intro (some (.inl v1)) (And.intro (tX8_isSlot l (d + 1) hcv1) (And.intro (fun hb => ?_) (fun hb => ?_)))))))
    · have hf := am_it hf hb
      show X 23 [(0, .inr (.inr ((9, 0, 0), 0))), (1, .inl a1), (2, .inl a2), (3, .inl a3)] [] s0
      exact am_wk hX [] (hJ23 hf)
    · have hf := am_if hf hb
      show X 8 [(0, .inr (.inr ((9, 0, 0), 0))), (1, .inl a1), (2, .inl a2), (3, .inl a3)] [] s0
      refine am_blk hX 4 2 (And.intro (fun hb => ?_) (fun hb => ?_))
      · have hf := am_it hf hb
        show X 23 [(0, .inr (.inr ((9, 0, 0), 0))), (1, .inl a1), (2, .inl a2), (3, .inl a3)] [] s0
        exact am_wk hX [] (hJ23 hf)
      · have hf := am_if hf hb
        show X 12 [(0, .inr (.inr ((9, 0, 0), 0))), (1, .inl a1), (2, .inl a2), (3, .inl a3)] [] s0
        refine am_blk hX 6 3 (And.intro (fun hb => ?_) (fun hb => ?_))
        · have hf := am_it hf hb
          show X 23 [(0, .inr (.inr ((9, 0, 0), 0))), (1, .inl a1), (2, .inl a2), (3, .inl a3)] [] s0
          exact am_wk hX [] (hJ23 hf)
        · have hf := am_if hf hb
          show X 17 [(0, .inr (.inr ((9, 0, 0), 0))), (1, .inl a1), (2, .inl a2), (3, .inl a3)] [] s0
          refine am_blk hX 9 3 (And.intro (fun hb => ?_) (fun hb => ?_))
          · have hf := am_it hf hb
            show X 26 [(0, .inr (.inr ((9, 0, 0), 0))), (1, .inl a1), (2, .inl a2), (3, .inl a3)] [] s0
            refine am_blk hX 14 2 (And.intro (fun hb => ?_) (fun hb => ?_))
            · have hf := am_it hf hb
              show X 33 [(0, .inr (.inr ((9, 0, 0), 0))), (1, .inl a1), (2, .inl a2), (3, .inl a3)] [] s0
              obtain ⟨g2, hf⟩ := am_g_of hf
              obtain ⟨s4, v3, hcv3, hf⟩ := am_c_of hf
              refine am_blk hX 18 9 (And.intro rfl (And.intro g2 (And.intro rfl (And.intro rfl (Exists.intro s4 (Exists.intro none (And.intro (tX5_begin l (d + 0) hcv3) (am_ri hf))))))))
            · have hf := am_if hf hb
              show X 30 [(0, .inr (.inr ((9, 0, 0), 0))), (1, .inl a1), (2, .inl a2), (3, .inl a3)] [] s0
              refine am_blk hX 16 2 (am_ri hf)
          · have hf := am_if hf hb
            show X 23 [(0, .inr (.inr ((9, 0, 0), 0))), (1, .inl a1), (2, .inl a2), (3, .inl a3)] [] s0
            exact am_wk hX [] (hJ23 hf)
def fX8_tellsPlaces_L13 (o1 : Nat) (s0 : AS) (J77 : Option Int32) : Nat → Int32 → Option Int32
  | 0, _ => none
  | n13 + 1, x2 =>
    if (s0.1 o1 2) ≤ (x2 + (1 : Int32)) then (some (1 : Int32)) else (am_g (¬ (x2 < 0 ∨ 60 ≤ x2.toNatClampNeg)) (am_let (s0.2 (o1 + 1) x2.toNatClampNeg) (fun (x4 : Int64) => am_g (¬ ((x2 + (1 : Int32)) < 0 ∨ 60 ≤ (x2 + (1 : Int32)).toNatClampNeg)) (am_let (s0.2 (o1 + 1) ((x2 + (1 : Int32)).toNatClampNeg)) (fun (x6 : Int64) => if (lg_cmp x4 (0 : Int64)) < 0 then (J77) else (if 0 < (lg_cmp x4 (60 : Int64)) then (J77) else (if (lg_cmp x6 (-1 : Int64)) < 0 then (J77) else (if (lg_cmp x6 ((s0.1 25 1).toInt64)) < 0 then (am_let (x2 + (2 : Int32)) (fun (x7 : Int32) => fX8_tellsPlaces_L13 o1 s0 J77 n13 x7)) else (J77)))))))))
def fX8_tellsPlaces (s0 : AS) (o1 : Nat) : Option Int32 :=
  am_g (¬ (2 : Int32) = 0) (if ((s0.1 o1 2) - (s0.1 o1 2) / (2 : Int32) * (2 : Int32)) = 0 then (am_let (some (0 : Int32)) (fun J77 => fX8_tellsPlaces_L13 o1 s0 J77 am_fu (0 : Int32))) else (some (0 : Int32)))
def kX8_tellsPlaces : List (Nat × Instr × Nat) := [(0, .aload_n 1, 1), (1, .getfield 315, 3), (4, .iconst 2, 1), (5, .irem, 1), (6, .ifCond .eq 5, 3), (9, .iconst 0, 1), (10, .ireturn, 1), (11, .iconst 0, 1), (12, .istore_n 2, 1), (13, .iload_n 2, 1), (14, .iconst 1, 1), (15, .iadd, 1), (16, .aload_n 1, 1), (17, .getfield 315, 3), (20, .if_icmp .ge 65, 3), (23, .aload_n 1, 1), (24, .getfield 318, 3), (27, .iload_n 2, 1), (28, .laload, 1), (29, .lstore_n 3, 1), (30, .aload_n 1, 1), (31, .getfield 318, 3), (34, .iload_n 2, 1), (35, .iconst 1, 1), (36, .iadd, 1), (37, .laload, 1), (38, .lstore 5, 2), (40, .lload_n 3, 1), (41, .lconst 0, 1), (42, .lcmp, 1), (43, .ifCond .lt 34, 3), (46, .lload_n 3, 1), (47, .ldc2_w 324, 3), (50, .lcmp, 1), (51, .ifCond .gt 26, 3), (54, .lload 5, 2), (56, .ldc2_w 322, 3), (59, .lcmp, 1), (60, .ifCond .lt 17, 3), (63, .lload 5, 2), (65, .aload_n 0, 1), (66, .getfield 29, 3), (69, .getfield 117, 3), (72, .i2l, 1), (73, .lcmp, 1), (74, .ifCond .lt 5, 3), (77, .iconst 0, 1), (78, .ireturn, 1), (79, .iinc 2 2, 3), (82, .goto (-69), 3), (85, .iconst 1, 1), (86, .ireturn, 1)]
theorem qX8_tellsPlaces : ∀ q ∈ kX8_tellsPlaces, decode mX8_tellsPlaces.2.2.1 q.1 = .ok (q.2.1, q.2.2) ∧ am_iok mX8_tellsPlaces.2.2.2.1 q.1 q.2.1 q.2.2 = true := by decide +kernel
set_option maxRecDepth 100000 in
theorem wX8_tellsPlaces : Cond.code mX8_tellsPlaces.2.1 mX8_tellsPlaces.2.2.1 mX8_tellsPlaces.2.2.2.1 mX8_tellsPlaces.2.2.2.2.1 ∈ am_T := List.mem_filter.mpr ⟨List.mem_of_getElem? (i := 1123) rfl, rfl⟩
set_option maxHeartbeats 4000000 in
set_option maxRecDepth 100000 in
theorem tX8_tellsPlaces (l : Launch) (d : Nat) {s0 : AS} {o1 : Nat} {rE : Int32} (hf : fX8_tellsPlaces s0 o1 = some rE) : am_Ct l (d + 1) mX8_tellsPlaces [.inr (.inr ((9, 0, 0), 0)), .inr (.inr ((6, 0, 0), o1))] s0 s0 (some (.inl rE)) := by
  refine am_sim l (d + 0) (code := kX8_tellsPlaces) (by decide +kernel) wX8_tellsPlaces qX8_tellsPlaces (Nat.le_of_ble_eq_true rfl) ?_
  intro X hX
  show X 0 [(0, .inr (.inr ((9, 0, 0), 0))), (1, .inr (.inr ((6, 0, 0), o1)))] [] s0
  unfold fX8_tellsPlaces at hf
  obtain ⟨g1, hf⟩ := am_g_of hf
  refine am_blk hX 0 5 (And.intro rfl (And.intro g1 (And.intro (fun hb => ?_) (fun hb => ?_))))
  · have hf := am_it hf hb
    show X 11 [(0, .inr (.inr ((9, 0, 0), 0))), (1, .inr (.inr ((6, 0, 0), o1)))] [] s0
    refine am_jn hf (fun J77 => J77 = some rE → X 77 [] [] s0) ?_ ?_
    · intro hf
      refine am_blk hX 46 2 (And.intro (Or.inl rfl) (am_rpi hf))
    · intro J77 hJ77 hf
      have hL13 : ∀ (n13 : Nat) (x2 : Int32), fX8_tellsPlaces_L13 o1 s0 J77 n13 x2 = some rE → X 13 [(0, .inr (.inr ((9, 0, 0), 0))), (1, .inr (.inr ((6, 0, 0), o1))), (2, .inl x2)] [] s0 := by
        intro n13
        induction n13 with
        | zero => intro x2 hf; exact am_no (show none = some _ from hf)
        | succ n13 ih13 =>
          intro x2 hf
          refine am_blk hX 9 6 (And.intro rfl (And.intro (fun hb => ?_) (fun hb => ?_)))
          · have hf := am_it hf hb
            show X 85 [(0, .inr (.inr ((9, 0, 0), 0))), (1, .inr (.inr ((6, 0, 0), o1))), (2, .inl x2)] [] s0
            refine am_blk hX 50 2 (And.intro (Or.inr rfl) (am_rpi hf))
          · have hf := am_if hf hb
            show X 23 [(0, .inr (.inr ((9, 0, 0), 0))), (1, .inr (.inr ((6, 0, 0), o1))), (2, .inl x2)] [] s0
            obtain ⟨g3, hf⟩ := am_g_of hf
            refine am_blk hX 15 5 (And.intro rfl (And.intro rfl (And.intro g3 (am_nl (Z := fun x4 => X 30 [(3, .inr (.inl x4)), (0, .inr (.inr ((9, 0, 0), 0))), (1, .inr (.inr ((6, 0, 0), o1))), (2, .inl x2)] [] s0) hf (fun x4 hf => ?_)))))
            obtain ⟨g5, hf⟩ := am_g_of hf
            refine am_blk hX 20 7 (And.intro rfl (And.intro rfl (And.intro g5 (am_nl (Z := fun x6 => X 40 [(5, .inr (.inl x6)), (3, .inr (.inl x4)), (0, .inr (.inr ((9, 0, 0), 0))), (1, .inr (.inr ((6, 0, 0), o1))), (2, .inl x2)] [] s0) hf (fun x6 hf => ?_)))))
            refine am_blk hX 27 4 (And.intro (fun hb => ?_) (fun hb => ?_))
            · have hf := am_it hf hb
              show X 77 [(5, .inr (.inl x6)), (3, .inr (.inl x4)), (0, .inr (.inr ((9, 0, 0), 0))), (1, .inr (.inr ((6, 0, 0), o1))), (2, .inl x2)] [] s0
              exact am_wk hX [] (hJ77 hf)
            · have hf := am_if hf hb
              show X 46 [(5, .inr (.inl x6)), (3, .inr (.inl x4)), (0, .inr (.inr ((9, 0, 0), 0))), (1, .inr (.inr ((6, 0, 0), o1))), (2, .inl x2)] [] s0
              refine am_blk hX 31 4 (And.intro (fun hb => ?_) (fun hb => ?_))
              · have hf := am_it hf hb
                show X 77 [(5, .inr (.inl x6)), (3, .inr (.inl x4)), (0, .inr (.inr ((9, 0, 0), 0))), (1, .inr (.inr ((6, 0, 0), o1))), (2, .inl x2)] [] s0
                exact am_wk hX [] (hJ77 hf)
              · have hf := am_if hf hb
                show X 54 [(5, .inr (.inl x6)), (3, .inr (.inl x4)), (0, .inr (.inr ((9, 0, 0), 0))), (1, .inr (.inr ((6, 0, 0), o1))), (2, .inl x2)] [] s0
                refine am_blk hX 35 4 (And.intro (fun hb => ?_) (fun hb => ?_))
                · have hf := am_it hf hb
                  show X 77 [(5, .inr (.inl x6)), (3, .inr (.inl x4)), (0, .inr (.inr ((9, 0, 0), 0))), (1, .inr (.inr ((6, 0, 0), o1))), (2, .inl x2)] [] s0
                  exact am_wk hX [] (hJ77 hf)
                · have hf := am_if hf hb
                  show X 63 [(5, .inr (.inl x6)), (3, .inr (.inl x4)), (0, .inr (.inr ((9, 0, 0), 0))), (1, .inr (.inr ((6, 0, 0), o1))), (2, .inl x2)] [] s0
                  refine am_blk hX 39 7 (And.intro rfl (And.intro rfl (And.intro (fun hb => ?_) (fun hb => ?_))))
                  · have hf := am_it hf hb
                    show X 79 [(5, .inr (.inl x6)), (3, .inr (.inl x4)), (0, .inr (.inr ((9, 0, 0), 0))), (1, .inr (.inr ((6, 0, 0), o1))), (2, .inl x2)] [] s0
                    refine am_blk hX 48 1 (am_nl (Z := fun x7 => X 82 [(2, .inl x7), (5, .inr (.inl x6)), (3, .inr (.inl x4)), (0, .inr (.inr ((9, 0, 0), 0))), (1, .inr (.inr ((6, 0, 0), o1)))] [] s0) hf (fun x7 hf => ?_))
                    refine am_blk hX 49 1 (?_)
                    show X 13 [(2, .inl x7), (5, .inr (.inl x6)), (3, .inr (.inl x4)), (0, .inr (.inr ((9, 0, 0), 0))), (1, .inr (.inr ((6, 0, 0), o1)))] [] s0
                    exact am_wk hX [3, 4, 0] (ih13 x7 hf)
                  · have hf := am_if hf hb
                    show X 77 [(5, .inr (.inl x6)), (3, .inr (.inl x4)), (0, .inr (.inr ((9, 0, 0), 0))), (1, .inr (.inr ((6, 0, 0), o1))), (2, .inl x2)] [] s0
                    exact am_wk hX [] (hJ77 hf)
      refine am_blk hX 7 2 (?_)
      show X 13 [(2, .inl (0 : Int32)), (0, .inr (.inr ((9, 0, 0), 0))), (1, .inr (.inr ((6, 0, 0), o1)))] [] s0
      exact am_wk hX [1, 2, 0] (hL13 am_fu (0 : Int32) hf)
  · have hf := am_if hf hb
    show X 9 [(0, .inr (.inr ((9, 0, 0), 0))), (1, .inr (.inr ((6, 0, 0), o1)))] [] s0
    refine am_blk hX 5 2 (And.intro (Or.inl rfl) (am_rpi hf))
def fX8_rulesBy_L8 (o1 : Nat) : Nat → AS → Int32 → Int32 → Option (AS × Int32)
  | 0, _, _, _ => none
  | n8 + 1, s3, x4, x5 =>
    if (4 : Int32) ≤ x5 then (some (s3, x4)) else (am_c (fX8_asItIs s3) (fun (s7 : AS) (v6 : Unit) => am_let (am_si s7 172 1 x5) (fun (s8 : AS) => am_c (fX6_go s8 198 25 172) (fun (s10 : AS) (v9 : Unit) => am_r (fX8_agreesOnPlaces s10 o1) (fun (v11 : Int32) => am_let (fun (x12 : Int32) => am_let (x5 + (1 : Int32)) (fun (x13 : Int32) => fX8_rulesBy_L8 o1 n8 s10 x12 x13)) (fun J54 => if v11 = 0 then (J54 x4) else (am_let (x4 ||| ((1 : Int32) <<< (x5 &&& 31))) (fun (x14 : Int32) => J54 x14))))))))
def fX8_rulesBy (s0 : AS) (o1 : Nat) : Option (AS × Int32) :=
  am_c (fX8_tell s0) (fun (s2 : AS) (v1 : Unit) => fX8_rulesBy_L8 o1 am_fu s2 (0 : Int32) (0 : Int32))
def kX8_rulesBy : List (Nat × Instr × Nat) := [(0, .aload_n 0, 1), (1, .invokevirtual 165, 3), (4, .iconst 0, 1), (5, .istore_n 2, 1), (6, .iconst 0, 1), (7, .istore_n 3, 1), (8, .iload_n 3, 1), (9, .iconst 4, 1), (10, .if_icmp .ge 50, 3), (13, .aload_n 0, 1), (14, .invokevirtual 195, 3), (17, .aload_n 0, 1), (18, .getfield 68, 3), (21, .iload_n 3, 1), (22, .putfield 363, 3), (25, .aload_n 0, 1), (26, .getfield 75, 3), (29, .aload_n 0, 1), (30, .getfield 29, 3), (33, .aload_n 0, 1), (34, .getfield 68, 3), (37, .invokevirtual 198, 3), (40, .aload_n 0, 1), (41, .aload_n 1, 1), (42, .invokevirtual 364, 3), (45, .ifCond .eq 9, 3), (48, .iload_n 2, 1), (49, .iconst 1, 1), (50, .iload_n 3, 1), (51, .ishl, 1), (52, .ior, 1), (53, .istore_n 2, 1), (54, .iinc 3 1, 3), (57, .goto (-49), 3), (60, .iload_n 2, 1), (61, .ireturn, 1)]
theorem qX8_rulesBy : ∀ q ∈ kX8_rulesBy, decode mX8_rulesBy.2.2.1 q.1 = .ok (q.2.1, q.2.2) ∧ am_iok mX8_rulesBy.2.2.2.1 q.1 q.2.1 q.2.2 = true := by decide +kernel
set_option maxRecDepth 100000 in
theorem wX8_rulesBy : Cond.code mX8_rulesBy.2.1 mX8_rulesBy.2.2.1 mX8_rulesBy.2.2.2.1 mX8_rulesBy.2.2.2.2.1 ∈ am_T := List.mem_filter.mpr ⟨List.mem_of_getElem? (i := 1127) rfl, rfl⟩
set_option maxHeartbeats 4000000 in
set_option maxRecDepth 100000 in
theorem tX8_rulesBy (l : Launch) (d : Nat) {s0 : AS} {o1 : Nat} {sE : AS} {rE : Int32} (hf : fX8_rulesBy s0 o1 = some (sE, rE)) : am_Ct l (d + 6) mX8_rulesBy [.inr (.inr ((9, 0, 0), 0)), .inr (.inr ((6, 0, 0), o1))] s0 sE (some (.inl rE)) := by
  refine am_sim l (d + 5) (code := kX8_rulesBy) (by decide +kernel) wX8_rulesBy qX8_rulesBy (Nat.le_of_ble_eq_true rfl) ?_
  intro X hX
  show X 0 [(0, .inr (.inr ((9, 0, 0), 0))), (1, .inr (.inr ((6, 0, 0), o1)))] [] s0
  unfold fX8_rulesBy at hf
  obtain ⟨s2, v1, hcv1, hf⟩ := am_c_of hf
  have hL8 : ∀ (n8 : Nat) (s3 : AS) (x4 : Int32) (x5 : Int32), fX8_rulesBy_L8 o1 n8 s3 x4 x5 = some (sE, rE) → X 8 [(0, .inr (.inr ((9, 0, 0), 0))), (1, .inr (.inr ((6, 0, 0), o1))), (2, .inl x4), (3, .inl x5)] [] s3 := by
    intro n8
    induction n8 with
    | zero => intro s3 x4 x5 hf; exact am_no (show none = some _ from hf)
    | succ n8 ih8 =>
      intro s3 x4 x5 hf
      refine am_blk hX 6 3 (And.intro (fun hb => ?_) (fun hb => ?_))
      · have hf := am_it hf hb
        show X 60 [(0, .inr (.inr ((9, 0, 0), 0))), (1, .inr (.inr ((6, 0, 0), o1))), (2, .inl x4), (3, .inl x5)] [] s3
        refine am_blk hX 34 2 (am_ri hf)
      · have hf := am_if hf hb
        show X 13 [(0, .inr (.inr ((9, 0, 0), 0))), (1, .inr (.inr ((6, 0, 0), o1))), (2, .inl x4), (3, .inl x5)] [] s3
        obtain ⟨s7, v6, hcv6, hf⟩ := am_c_of hf
        refine am_blk hX 9 6 (And.intro rfl (And.intro rfl (Exists.intro s7 (Exists.intro none (And.intro (tX8_asItIs l (d + 3) hcv6) (And.intro rfl (And.intro rfl (am_nl (Z := fun s8 => X 25 [(0, .inr (.inr ((9, 0, 0), 0))), (1, .inr (.inr ((6, 0, 0), o1))), (2, .inl x4), (3, .inl x5)] [] s8) hf (fun s8 hf => ?_)))))))))
        obtain ⟨s10, v9, hcv9, hf⟩ := am_c_of hf
        obtain ⟨v11, hcv11, hf⟩ := am_r_of hf
        refine am_jn hf (fun J54 => ∀ (x12 : Int32), J54 x12 = some (sE, rE) → X 54 [(0, .inr (.inr ((9, 0, 0), 0))), (1, .inr (.inr ((6, 0, 0), o1))), (2, .inl x12), (3, .inl x5)] [] s10) ?_ ?_
        · intro x12 hf
          refine am_blk hX 32 1 (am_nl (Z := fun x13 => X 57 [(3, .inl x13), (0, .inr (.inr ((9, 0, 0), 0))), (1, .inr (.inr ((6, 0, 0), o1))), (2, .inl x12)] [] s10) hf (fun x13 hf => ?_))
          refine am_blk hX 33 1 (?_)
          show X 8 [(3, .inl x13), (0, .inr (.inr ((9, 0, 0), 0))), (1, .inr (.inr ((6, 0, 0), o1))), (2, .inl x12)] [] s10
          exact am_wk hX [1, 2, 3, 0] (ih8 s10 x12 x13 hf)
        · intro J54 hJ54 hf
          refine am_blk hX 15 11 (And.intro rfl (And.intro rfl (And.intro rfl (And.intro rfl (And.intro rfl (Exists.intro s10 (Exists.intro none (And.intro (tX6_go l (d + 1) hcv9) (And.intro rfl (And.intro rfl (Exists.intro s10 (Exists.intro (some (.inl v11)) (And.intro (tX8_agreesOnPlaces l (d + 2) hcv11) (And.intro (fun hb => ?_) (fun hb => ?_)))))))))))))))
          · have hf := am_it hf hb
            show X 54 [(0, .inr (.inr ((9, 0, 0), 0))), (1, .inr (.inr ((6, 0, 0), o1))), (2, .inl x4), (3, .inl x5)] [] s10
            exact am_wk hX [0, 1, 2, 3] (hJ54 x4 hf)
          · have hf := am_if hf hb
            show X 48 [(0, .inr (.inr ((9, 0, 0), 0))), (1, .inr (.inr ((6, 0, 0), o1))), (2, .inl x4), (3, .inl x5)] [] s10
            refine am_blk hX 26 6 (am_nl (Z := fun x14 => X 54 [(2, .inl x14), (0, .inr (.inr ((9, 0, 0), 0))), (1, .inr (.inr ((6, 0, 0), o1))), (3, .inl x5)] [] s10) hf (fun x14 hf => ?_))
            exact am_wk hX [1, 2, 0, 3] (hJ54 x14 hf)
  refine am_blk hX 0 6 (And.intro rfl (And.intro rfl (Exists.intro s2 (Exists.intro none (And.intro (tX8_tell l (d + 0) hcv1) (?_))))))
  show X 8 [(3, .inl (0 : Int32)), (2, .inl (0 : Int32)), (0, .inr (.inr ((9, 0, 0), 0))), (1, .inr (.inr ((6, 0, 0), o1)))] [] s2
  exact am_wk hX [2, 3, 1, 0] (hL8 am_fu s2 (0 : Int32) (0 : Int32) hf)
def fX8_rules (s0 : AS) (a1 : Int32) : Option (AS × Int32) :=
  am_r (fX8_lacksRow s0 a1) (fun (v1 : Int32) => if v1 = 0 then (am_g (¬ (a1 < 0 ∨ 4 ≤ a1.toNatClampNeg)) (am_r (fX8_tellsPlaces s0 (130 + 2 * a1.toNatClampNeg)) (fun (v3 : Int32) => am_let (fun (s4 : AS) (x5 : Int32) => some (s4, x5)) (fun J40 => if v3 = 0 then (J40 s0 (-2 : Int32)) else (am_g (¬ (a1 < 0 ∨ 4 ≤ a1.toNatClampNeg)) (am_c (fX8_rulesBy s0 (130 + 2 * a1.toNatClampNeg)) (fun (s8 : AS) (v7 : Int32) => J40 s8 v7))))))) else (some (s0, v1)))
def kX8_rules : List (Nat × Instr × Nat) := [(0, .aload_n 0, 1), (1, .iload_n 1, 1), (2, .invokevirtual 326, 3), (5, .istore_n 2, 1), (6, .iload_n 2, 1), (7, .ifCond .eq 5, 3), (10, .iload_n 2, 1), (11, .ireturn, 1), (12, .aload_n 0, 1), (13, .aload_n 0, 1), (14, .getfield 47, 3), (17, .iload_n 1, 1), (18, .aaload, 1), (19, .invokevirtual 357, 3), (22, .ifCond .eq 16, 3), (25, .aload_n 0, 1), (26, .aload_n 0, 1), (27, .getfield 47, 3), (30, .iload_n 1, 1), (31, .aaload, 1), (32, .invokevirtual 360, 3), (35, .goto 5, 3), (38, .bipush (-2), 2), (40, .ireturn, 1)]
theorem qX8_rules : ∀ q ∈ kX8_rules, decode mX8_rules.2.2.1 q.1 = .ok (q.2.1, q.2.2) ∧ am_iok mX8_rules.2.2.2.1 q.1 q.2.1 q.2.2 = true := by decide +kernel
set_option maxRecDepth 100000 in
theorem wX8_rules : Cond.code mX8_rules.2.1 mX8_rules.2.2.1 mX8_rules.2.2.2.1 mX8_rules.2.2.2.2.1 ∈ am_T := List.mem_filter.mpr ⟨List.mem_of_getElem? (i := 1119) rfl, rfl⟩
set_option maxHeartbeats 4000000 in
set_option maxRecDepth 100000 in
theorem tX8_rules (l : Launch) (d : Nat) {s0 : AS} {a1 : Int32} {sE : AS} {rE : Int32} (hf : fX8_rules s0 a1 = some (sE, rE)) : am_Ct l (d + 7) mX8_rules [.inr (.inr ((9, 0, 0), 0)), .inl a1] s0 sE (some (.inl rE)) := by
  refine am_sim l (d + 6) (code := kX8_rules) (by decide +kernel) wX8_rules qX8_rules (Nat.le_of_ble_eq_true rfl) ?_
  intro X hX
  show X 0 [(0, .inr (.inr ((9, 0, 0), 0))), (1, .inl a1)] [] s0
  unfold fX8_rules at hf
  obtain ⟨v1, hcv1, hf⟩ := am_r_of hf
  refine am_blk hX 0 6 (And.intro rfl (And.intro rfl (Exists.intro s0 (Exists.intro (some (.inl v1)) (And.intro (tX8_lacksRow l (d + 4) hcv1) (And.intro (fun hb => ?_) (fun hb => ?_)))))))
  · have hf := am_it hf hb
    show X 12 [(2, .inl v1), (0, .inr (.inr ((9, 0, 0), 0))), (1, .inl a1)] [] s0
    obtain ⟨g2, hf⟩ := am_g_of hf
    obtain ⟨v3, hcv3, hf⟩ := am_r_of hf
    refine am_jn hf (fun J40 => ∀ (s4 : AS) (x5 : Int32), J40 s4 x5 = some (sE, rE) → X 40 [] [.inl x5] s4) ?_ ?_
    · intro s4 x5 hf
      refine am_blk hX 23 1 (am_ri hf)
    · intro J40 hJ40 hf
      refine am_blk hX 8 7 (And.intro rfl (And.intro g2 (And.intro rfl (And.intro rfl (Exists.intro s0 (Exists.intro (some (.inl v3)) (And.intro (tX8_tellsPlaces l (d + 5) hcv3) (And.intro (fun hb => ?_) (fun hb => ?_)))))))))
      · have hf := am_it hf hb
        show X 38 [(2, .inl v1), (0, .inr (.inr ((9, 0, 0), 0))), (1, .inl a1)] [] s0
        refine am_blk hX 22 1 (?_)
        show X 40 [(2, .inl v1), (0, .inr (.inr ((9, 0, 0), 0))), (1, .inl a1)] [.inl (-2 : Int32)] s0
        exact am_wk hX [] (hJ40 s0 (-2 : Int32) hf)
      · have hf := am_if hf hb
        show X 25 [(2, .inl v1), (0, .inr (.inr ((9, 0, 0), 0))), (1, .inl a1)] [] s0
        obtain ⟨g6, hf⟩ := am_g_of hf
        obtain ⟨s8, v7, hcv7, hf⟩ := am_c_of hf
        refine am_blk hX 15 7 (And.intro rfl (And.intro g6 (And.intro rfl (And.intro rfl (Exists.intro s8 (Exists.intro (some (.inl v7)) (And.intro (tX8_rulesBy l (d + 0) hcv7) (?_))))))))
        show X 40 [(2, .inl v1), (0, .inr (.inr ((9, 0, 0), 0))), (1, .inl a1)] [.inl v7] s8
        exact am_wk hX [] (hJ40 s8 v7 hf)
  · have hf := am_if hf hb
    show X 10 [(2, .inl v1), (0, .inr (.inr ((9, 0, 0), 0))), (1, .inl a1)] [] s0
    refine am_blk hX 6 2 (am_ri hf)
def fX8_shamHelps (s0 : AS) (a1 : Int32) (a2 : Int32) (a3 : Int32) : Option (AS × Int32) :=
  am_g (¬ (a1 < 0 ∨ 8 ≤ a1.toNatClampNeg)) (am_g (¬ ((1 : Int32) < 0 ∨ 5 ≤ (1 : Int32).toNatClampNeg)) (am_let (s0.1 (38 + a1.toNatClampNeg) ((1 : Int32).toNatClampNeg)) (fun (x3 : Int32) => am_c (fX8_asItIs s0) (fun (s5 : AS) (v4 : Unit) => am_c (fX1_votesFalsely s5 172 a1 a2 a3) (fun (s7 : AS) (v6 : Unit) => am_c (fX6_go s7 198 25 172) (fun (s9 : AS) (v8 : Unit) => am_r (fX6_firstAt s9 198 x3 (a2 + (1 : Int32))) (fun (v10 : Int32) => am_r (fX6_firstAt s9 163 x3 (a2 + (1 : Int32))) (fun (v11 : Int32) => am_let (fun (x12 : Int32) => am_g (x12 = 0 ∨ x12 = 1) (some (s9, x12))) (fun J94 => am_let (J94 (0 : Int32)) (fun J93 => if v10 = (-1 : Int32) then (J93) else (am_let (J94 (1 : Int32)) (fun J89 => if v11 = (-1 : Int32) then (J89) else (if v11 ≤ v10 then (J93) else (J89))))))))))))))
def kX8_shamHelps : List (Nat × Instr × Nat) := [(0, .aload_n 0, 1), (1, .getfield 29, 3), (4, .getfield 140, 3), (7, .iload_n 1, 1), (8, .aaload, 1), (9, .iconst 1, 1), (10, .iaload, 1), (11, .istore 4, 2), (13, .aload_n 0, 1), (14, .invokevirtual 195, 3), (17, .aload_n 0, 1), (18, .getfield 68, 3), (21, .iload_n 1, 1), (22, .iload_n 2, 1), (23, .iload_n 3, 1), (24, .invokevirtual 377, 3), (27, .aload_n 0, 1), (28, .getfield 75, 3), (31, .aload_n 0, 1), (32, .getfield 29, 3), (35, .aload_n 0, 1), (36, .getfield 68, 3), (39, .invokevirtual 198, 3), (42, .aload_n 0, 1), (43, .getfield 75, 3), (46, .iload 4, 2), (48, .iload_n 2, 1), (49, .iconst 1, 1), (50, .iadd, 1), (51, .invokevirtual 240, 3), (54, .istore 5, 2), (56, .aload_n 0, 1), (57, .getfield 61, 3), (60, .iload 4, 2), (62, .iload_n 2, 1), (63, .iconst 1, 1), (64, .iadd, 1), (65, .invokevirtual 240, 3), (68, .istore 6, 2), (70, .iload 5, 2), (72, .iconst (-1), 1), (73, .if_icmp .eq 20, 3), (76, .iload 6, 2), (78, .iconst (-1), 1), (79, .if_icmp .eq 10, 3), (82, .iload 5, 2), (84, .iload 6, 2), (86, .if_icmp .ge 7, 3), (89, .iconst 1, 1), (90, .goto 4, 3), (93, .iconst 0, 1), (94, .ireturn, 1)]
theorem qX8_shamHelps : ∀ q ∈ kX8_shamHelps, decode mX8_shamHelps.2.2.1 q.1 = .ok (q.2.1, q.2.2) ∧ am_iok mX8_shamHelps.2.2.2.1 q.1 q.2.1 q.2.2 = true := by decide +kernel
set_option maxRecDepth 100000 in
theorem wX8_shamHelps : Cond.code mX8_shamHelps.2.1 mX8_shamHelps.2.2.1 mX8_shamHelps.2.2.2.1 mX8_shamHelps.2.2.2.2.1 ∈ am_T := List.mem_filter.mpr ⟨List.mem_of_getElem? (i := 1144) rfl, rfl⟩
set_option maxHeartbeats 4000000 in
set_option maxRecDepth 100000 in
theorem tX8_shamHelps (l : Launch) (d : Nat) {s0 : AS} {a1 : Int32} {a2 : Int32} {a3 : Int32} {sE : AS} {rE : Int32} (hf : fX8_shamHelps s0 a1 a2 a3 = some (sE, rE)) : am_Ct l (d + 5) mX8_shamHelps [.inr (.inr ((9, 0, 0), 0)), .inl a1, .inl a2, .inl a3] s0 sE (some (.inl rE)) := by
  refine am_sim l (d + 4) (code := kX8_shamHelps) (by decide +kernel) wX8_shamHelps qX8_shamHelps (Nat.le_of_ble_eq_true rfl) ?_
  intro X hX
  show X 0 [(0, .inr (.inr ((9, 0, 0), 0))), (1, .inl a1), (2, .inl a2), (3, .inl a3)] [] s0
  unfold fX8_shamHelps at hf
  obtain ⟨g1, hf⟩ := am_g_of hf
  obtain ⟨g2, hf⟩ := am_g_of hf
  refine am_blk hX 0 8 (And.intro rfl (And.intro rfl (And.intro g1 (And.intro rfl (And.intro g2 (am_nl (Z := fun x3 => X 13 [(4, .inl x3), (0, .inr (.inr ((9, 0, 0), 0))), (1, .inl a1), (2, .inl a2), (3, .inl a3)] [] s0) hf (fun x3 hf => ?_)))))))
  obtain ⟨s5, v4, hcv4, hf⟩ := am_c_of hf
  obtain ⟨s7, v6, hcv6, hf⟩ := am_c_of hf
  obtain ⟨s9, v8, hcv8, hf⟩ := am_c_of hf
  obtain ⟨v10, hcv10, hf⟩ := am_r_of hf
  obtain ⟨v11, hcv11, hf⟩ := am_r_of hf
  refine am_jn hf (fun J94 => ∀ (x12 : Int32), J94 x12 = some (sE, rE) → X 94 [] [.inl x12] s9) ?_ ?_
  · intro x12 hf
    obtain ⟨g13, hf⟩ := am_g_of hf
    refine am_blk hX 51 1 (And.intro g13 (am_ri hf))
  · intro J94 hJ94 hf
    refine am_jn hf (fun J93 => J93 = some (sE, rE) → X 93 [] [] s9) ?_ ?_
    · intro hf
      refine am_blk hX 50 1 (?_)
      show X 94 [] [.inl (0 : Int32)] s9
      exact am_wk hX [] (hJ94 (0 : Int32) hf)
    · intro J93 hJ93 hf
      refine am_blk hX 8 34 (And.intro rfl (And.intro rfl (Exists.intro s5 (Exists.intro none (And.intro (tX8_asItIs l (d + 2) hcv4) (And.intro rfl (And.intro rfl (And.intro rfl (Exists.intro s7 (Exists.intro none (And.intro (tX1_votesFalsely l (d + 3) hcv6) (And.intro rfl (And.intro rfl (And.intro rfl (And.intro rfl (And.intro rfl (Exists.intro s9 (Exists.intro none (And.intro (tX6_go l (d + 0) hcv8) (And.intro rfl (And.intro rfl (And.intro rfl (Exists.intro s9 (Exists.intro (some (.inl v10)) (And.intro (tX6_firstAt l (d + 3) hcv10) (And.intro rfl (And.intro rfl (And.intro rfl (Exists.intro s9 (Exists.intro (some (.inl v11)) (And.intro (tX6_firstAt l (d + 3) hcv11) (And.intro (fun hb => ?_) (fun hb => ?_)))))))))))))))))))))))))))))))))
      · have hf := am_it hf hb
        show X 93 [(6, .inl v11), (5, .inl v10), (4, .inl x3), (0, .inr (.inr ((9, 0, 0), 0))), (1, .inl a1), (2, .inl a2), (3, .inl a3)] [] s9
        exact am_wk hX [] (hJ93 hf)
      · have hf := am_if hf hb
        show X 76 [(6, .inl v11), (5, .inl v10), (4, .inl x3), (0, .inr (.inr ((9, 0, 0), 0))), (1, .inl a1), (2, .inl a2), (3, .inl a3)] [] s9
        refine am_jn hf (fun J89 => J89 = some (sE, rE) → X 89 [] [] s9) ?_ ?_
        · intro hf
          refine am_blk hX 48 2 (?_)
          show X 94 [] [.inl (1 : Int32)] s9
          exact am_wk hX [] (hJ94 (1 : Int32) hf)
        · intro J89 hJ89 hf
          refine am_blk hX 42 3 (And.intro (fun hb => ?_) (fun hb => ?_))
          · have hf := am_it hf hb
            show X 89 [(6, .inl v11), (5, .inl v10), (4, .inl x3), (0, .inr (.inr ((9, 0, 0), 0))), (1, .inl a1), (2, .inl a2), (3, .inl a3)] [] s9
            exact am_wk hX [] (hJ89 hf)
          · have hf := am_if hf hb
            show X 82 [(6, .inl v11), (5, .inl v10), (4, .inl x3), (0, .inr (.inr ((9, 0, 0), 0))), (1, .inl a1), (2, .inl a2), (3, .inl a3)] [] s9
            refine am_blk hX 45 3 (And.intro (fun hb => ?_) (fun hb => ?_))
            · have hf := am_it hf hb
              show X 93 [(6, .inl v11), (5, .inl v10), (4, .inl x3), (0, .inr (.inr ((9, 0, 0), 0))), (1, .inl a1), (2, .inl a2), (3, .inl a3)] [] s9
              exact am_wk hX [] (hJ93 hf)
            · have hf := am_if hf hb
              show X 89 [(6, .inl v11), (5, .inl v10), (4, .inl x3), (0, .inr (.inr ((9, 0, 0), 0))), (1, .inl a1), (2, .inl a2), (3, .inl a3)] [] s9
              exact am_wk hX [] (hJ89 hf)
def fX8_shamsOf_L40 (a1 : Int32) (a2 : Int32) (x2 : Int32) (v4 : Int32) : Nat → AS → Int32 → Int32 → Option (AS × Int32)
  | 0, _, _, _ => none
  | n40 + 1, s5, x6, x7 =>
    if (s5.1 25 1) ≤ x7 then (some (s5, x6)) else (am_let (fun (s8 : AS) (x9 : Int32) => am_let (x7 + (1 : Int32)) (fun (x10 : Int32) => fX8_shamsOf_L40 a1 a2 x2 v4 n40 s8 x9 x10)) (fun J92 => if x7 = v4 then (J92 s5 x6) else (am_r (fX7_areBeside s5 138 x2 x7) (fun (v11 : Int32) => if v11 = 0 then (J92 s5 x6) else (am_c (fX8_shamHelps s5 a1 a2 x7) (fun (s13 : AS) (v12 : Int32) => if v12 = 0 then (J92 s13 x6) else (am_let (x6 ||| ((1 : Int32) <<< (x7 &&& 31))) (fun (x14 : Int32) => J92 s13 x14))))))))
def fX8_shamsOf (s0 : AS) (a1 : Int32) (a2 : Int32) : Option (AS × Int32) :=
  am_g (¬ (a2 < 0 ∨ 61 ≤ a2.toNatClampNeg)) (am_let (s0.1 164 a2.toNatClampNeg) (fun (x2 : Int32) => am_let (some (s0, (0 : Int32))) (fun J24 => if x2 = (-1 : Int32) then (J24) else (am_r (fX8_isIn s0 a1 a2) (fun (v3 : Int32) => if v3 = 0 then (J24) else (am_r (fX8_voteOf s0 a1 a2) (fun (v4 : Int32) => fX8_shamsOf_L40 a1 a2 x2 v4 am_fu s0 (0 : Int32) (0 : Int32))))))))
def kX8_shamsOf : List (Nat × Instr × Nat) := [(0, .aload_n 0, 1), (1, .getfield 61, 3), (4, .getfield 212, 3), (7, .iload_n 2, 1), (8, .iaload, 1), (9, .istore_n 3, 1), (10, .iload_n 3, 1), (11, .iconst (-1), 1), (12, .if_icmp .eq 12, 3), (15, .aload_n 0, 1), (16, .iload_n 1, 1), (17, .iload_n 2, 1), (18, .invokevirtual 219, 3), (21, .ifCond .ne 5, 3), (24, .iconst 0, 1), (25, .ireturn, 1), (26, .aload_n 0, 1), (27, .iload_n 1, 1), (28, .iload_n 2, 1), (29, .invokevirtual 222, 3), (32, .istore 4, 2), (34, .iconst 0, 1), (35, .istore 5, 2), (37, .iconst 0, 1), (38, .istore 6, 2), (40, .iload 6, 2), (42, .aload_n 0, 1), (43, .getfield 29, 3), (46, .getfield 117, 3), (49, .if_icmp .ge 49, 3), (52, .iload 6, 2), (54, .iload 4, 2), (56, .if_icmp .eq 36, 3), (59, .aload_n 0, 1), (60, .getfield 54, 3), (63, .iload_n 3, 1), (64, .iload 6, 2), (66, .invokevirtual 370, 3), (69, .ifCond .eq 23, 3), (72, .aload_n 0, 1), (73, .iload_n 1, 1), (74, .iload_n 2, 1), (75, .iload 6, 2), (77, .invokevirtual 373, 3), (80, .ifCond .eq 12, 3), (83, .iload 5, 2), (85, .iconst 1, 1), (86, .iload 6, 2), (88, .ishl, 1), (89, .ior, 1), (90, .istore 5, 2), (92, .iinc 6 1, 3), (95, .goto (-55), 3), (98, .iload 5, 2), (100, .ireturn, 1)]
theorem qX8_shamsOf : ∀ q ∈ kX8_shamsOf, decode mX8_shamsOf.2.2.1 q.1 = .ok (q.2.1, q.2.2) ∧ am_iok mX8_shamsOf.2.2.2.1 q.1 q.2.1 q.2.2 = true := by decide +kernel
set_option maxRecDepth 100000 in
theorem wX8_shamsOf : Cond.code mX8_shamsOf.2.1 mX8_shamsOf.2.2.1 mX8_shamsOf.2.2.2.1 mX8_shamsOf.2.2.2.2.1 ∈ am_T := List.mem_filter.mpr ⟨List.mem_of_getElem? (i := 1139) rfl, rfl⟩
set_option maxHeartbeats 4000000 in
set_option maxRecDepth 100000 in
theorem tX8_shamsOf (l : Launch) (d : Nat) {s0 : AS} {a1 : Int32} {a2 : Int32} {sE : AS} {rE : Int32} (hf : fX8_shamsOf s0 a1 a2 = some (sE, rE)) : am_Ct l (d + 6) mX8_shamsOf [.inr (.inr ((9, 0, 0), 0)), .inl a1, .inl a2] s0 sE (some (.inl rE)) := by
  refine am_sim l (d + 5) (code := kX8_shamsOf) (by decide +kernel) wX8_shamsOf qX8_shamsOf (Nat.le_of_ble_eq_true rfl) ?_
  intro X hX
  show X 0 [(0, .inr (.inr ((9, 0, 0), 0))), (1, .inl a1), (2, .inl a2)] [] s0
  unfold fX8_shamsOf at hf
  obtain ⟨g1, hf⟩ := am_g_of hf
  refine am_blk hX 0 6 (And.intro rfl (And.intro rfl (And.intro rfl (And.intro g1 (am_nl (Z := fun x2 => X 10 [(3, .inl x2), (0, .inr (.inr ((9, 0, 0), 0))), (1, .inl a1), (2, .inl a2)] [] s0) hf (fun x2 hf => ?_))))))
  refine am_jn hf (fun J24 => J24 = some (sE, rE) → X 24 [] [] s0) ?_ ?_
  · intro hf
    refine am_blk hX 14 2 (am_ri hf)
  · intro J24 hJ24 hf
    refine am_blk hX 6 3 (And.intro (fun hb => ?_) (fun hb => ?_))
    · have hf := am_it hf hb
      show X 24 [(3, .inl x2), (0, .inr (.inr ((9, 0, 0), 0))), (1, .inl a1), (2, .inl a2)] [] s0
      exact am_wk hX [] (hJ24 hf)
    · have hf := am_if hf hb
      show X 15 [(3, .inl x2), (0, .inr (.inr ((9, 0, 0), 0))), (1, .inl a1), (2, .inl a2)] [] s0
      obtain ⟨v3, hcv3, hf⟩ := am_r_of hf
      refine am_blk hX 9 5 (And.intro rfl (And.intro rfl (Exists.intro s0 (Exists.intro (some (.inl v3)) (And.intro (tX8_isIn l (d + 3) hcv3) (And.intro (fun hb => ?_) (fun hb => ?_)))))))
      · have hf := am_if hf hb
        show X 26 [(3, .inl x2), (0, .inr (.inr ((9, 0, 0), 0))), (1, .inl a1), (2, .inl a2)] [] s0
        obtain ⟨v4, hcv4, hf⟩ := am_r_of hf
        have hL40 : ∀ (n40 : Nat) (s5 : AS) (x6 : Int32) (x7 : Int32), fX8_shamsOf_L40 a1 a2 x2 v4 n40 s5 x6 x7 = some (sE, rE) → X 40 [(0, .inr (.inr ((9, 0, 0), 0))), (1, .inl a1), (2, .inl a2), (3, .inl x2), (4, .inl v4), (5, .inl x6), (6, .inl x7)] [] s5 := by
          intro n40
          induction n40 with
          | zero => intro s5 x6 x7 hf; exact am_no (show none = some _ from hf)
          | succ n40 ih40 =>
            intro s5 x6 x7 hf
            refine am_blk hX 25 5 (And.intro rfl (And.intro rfl (And.intro (fun hb => ?_) (fun hb => ?_))))
            · have hf := am_it hf hb
              show X 98 [(0, .inr (.inr ((9, 0, 0), 0))), (1, .inl a1), (2, .inl a2), (3, .inl x2), (4, .inl v4), (5, .inl x6), (6, .inl x7)] [] s5
              refine am_blk hX 53 2 (am_ri hf)
            · have hf := am_if hf hb
              show X 52 [(0, .inr (.inr ((9, 0, 0), 0))), (1, .inl a1), (2, .inl a2), (3, .inl x2), (4, .inl v4), (5, .inl x6), (6, .inl x7)] [] s5
              refine am_jn hf (fun J92 => ∀ (s8 : AS) (x9 : Int32), J92 s8 x9 = some (sE, rE) → X 92 [(0, .inr (.inr ((9, 0, 0), 0))), (1, .inl a1), (2, .inl a2), (3, .inl x2), (4, .inl v4), (5, .inl x9), (6, .inl x7)] [] s8) ?_ ?_
              · intro s8 x9 hf
                refine am_blk hX 51 1 (am_nl (Z := fun x10 => X 95 [(6, .inl x10), (0, .inr (.inr ((9, 0, 0), 0))), (1, .inl a1), (2, .inl a2), (3, .inl x2), (4, .inl v4), (5, .inl x9)] [] s8) hf (fun x10 hf => ?_))
                refine am_blk hX 52 1 (?_)
                show X 40 [(6, .inl x10), (0, .inr (.inr ((9, 0, 0), 0))), (1, .inl a1), (2, .inl a2), (3, .inl x2), (4, .inl v4), (5, .inl x9)] [] s8
                exact am_wk hX [1, 2, 3, 4, 5, 6, 0] (ih40 s8 x9 x10 hf)
              · intro J92 hJ92 hf
                refine am_blk hX 30 3 (And.intro (fun hb => ?_) (fun hb => ?_))
                · have hf := am_it hf hb
                  show X 92 [(0, .inr (.inr ((9, 0, 0), 0))), (1, .inl a1), (2, .inl a2), (3, .inl x2), (4, .inl v4), (5, .inl x6), (6, .inl x7)] [] s5
                  exact am_wk hX [0, 1, 2, 3, 4, 5, 6] (hJ92 s5 x6 hf)
                · have hf := am_if hf hb
                  show X 59 [(0, .inr (.inr ((9, 0, 0), 0))), (1, .inl a1), (2, .inl a2), (3, .inl x2), (4, .inl v4), (5, .inl x6), (6, .inl x7)] [] s5
                  obtain ⟨v11, hcv11, hf⟩ := am_r_of hf
                  refine am_blk hX 33 6 (And.intro rfl (And.intro rfl (And.intro rfl (Exists.intro s5 (Exists.intro (some (.inl v11)) (And.intro (tX7_areBeside l (d + 3) hcv11) (And.intro (fun hb => ?_) (fun hb => ?_))))))))
                  · have hf := am_it hf hb
                    show X 92 [(0, .inr (.inr ((9, 0, 0), 0))), (1, .inl a1), (2, .inl a2), (3, .inl x2), (4, .inl v4), (5, .inl x6), (6, .inl x7)] [] s5
                    exact am_wk hX [0, 1, 2, 3, 4, 5, 6] (hJ92 s5 x6 hf)
                  · have hf := am_if hf hb
                    show X 72 [(0, .inr (.inr ((9, 0, 0), 0))), (1, .inl a1), (2, .inl a2), (3, .inl x2), (4, .inl v4), (5, .inl x6), (6, .inl x7)] [] s5
                    obtain ⟨s13, v12, hcv12, hf⟩ := am_c_of hf
                    refine am_blk hX 39 6 (And.intro rfl (And.intro rfl (Exists.intro s13 (Exists.intro (some (.inl v12)) (And.intro (tX8_shamHelps l (d + 0) hcv12) (And.intro (fun hb => ?_) (fun hb => ?_)))))))
                    · have hf := am_it hf hb
                      show X 92 [(0, .inr (.inr ((9, 0, 0), 0))), (1, .inl a1), (2, .inl a2), (3, .inl x2), (4, .inl v4), (5, .inl x6), (6, .inl x7)] [] s13
                      exact am_wk hX [0, 1, 2, 3, 4, 5, 6] (hJ92 s13 x6 hf)
                    · have hf := am_if hf hb
                      show X 83 [(0, .inr (.inr ((9, 0, 0), 0))), (1, .inl a1), (2, .inl a2), (3, .inl x2), (4, .inl v4), (5, .inl x6), (6, .inl x7)] [] s13
                      refine am_blk hX 45 6 (am_nl (Z := fun x14 => X 92 [(5, .inl x14), (0, .inr (.inr ((9, 0, 0), 0))), (1, .inl a1), (2, .inl a2), (3, .inl x2), (4, .inl v4), (6, .inl x7)] [] s13) hf (fun x14 hf => ?_))
                      exact am_wk hX [1, 2, 3, 4, 5, 0, 6] (hJ92 s13 x14 hf)
        refine am_blk hX 16 9 (And.intro rfl (And.intro rfl (Exists.intro s0 (Exists.intro (some (.inl v4)) (And.intro (tX8_voteOf l (d + 2) hcv4) (?_))))))
        show X 40 [(6, .inl (0 : Int32)), (5, .inl (0 : Int32)), (4, .inl v4), (3, .inl x2), (0, .inr (.inr ((9, 0, 0), 0))), (1, .inl a1), (2, .inl a2)] [] s0
        exact am_wk hX [4, 5, 6, 3, 2, 1, 0] (hL40 am_fu s0 (0 : Int32) (0 : Int32) hf)
      · have hf := am_it hf hb
        show X 24 [(3, .inl x2), (0, .inr (.inr ((9, 0, 0), 0))), (1, .inl a1), (2, .inl a2)] [] s0
        exact am_wk hX [] (hJ24 hf)
def fX8_shammers_L19 (a1 : Int32) : Nat → AS → Int32 → Int32 → Option (AS × Int32)
  | 0, _, _, _ => none
  | n19 + 1, s4, x5, x6 =>
    if (s4.1 25 6) ≤ x6 then (some (s4, x5)) else (am_c (fX8_shamsOf s4 x6 a1) (fun (s8 : AS) (v7 : Int32) => am_let (fun (x9 : Int32) => am_let (x6 + (1 : Int32)) (fun (x10 : Int32) => fX8_shammers_L19 a1 n19 s8 x9 x10)) (fun J45 => if v7 = 0 then (J45 x5) else (am_let (x5 ||| ((1 : Int32) <<< (x6 &&& 31))) (fun (x11 : Int32) => J45 x11)))))
def fX8_shammers (s0 : AS) (a1 : Int32) : Option (AS × Int32) :=
  am_r (fX8_isStep s0 a1) (fun (v1 : Int32) => if v1 = 0 then (some (s0, (-2 : Int32))) else (am_c (fX8_tell s0) (fun (s3 : AS) (v2 : Unit) => fX8_shammers_L19 a1 am_fu s3 (0 : Int32) (0 : Int32))))
def kX8_shammers : List (Nat × Instr × Nat) := [(0, .aload_n 0, 1), (1, .iload_n 1, 1), (2, .invokevirtual 209, 3), (5, .ifCond .ne 6, 3), (8, .bipush (-2), 2), (10, .ireturn, 1), (11, .aload_n 0, 1), (12, .invokevirtual 165, 3), (15, .iconst 0, 1), (16, .istore_n 2, 1), (17, .iconst 0, 1), (18, .istore_n 3, 1), (19, .iload_n 3, 1), (20, .aload_n 0, 1), (21, .getfield 29, 3), (24, .getfield 123, 3), (27, .if_icmp .ge 24, 3), (30, .aload_n 0, 1), (31, .iload_n 3, 1), (32, .iload_n 1, 1), (33, .invokevirtual 367, 3), (36, .ifCond .eq 9, 3), (39, .iload_n 2, 1), (40, .iconst 1, 1), (41, .iload_n 3, 1), (42, .ishl, 1), (43, .ior, 1), (44, .istore_n 2, 1), (45, .iinc 3 1, 3), (48, .goto (-29), 3), (51, .iload_n 2, 1), (52, .ireturn, 1)]
theorem qX8_shammers : ∀ q ∈ kX8_shammers, decode mX8_shammers.2.2.1 q.1 = .ok (q.2.1, q.2.2) ∧ am_iok mX8_shammers.2.2.2.1 q.1 q.2.1 q.2.2 = true := by decide +kernel
set_option maxRecDepth 100000 in
theorem wX8_shammers : Cond.code mX8_shammers.2.1 mX8_shammers.2.2.1 mX8_shammers.2.2.2.1 mX8_shammers.2.2.2.2.1 ∈ am_T := List.mem_filter.mpr ⟨List.mem_of_getElem? (i := 1152) rfl, rfl⟩
set_option maxHeartbeats 4000000 in
set_option maxRecDepth 100000 in
theorem tX8_shammers (l : Launch) (d : Nat) {s0 : AS} {a1 : Int32} {sE : AS} {rE : Int32} (hf : fX8_shammers s0 a1 = some (sE, rE)) : am_Ct l (d + 7) mX8_shammers [.inr (.inr ((9, 0, 0), 0)), .inl a1] s0 sE (some (.inl rE)) := by
  refine am_sim l (d + 6) (code := kX8_shammers) (by decide +kernel) wX8_shammers qX8_shammers (Nat.le_of_ble_eq_true rfl) ?_
  intro X hX
  show X 0 [(0, .inr (.inr ((9, 0, 0), 0))), (1, .inl a1)] [] s0
  unfold fX8_shammers at hf
  obtain ⟨v1, hcv1, hf⟩ := am_r_of hf
  refine am_blk hX 0 4 (And.intro rfl (And.intro rfl (Exists.intro s0 (Exists.intro (some (.inl v1)) (And.intro (tX8_isStep l (d + 4) hcv1) (And.intro (fun hb => ?_) (fun hb => ?_)))))))
  · have hf := am_if hf hb
    show X 11 [(0, .inr (.inr ((9, 0, 0), 0))), (1, .inl a1)] [] s0
    obtain ⟨s3, v2, hcv2, hf⟩ := am_c_of hf
    have hL19 : ∀ (n19 : Nat) (s4 : AS) (x5 : Int32) (x6 : Int32), fX8_shammers_L19 a1 n19 s4 x5 x6 = some (sE, rE) → X 19 [(0, .inr (.inr ((9, 0, 0), 0))), (1, .inl a1), (2, .inl x5), (3, .inl x6)] [] s4 := by
      intro n19
      induction n19 with
      | zero => intro s4 x5 x6 hf; exact am_no (show none = some _ from hf)
      | succ n19 ih19 =>
        intro s4 x5 x6 hf
        refine am_blk hX 12 5 (And.intro rfl (And.intro rfl (And.intro (fun hb => ?_) (fun hb => ?_))))
        · have hf := am_it hf hb
          show X 51 [(0, .inr (.inr ((9, 0, 0), 0))), (1, .inl a1), (2, .inl x5), (3, .inl x6)] [] s4
          refine am_blk hX 30 2 (am_ri hf)
        · have hf := am_if hf hb
          show X 30 [(0, .inr (.inr ((9, 0, 0), 0))), (1, .inl a1), (2, .inl x5), (3, .inl x6)] [] s4
          obtain ⟨s8, v7, hcv7, hf⟩ := am_c_of hf
          refine am_jn hf (fun J45 => ∀ (x9 : Int32), J45 x9 = some (sE, rE) → X 45 [(0, .inr (.inr ((9, 0, 0), 0))), (1, .inl a1), (2, .inl x9), (3, .inl x6)] [] s8) ?_ ?_
          · intro x9 hf
            refine am_blk hX 28 1 (am_nl (Z := fun x10 => X 48 [(3, .inl x10), (0, .inr (.inr ((9, 0, 0), 0))), (1, .inl a1), (2, .inl x9)] [] s8) hf (fun x10 hf => ?_))
            refine am_blk hX 29 1 (?_)
            show X 19 [(3, .inl x10), (0, .inr (.inr ((9, 0, 0), 0))), (1, .inl a1), (2, .inl x9)] [] s8
            exact am_wk hX [1, 2, 3, 0] (ih19 s8 x9 x10 hf)
          · intro J45 hJ45 hf
            refine am_blk hX 17 5 (And.intro rfl (And.intro rfl (Exists.intro s8 (Exists.intro (some (.inl v7)) (And.intro (tX8_shamsOf l (d + 0) hcv7) (And.intro (fun hb => ?_) (fun hb => ?_)))))))
            · have hf := am_it hf hb
              show X 45 [(0, .inr (.inr ((9, 0, 0), 0))), (1, .inl a1), (2, .inl x5), (3, .inl x6)] [] s8
              exact am_wk hX [0, 1, 2, 3] (hJ45 x5 hf)
            · have hf := am_if hf hb
              show X 39 [(0, .inr (.inr ((9, 0, 0), 0))), (1, .inl a1), (2, .inl x5), (3, .inl x6)] [] s8
              refine am_blk hX 22 6 (am_nl (Z := fun x11 => X 45 [(2, .inl x11), (0, .inr (.inr ((9, 0, 0), 0))), (1, .inl a1), (3, .inl x6)] [] s8) hf (fun x11 hf => ?_))
              exact am_wk hX [1, 2, 0, 3] (hJ45 x11 hf)
    refine am_blk hX 6 6 (And.intro rfl (And.intro rfl (Exists.intro s3 (Exists.intro none (And.intro (tX8_tell l (d + 1) hcv2) (?_))))))
    show X 19 [(3, .inl (0 : Int32)), (2, .inl (0 : Int32)), (0, .inr (.inr ((9, 0, 0), 0))), (1, .inl a1)] [] s3
    exact am_wk hX [2, 3, 1, 0] (hL19 am_fu s3 (0 : Int32) (0 : Int32) hf)
  · have hf := am_it hf hb
    show X 8 [(0, .inr (.inr ((9, 0, 0), 0))), (1, .inl a1)] [] s0
    refine am_blk hX 4 2 (am_ri hf)
def fX8_shams (s0 : AS) (a1 : Int32) (a2 : Int32) : Option (AS × Int32) :=
  am_r (fX8_isPerson s0 a1) (fun (v1 : Int32) => am_let (some (s0, (-2 : Int32))) (fun J16 => if v1 = 0 then (J16) else (am_r (fX8_isStep s0 a2) (fun (v2 : Int32) => if v2 = 0 then (J16) else (am_c (fX8_tell s0) (fun (s4 : AS) (v3 : Unit) => am_c (fX8_shamsOf s4 a1 a2) (fun (s6 : AS) (v5 : Int32) => some (s6, v5))))))))
def kX8_shams : List (Nat × Instr × Nat) := [(0, .aload_n 0, 1), (1, .iload_n 1, 1), (2, .invokevirtual 137, 3), (5, .ifCond .eq 11, 3), (8, .aload_n 0, 1), (9, .iload_n 2, 1), (10, .invokevirtual 209, 3), (13, .ifCond .ne 6, 3), (16, .bipush (-2), 2), (18, .ireturn, 1), (19, .aload_n 0, 1), (20, .invokevirtual 165, 3), (23, .aload_n 0, 1), (24, .iload_n 1, 1), (25, .iload_n 2, 1), (26, .invokevirtual 367, 3), (29, .ireturn, 1)]
theorem qX8_shams : ∀ q ∈ kX8_shams, decode mX8_shams.2.2.1 q.1 = .ok (q.2.1, q.2.2) ∧ am_iok mX8_shams.2.2.2.1 q.1 q.2.1 q.2.2 = true := by decide +kernel
set_option maxRecDepth 100000 in
theorem wX8_shams : Cond.code mX8_shams.2.1 mX8_shams.2.2.1 mX8_shams.2.2.2.1 mX8_shams.2.2.2.2.1 ∈ am_T := List.mem_filter.mpr ⟨List.mem_of_getElem? (i := 1135) rfl, rfl⟩
set_option maxHeartbeats 4000000 in
set_option maxRecDepth 100000 in
theorem tX8_shams (l : Launch) (d : Nat) {s0 : AS} {a1 : Int32} {a2 : Int32} {sE : AS} {rE : Int32} (hf : fX8_shams s0 a1 a2 = some (sE, rE)) : am_Ct l (d + 7) mX8_shams [.inr (.inr ((9, 0, 0), 0)), .inl a1, .inl a2] s0 sE (some (.inl rE)) := by
  refine am_sim l (d + 6) (code := kX8_shams) (by decide +kernel) wX8_shams qX8_shams (Nat.le_of_ble_eq_true rfl) ?_
  intro X hX
  show X 0 [(0, .inr (.inr ((9, 0, 0), 0))), (1, .inl a1), (2, .inl a2)] [] s0
  unfold fX8_shams at hf
  obtain ⟨v1, hcv1, hf⟩ := am_r_of hf
  refine am_jn hf (fun J16 => J16 = some (sE, rE) → X 16 [] [] s0) ?_ ?_
  · intro hf
    refine am_blk hX 8 2 (am_ri hf)
  · intro J16 hJ16 hf
    refine am_blk hX 0 4 (And.intro rfl (And.intro rfl (Exists.intro s0 (Exists.intro (some (.inl v1)) (And.intro (tX8_isPerson l (d + 5) hcv1) (And.intro (fun hb => ?_) (fun hb => ?_)))))))
    · have hf := am_it hf hb
      show X 16 [(0, .inr (.inr ((9, 0, 0), 0))), (1, .inl a1), (2, .inl a2)] [] s0
      exact am_wk hX [] (hJ16 hf)
    · have hf := am_if hf hb
      show X 8 [(0, .inr (.inr ((9, 0, 0), 0))), (1, .inl a1), (2, .inl a2)] [] s0
      obtain ⟨v2, hcv2, hf⟩ := am_r_of hf
      refine am_blk hX 4 4 (And.intro rfl (And.intro rfl (Exists.intro s0 (Exists.intro (some (.inl v2)) (And.intro (tX8_isStep l (d + 4) hcv2) (And.intro (fun hb => ?_) (fun hb => ?_)))))))
      · have hf := am_if hf hb
        show X 19 [(0, .inr (.inr ((9, 0, 0), 0))), (1, .inl a1), (2, .inl a2)] [] s0
        obtain ⟨s4, v3, hcv3, hf⟩ := am_c_of hf
        obtain ⟨s6, v5, hcv5, hf⟩ := am_c_of hf
        refine am_blk hX 10 7 (And.intro rfl (And.intro rfl (Exists.intro s4 (Exists.intro none (And.intro (tX8_tell l (d + 1) hcv3) (And.intro rfl (And.intro rfl (Exists.intro s6 (Exists.intro (some (.inl v5)) (And.intro (tX8_shamsOf l (d + 0) hcv5) (am_ri hf)))))))))))
      · have hf := am_it hf hb
        show X 16 [(0, .inr (.inr ((9, 0, 0), 0))), (1, .inl a1), (2, .inl a2)] [] s0
        exact am_wk hX [] (hJ16 hf)
def fX8_shuttingSet_L28 (a1 : Int32) (x2 : Int32) (J66 : AS → Option (AS × Int32)) : Nat → AS → Int32 → Option (AS × Int32)
  | 0, _, _ => none
  | n28 + 1, s5, x6 =>
    if ((1 : Int32) <<< ((s5.1 25 5) &&& 31)) ≤ x6 then (J66 s5) else (am_r (fJ6_bitCount_0f7a4 x6) (fun (v7 : Int32) => am_let (fun (s8 : AS) => am_let (x6 + (1 : Int32)) (fun (x9 : Int32) => fX8_shuttingSet_L28 a1 x2 J66 n28 s8 x9)) (fun J60 => if v7 = x2 then (am_c (fX8_comesBarred s5 a1 x6) (fun (s11 : AS) (v10 : Int32) => if v10 = 0 then (some (s11, x6)) else (J60 s11))) else (J60 s5))))
def fX8_shuttingSet_L15 (a1 : Int32) : Nat → AS → Int32 → Option (AS × Int32)
  | 0, _, _ => none
  | n15 + 1, s1, x2 =>
    if (s1.1 25 5) < x2 then (some (s1, (-1 : Int32))) else (am_let (fun (s3 : AS) => am_let (x2 + (1 : Int32)) (fun (x4 : Int32) => fX8_shuttingSet_L15 a1 n15 s3 x4)) (fun J66 => fX8_shuttingSet_L28 a1 x2 J66 am_fu s1 (0 : Int32)))
def fX8_shuttingSet (s0 : AS) (a1 : Int32) : Option (AS × Int32) :=
  if a1 = (s0.1 25 2) then (some (s0, (-1 : Int32))) else (fX8_shuttingSet_L15 a1 am_fu s0 (0 : Int32))
def kX8_shuttingSet : List (Nat × Instr × Nat) := [(0, .iload_n 1, 1), (1, .aload_n 0, 1), (2, .getfield 29, 3), (5, .getfield 143, 3), (8, .if_icmp .ne 5, 3), (11, .iconst (-1), 1), (12, .ireturn, 1), (13, .iconst 0, 1), (14, .istore_n 2, 1), (15, .iload_n 2, 1), (16, .aload_n 0, 1), (17, .getfield 29, 3), (20, .getfield 120, 3), (23, .if_icmp .gt 49, 3), (26, .iconst 0, 1), (27, .istore_n 3, 1), (28, .iload_n 3, 1), (29, .iconst 1, 1), (30, .aload_n 0, 1), (31, .getfield 29, 3), (34, .getfield 120, 3), (37, .ishl, 1), (38, .if_icmp .ge 28, 3), (41, .iload_n 3, 1), (42, .invokestatic 252, 3), (45, .iload_n 2, 1), (46, .if_icmp .ne 14, 3), (49, .aload_n 0, 1), (50, .iload_n 1, 1), (51, .iload_n 3, 1), (52, .invokevirtual 309, 3), (55, .ifCond .ne 5, 3), (58, .iload_n 3, 1), (59, .ireturn, 1), (60, .iinc 3 1, 3), (63, .goto (-35), 3), (66, .iinc 2 1, 3), (69, .goto (-54), 3), (72, .iconst (-1), 1), (73, .ireturn, 1)]
theorem qX8_shuttingSet : ∀ q ∈ kX8_shuttingSet, decode mX8_shuttingSet.2.2.1 q.1 = .ok (q.2.1, q.2.2) ∧ am_iok mX8_shuttingSet.2.2.2.1 q.1 q.2.1 q.2.2 = true := by decide +kernel
set_option maxRecDepth 100000 in
theorem wX8_shuttingSet : Cond.code mX8_shuttingSet.2.1 mX8_shuttingSet.2.2.1 mX8_shuttingSet.2.2.2.1 mX8_shuttingSet.2.2.2.2.1 ∈ am_T := List.mem_filter.mpr ⟨List.mem_of_getElem? (i := 1064) rfl, rfl⟩
set_option maxHeartbeats 4000000 in
set_option maxRecDepth 100000 in
theorem tX8_shuttingSet (l : Launch) (d : Nat) {s0 : AS} {a1 : Int32} {sE : AS} {rE : Int32} (hf : fX8_shuttingSet s0 a1 = some (sE, rE)) : am_Ct l (d + 6) mX8_shuttingSet [.inr (.inr ((9, 0, 0), 0)), .inl a1] s0 sE (some (.inl rE)) := by
  refine am_sim l (d + 5) (code := kX8_shuttingSet) (by decide +kernel) wX8_shuttingSet qX8_shuttingSet (Nat.le_of_ble_eq_true rfl) ?_
  intro X hX
  show X 0 [(0, .inr (.inr ((9, 0, 0), 0))), (1, .inl a1)] [] s0
  unfold fX8_shuttingSet at hf
  refine am_blk hX 0 5 (And.intro rfl (And.intro rfl (And.intro (fun hb => ?_) (fun hb => ?_))))
  · have hf := am_if hf hb
    show X 13 [(0, .inr (.inr ((9, 0, 0), 0))), (1, .inl a1)] [] s0
    have hL15 : ∀ (n15 : Nat) (s1 : AS) (x2 : Int32), fX8_shuttingSet_L15 a1 n15 s1 x2 = some (sE, rE) → X 15 [(0, .inr (.inr ((9, 0, 0), 0))), (1, .inl a1), (2, .inl x2)] [] s1 := by
      intro n15
      induction n15 with
      | zero => intro s1 x2 hf; exact am_no (show none = some _ from hf)
      | succ n15 ih15 =>
        intro s1 x2 hf
        refine am_blk hX 9 5 (And.intro rfl (And.intro rfl (And.intro (fun hb => ?_) (fun hb => ?_))))
        · have hf := am_it hf hb
          show X 72 [(0, .inr (.inr ((9, 0, 0), 0))), (1, .inl a1), (2, .inl x2)] [] s1
          refine am_blk hX 38 2 (am_ri hf)
        · have hf := am_if hf hb
          show X 26 [(0, .inr (.inr ((9, 0, 0), 0))), (1, .inl a1), (2, .inl x2)] [] s1
          refine am_jn hf (fun J66 => ∀ (s3 : AS), J66 s3 = some (sE, rE) → X 66 [(0, .inr (.inr ((9, 0, 0), 0))), (1, .inl a1), (2, .inl x2)] [] s3) ?_ ?_
          · intro s3 hf
            refine am_blk hX 36 1 (am_nl (Z := fun x4 => X 69 [(2, .inl x4), (0, .inr (.inr ((9, 0, 0), 0))), (1, .inl a1)] [] s3) hf (fun x4 hf => ?_))
            refine am_blk hX 37 1 (?_)
            show X 15 [(2, .inl x4), (0, .inr (.inr ((9, 0, 0), 0))), (1, .inl a1)] [] s3
            exact am_wk hX [1, 2, 0] (ih15 s3 x4 hf)
          · intro J66 hJ66 hf
            have hL28 : ∀ (n28 : Nat) (s5 : AS) (x6 : Int32), fX8_shuttingSet_L28 a1 x2 J66 n28 s5 x6 = some (sE, rE) → X 28 [(0, .inr (.inr ((9, 0, 0), 0))), (1, .inl a1), (2, .inl x2), (3, .inl x6)] [] s5 := by
              intro n28
              induction n28 with
              | zero => intro s5 x6 hf; exact am_no (show none = some _ from hf)
              | succ n28 ih28 =>
                intro s5 x6 hf
                refine am_blk hX 16 7 (And.intro rfl (And.intro rfl (And.intro (fun hb => ?_) (fun hb => ?_))))
                · have hf := am_it hf hb
                  show X 66 [(0, .inr (.inr ((9, 0, 0), 0))), (1, .inl a1), (2, .inl x2), (3, .inl x6)] [] s5
                  exact am_wk hX [0, 1, 2] (hJ66 s5 hf)
                · have hf := am_if hf hb
                  show X 41 [(0, .inr (.inr ((9, 0, 0), 0))), (1, .inl a1), (2, .inl x2), (3, .inl x6)] [] s5
                  obtain ⟨v7, hcv7, hf⟩ := am_r_of hf
                  refine am_jn hf (fun J60 => ∀ (s8 : AS), J60 s8 = some (sE, rE) → X 60 [(0, .inr (.inr ((9, 0, 0), 0))), (1, .inl a1), (2, .inl x2), (3, .inl x6)] [] s8) ?_ ?_
                  · intro s8 hf
                    refine am_blk hX 34 1 (am_nl (Z := fun x9 => X 63 [(3, .inl x9), (0, .inr (.inr ((9, 0, 0), 0))), (1, .inl a1), (2, .inl x2)] [] s8) hf (fun x9 hf => ?_))
                    refine am_blk hX 35 1 (?_)
                    show X 28 [(3, .inl x9), (0, .inr (.inr ((9, 0, 0), 0))), (1, .inl a1), (2, .inl x2)] [] s8
                    exact am_wk hX [1, 2, 3, 0] (ih28 s8 x9 hf)
                  · intro J60 hJ60 hf
                    refine am_blk hX 23 4 (And.intro rfl (Exists.intro s5 (Exists.intro (some (.inl v7)) (And.intro (tJ6_bitCount_0f7a4 l (d + 4) hcv7) (And.intro (fun hb => ?_) (fun hb => ?_))))))
                    · have hf := am_if hf hb
                      show X 60 [(0, .inr (.inr ((9, 0, 0), 0))), (1, .inl a1), (2, .inl x2), (3, .inl x6)] [] s5
                      exact am_wk hX [0, 1, 2, 3] (hJ60 s5 hf)
                    · have hf := am_it hf hb
                      show X 49 [(0, .inr (.inr ((9, 0, 0), 0))), (1, .inl a1), (2, .inl x2), (3, .inl x6)] [] s5
                      obtain ⟨s11, v10, hcv10, hf⟩ := am_c_of hf
                      refine am_blk hX 27 5 (And.intro rfl (And.intro rfl (Exists.intro s11 (Exists.intro (some (.inl v10)) (And.intro (tX8_comesBarred l (d + 0) hcv10) (And.intro (fun hb => ?_) (fun hb => ?_)))))))
                      · have hf := am_if hf hb
                        show X 60 [(0, .inr (.inr ((9, 0, 0), 0))), (1, .inl a1), (2, .inl x2), (3, .inl x6)] [] s11
                        exact am_wk hX [0, 1, 2, 3] (hJ60 s11 hf)
                      · have hf := am_it hf hb
                        show X 58 [(0, .inr (.inr ((9, 0, 0), 0))), (1, .inl a1), (2, .inl x2), (3, .inl x6)] [] s11
                        refine am_blk hX 32 2 (am_ri hf)
            refine am_blk hX 14 2 (?_)
            show X 28 [(3, .inl (0 : Int32)), (0, .inr (.inr ((9, 0, 0), 0))), (1, .inl a1), (2, .inl x2)] [] s1
            exact am_wk hX [1, 2, 3, 0] (hL28 am_fu s1 (0 : Int32) hf)
    refine am_blk hX 7 2 (?_)
    show X 15 [(2, .inl (0 : Int32)), (0, .inr (.inr ((9, 0, 0), 0))), (1, .inl a1)] [] s0
    exact am_wk hX [1, 2, 0] (hL15 am_fu s0 (0 : Int32) hf)
  · have hf := am_it hf hb
    show X 11 [(0, .inr (.inr ((9, 0, 0), 0))), (1, .inl a1)] [] s0
    refine am_blk hX 5 2 (am_ri hf)
def fX8_shut (s0 : AS) (a1 : Int32) : Option (AS × Int32) :=
  am_r (fX8_isPlace s0 a1) (fun (v1 : Int32) => if v1 = 0 then (some (s0, (-2 : Int32))) else (am_c (fX8_shuttingSet s0 a1) (fun (s3 : AS) (v2 : Int32) => am_let (fun (x4 : Int32) => some (s3, x4)) (fun J30 => if v2 = (-1 : Int32) then (J30 (-1 : Int32)) else (am_r (fJ6_bitCount_0f7a4 v2) (fun (v5 : Int32) => J30 v5))))))
def kX8_shut : List (Nat × Instr × Nat) := [(0, .aload_n 0, 1), (1, .iload_n 1, 1), (2, .invokevirtual 162, 3), (5, .ifCond .ne 6, 3), (8, .bipush (-2), 2), (10, .ireturn, 1), (11, .aload_n 0, 1), (12, .iload_n 1, 1), (13, .invokevirtual 306, 3), (16, .istore_n 2, 1), (17, .iload_n 2, 1), (18, .iconst (-1), 1), (19, .if_icmp .ne 7, 3), (22, .iconst (-1), 1), (23, .goto 7, 3), (26, .iload_n 2, 1), (27, .invokestatic 252, 3), (30, .ireturn, 1)]
theorem qX8_shut : ∀ q ∈ kX8_shut, decode mX8_shut.2.2.1 q.1 = .ok (q.2.1, q.2.2) ∧ am_iok mX8_shut.2.2.2.1 q.1 q.2.1 q.2.2 = true := by decide +kernel
set_option maxRecDepth 100000 in
theorem wX8_shut : Cond.code mX8_shut.2.1 mX8_shut.2.2.1 mX8_shut.2.2.2.1 mX8_shut.2.2.2.2.1 ∈ am_T := List.mem_filter.mpr ⟨List.mem_of_getElem? (i := 1060) rfl, rfl⟩
set_option maxHeartbeats 4000000 in
set_option maxRecDepth 100000 in
theorem tX8_shut (l : Launch) (d : Nat) {s0 : AS} {a1 : Int32} {sE : AS} {rE : Int32} (hf : fX8_shut s0 a1 = some (sE, rE)) : am_Ct l (d + 7) mX8_shut [.inr (.inr ((9, 0, 0), 0)), .inl a1] s0 sE (some (.inl rE)) := by
  refine am_sim l (d + 6) (code := kX8_shut) (by decide +kernel) wX8_shut qX8_shut (Nat.le_of_ble_eq_true rfl) ?_
  intro X hX
  show X 0 [(0, .inr (.inr ((9, 0, 0), 0))), (1, .inl a1)] [] s0
  unfold fX8_shut at hf
  obtain ⟨v1, hcv1, hf⟩ := am_r_of hf
  refine am_blk hX 0 4 (And.intro rfl (And.intro rfl (Exists.intro s0 (Exists.intro (some (.inl v1)) (And.intro (tX8_isPlace l (d + 5) hcv1) (And.intro (fun hb => ?_) (fun hb => ?_)))))))
  · have hf := am_if hf hb
    show X 11 [(0, .inr (.inr ((9, 0, 0), 0))), (1, .inl a1)] [] s0
    obtain ⟨s3, v2, hcv2, hf⟩ := am_c_of hf
    refine am_jn hf (fun J30 => ∀ (x4 : Int32), J30 x4 = some (sE, rE) → X 30 [] [.inl x4] s3) ?_ ?_
    · intro x4 hf
      refine am_blk hX 17 1 (am_ri hf)
    · intro J30 hJ30 hf
      refine am_blk hX 6 7 (And.intro rfl (And.intro rfl (Exists.intro s3 (Exists.intro (some (.inl v2)) (And.intro (tX8_shuttingSet l (d + 0) hcv2) (And.intro (fun hb => ?_) (fun hb => ?_)))))))
      · have hf := am_if hf hb
        show X 26 [(2, .inl v2), (0, .inr (.inr ((9, 0, 0), 0))), (1, .inl a1)] [] s3
        obtain ⟨v5, hcv5, hf⟩ := am_r_of hf
        refine am_blk hX 15 2 (And.intro rfl (Exists.intro s3 (Exists.intro (some (.inl v5)) (And.intro (tJ6_bitCount_0f7a4 l (d + 5) hcv5) (?_)))))
        show X 30 [(2, .inl v2), (0, .inr (.inr ((9, 0, 0), 0))), (1, .inl a1)] [.inl v5] s3
        exact am_wk hX [] (hJ30 v5 hf)
      · have hf := am_it hf hb
        show X 22 [(2, .inl v2), (0, .inr (.inr ((9, 0, 0), 0))), (1, .inl a1)] [] s3
        refine am_blk hX 13 2 (?_)
        show X 30 [(2, .inl v2), (0, .inr (.inr ((9, 0, 0), 0))), (1, .inl a1)] [.inl (-1 : Int32)] s3
        exact am_wk hX [] (hJ30 (-1 : Int32) hf)
  · have hf := am_it hf hb
    show X 8 [(0, .inr (.inr ((9, 0, 0), 0))), (1, .inl a1)] [] s0
    refine am_blk hX 4 2 (am_ri hf)
def fX8_shuts (s0 : AS) (a1 : Int32) : Option (AS × Int32) :=
  am_r (fX8_isPlace s0 a1) (fun (v1 : Int32) => am_let (fun (s2 : AS) (x3 : Int32) => some (s2, x3)) (fun J18 => if v1 = 0 then (J18 s0 (-2 : Int32)) else (am_c (fX8_shuttingSet s0 a1) (fun (s5 : AS) (v4 : Int32) => J18 s5 v4))))
def kX8_shuts : List (Nat × Instr × Nat) := [(0, .aload_n 0, 1), (1, .iload_n 1, 1), (2, .invokevirtual 162, 3), (5, .ifCond .eq 11, 3), (8, .aload_n 0, 1), (9, .iload_n 1, 1), (10, .invokevirtual 306, 3), (13, .goto 5, 3), (16, .bipush (-2), 2), (18, .ireturn, 1)]
theorem qX8_shuts : ∀ q ∈ kX8_shuts, decode mX8_shuts.2.2.1 q.1 = .ok (q.2.1, q.2.2) ∧ am_iok mX8_shuts.2.2.2.1 q.1 q.2.1 q.2.2 = true := by decide +kernel
set_option maxRecDepth 100000 in
theorem wX8_shuts : Cond.code mX8_shuts.2.1 mX8_shuts.2.2.1 mX8_shuts.2.2.2.1 mX8_shuts.2.2.2.2.1 ∈ am_T := List.mem_filter.mpr ⟨List.mem_of_getElem? (i := 1072) rfl, rfl⟩
set_option maxHeartbeats 4000000 in
set_option maxRecDepth 100000 in
theorem tX8_shuts (l : Launch) (d : Nat) {s0 : AS} {a1 : Int32} {sE : AS} {rE : Int32} (hf : fX8_shuts s0 a1 = some (sE, rE)) : am_Ct l (d + 7) mX8_shuts [.inr (.inr ((9, 0, 0), 0)), .inl a1] s0 sE (some (.inl rE)) := by
  refine am_sim l (d + 6) (code := kX8_shuts) (by decide +kernel) wX8_shuts qX8_shuts (Nat.le_of_ble_eq_true rfl) ?_
  intro X hX
  show X 0 [(0, .inr (.inr ((9, 0, 0), 0))), (1, .inl a1)] [] s0
  unfold fX8_shuts at hf
  obtain ⟨v1, hcv1, hf⟩ := am_r_of hf
  refine am_jn hf (fun J18 => ∀ (s2 : AS) (x3 : Int32), J18 s2 x3 = some (sE, rE) → X 18 [] [.inl x3] s2) ?_ ?_
  · intro s2 x3 hf
    refine am_blk hX 9 1 (am_ri hf)
  · intro J18 hJ18 hf
    refine am_blk hX 0 4 (And.intro rfl (And.intro rfl (Exists.intro s0 (Exists.intro (some (.inl v1)) (And.intro (tX8_isPlace l (d + 5) hcv1) (And.intro (fun hb => ?_) (fun hb => ?_)))))))
    · have hf := am_it hf hb
      show X 16 [(0, .inr (.inr ((9, 0, 0), 0))), (1, .inl a1)] [] s0
      refine am_blk hX 8 1 (?_)
      show X 18 [(0, .inr (.inr ((9, 0, 0), 0))), (1, .inl a1)] [.inl (-2 : Int32)] s0
      exact am_wk hX [] (hJ18 s0 (-2 : Int32) hf)
    · have hf := am_if hf hb
      show X 8 [(0, .inr (.inr ((9, 0, 0), 0))), (1, .inl a1)] [] s0
      obtain ⟨s5, v4, hcv4, hf⟩ := am_c_of hf
      refine am_blk hX 4 4 (And.intro rfl (And.intro rfl (Exists.intro s5 (Exists.intro (some (.inl v4)) (And.intro (tX8_shuttingSet l (d + 0) hcv4) (?_))))))
      show X 18 [(0, .inr (.inr ((9, 0, 0), 0))), (1, .inl a1)] [.inl v4] s5
      exact am_wk hX [] (hJ18 s5 v4 hf)
def fX8_soonest (s0 : AS) : Option (AS × Int32) :=
  am_r (fX8_isMarch s0) (fun (v1 : Int32) => if v1 = 0 then (some (s0, (-2 : Int32))) else (am_c (fX8_endingSet s0) (fun (s3 : AS) (v2 : Int32) => am_let (fun (s4 : AS) (x5 : Int32) => some (s4, x5)) (fun J29 => if v2 = (-1 : Int32) then (J29 s3 (-1 : Int32)) else (am_c (fX8_overAnswered s3 v2) (fun (s7 : AS) (v6 : Int32) => J29 s7 v6))))))
def kX8_soonest : List (Nat × Instr × Nat) := [(0, .aload_n 0, 1), (1, .invokevirtual 126, 3), (4, .ifCond .ne 6, 3), (7, .bipush (-2), 2), (9, .ireturn, 1), (10, .aload_n 0, 1), (11, .invokevirtual 297, 3), (14, .istore_n 1, 1), (15, .iload_n 1, 1), (16, .iconst (-1), 1), (17, .if_icmp .ne 7, 3), (20, .iconst (-1), 1), (21, .goto 8, 3), (24, .aload_n 0, 1), (25, .iload_n 1, 1), (26, .invokevirtual 300, 3), (29, .ireturn, 1)]
theorem qX8_soonest : ∀ q ∈ kX8_soonest, decode mX8_soonest.2.2.1 q.1 = .ok (q.2.1, q.2.2) ∧ am_iok mX8_soonest.2.2.2.1 q.1 q.2.1 q.2.2 = true := by decide +kernel
set_option maxRecDepth 100000 in
theorem wX8_soonest : Cond.code mX8_soonest.2.1 mX8_soonest.2.2.1 mX8_soonest.2.2.2.1 mX8_soonest.2.2.2.2.1 ∈ am_T := List.mem_filter.mpr ⟨List.mem_of_getElem? (i := 1032) rfl, rfl⟩
set_option maxHeartbeats 4000000 in
set_option maxRecDepth 100000 in
theorem tX8_soonest (l : Launch) (d : Nat) {s0 : AS} {sE : AS} {rE : Int32} (hf : fX8_soonest s0 = some (sE, rE)) : am_Ct l (d + 7) mX8_soonest [.inr (.inr ((9, 0, 0), 0))] s0 sE (some (.inl rE)) := by
  refine am_sim l (d + 6) (code := kX8_soonest) (by decide +kernel) wX8_soonest qX8_soonest (Nat.le_of_ble_eq_true rfl) ?_
  intro X hX
  show X 0 [(0, .inr (.inr ((9, 0, 0), 0)))] [] s0
  unfold fX8_soonest at hf
  obtain ⟨v1, hcv1, hf⟩ := am_r_of hf
  refine am_blk hX 0 3 (And.intro rfl (And.intro rfl (Exists.intro s0 (Exists.intro (some (.inl v1)) (And.intro (tX8_isMarch l (d + 5) hcv1) (And.intro (fun hb => ?_) (fun hb => ?_)))))))
  · have hf := am_if hf hb
    show X 10 [(0, .inr (.inr ((9, 0, 0), 0)))] [] s0
    obtain ⟨s3, v2, hcv2, hf⟩ := am_c_of hf
    refine am_jn hf (fun J29 => ∀ (s4 : AS) (x5 : Int32), J29 s4 x5 = some (sE, rE) → X 29 [] [.inl x5] s4) ?_ ?_
    · intro s4 x5 hf
      refine am_blk hX 16 1 (am_ri hf)
    · intro J29 hJ29 hf
      refine am_blk hX 5 6 (And.intro rfl (And.intro rfl (Exists.intro s3 (Exists.intro (some (.inl v2)) (And.intro (tX8_endingSet l (d + 0) hcv2) (And.intro (fun hb => ?_) (fun hb => ?_)))))))
      · have hf := am_if hf hb
        show X 24 [(1, .inl v2), (0, .inr (.inr ((9, 0, 0), 0)))] [] s3
        obtain ⟨s7, v6, hcv6, hf⟩ := am_c_of hf
        refine am_blk hX 13 3 (And.intro rfl (And.intro rfl (Exists.intro s7 (Exists.intro (some (.inl v6)) (And.intro (tX8_overAnswered l (d + 1) hcv6) (?_))))))
        show X 29 [(1, .inl v2), (0, .inr (.inr ((9, 0, 0), 0)))] [.inl v6] s7
        exact am_wk hX [] (hJ29 s7 v6 hf)
      · have hf := am_it hf hb
        show X 20 [(1, .inl v2), (0, .inr (.inr ((9, 0, 0), 0)))] [] s3
        refine am_blk hX 11 2 (?_)
        show X 29 [(1, .inl v2), (0, .inr (.inr ((9, 0, 0), 0)))] [.inl (-1 : Int32)] s3
        exact am_wk hX [] (hJ29 s3 (-1 : Int32) hf)
  · have hf := am_it hf hb
    show X 7 [(0, .inr (.inr ((9, 0, 0), 0)))] [] s0
    refine am_blk hX 3 2 (am_ri hf)
