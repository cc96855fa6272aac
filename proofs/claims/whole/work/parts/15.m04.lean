/-! METHODS, printed by gen.py. -/
def fX8_isOnOrOff (a1 : Int32) : Option Int32 :=
  am_let (fun (x1 : Int32) => am_g (x1 = 0 ∨ x1 = 1) (some x1)) (fun J14 => am_let (J14 (1 : Int32)) (fun J9 => if a1 = 0 then (J9) else (if a1 = (1 : Int32) then (J9) else (J14 (0 : Int32)))))
def kX8_isOnOrOff : List (Nat × Instr × Nat) := [(0, .iload_n 1, 1), (1, .ifCond .eq 8, 3), (4, .iload_n 1, 1), (5, .iconst 1, 1), (6, .if_icmp .ne 7, 3), (9, .iconst 1, 1), (10, .goto 4, 3), (13, .iconst 0, 1), (14, .ireturn, 1)]
theorem qX8_isOnOrOff : ∀ q ∈ kX8_isOnOrOff, decode mX8_isOnOrOff.2.2.1 q.1 = .ok (q.2.1, q.2.2) ∧ am_iok mX8_isOnOrOff.2.2.2.1 q.1 q.2.1 q.2.2 = true := by decide +kernel
set_option maxRecDepth 100000 in
theorem wX8_isOnOrOff : Cond.code mX8_isOnOrOff.2.1 mX8_isOnOrOff.2.2.1 mX8_isOnOrOff.2.2.2.1 mX8_isOnOrOff.2.2.2.2.1 ∈ am_T := List.mem_filter.mpr ⟨List.mem_of_getElem? (i := 1212) rfl, rfl⟩
set_option maxHeartbeats 4000000 in
set_option maxRecDepth 100000 in
theorem tX8_isOnOrOff (l : Launch) (d : Nat) {s0 : AS} {a1 : Int32} {rE : Int32} (hf : fX8_isOnOrOff a1 = some rE) : am_Ct l (d + 1) mX8_isOnOrOff [.inr (.inr ((9, 0, 0), 0)), .inl a1] s0 s0 (some (.inl rE)) := by
  refine am_sim l (d + 0) (code := kX8_isOnOrOff) (by decide +kernel) wX8_isOnOrOff qX8_isOnOrOff (Nat.le_of_ble_eq_true rfl) ?_
  intro X hX
  show X 0 [(0, .inr (.inr ((9, 0, 0), 0))), (1, .inl a1)] [] s0
  unfold fX8_isOnOrOff at hf
  refine am_jn hf (fun J14 => ∀ (x1 : Int32), J14 x1 = some rE → X 14 [] [.inl x1] s0) ?_ ?_
  · intro x1 hf
    obtain ⟨g2, hf⟩ := am_g_of hf
    refine am_blk hX 8 1 (And.intro g2 (am_rpi hf))
  · intro J14 hJ14 hf
    refine am_jn hf (fun J9 => J9 = some rE → X 9 [] [] s0) ?_ ?_
    · intro hf
      refine am_blk hX 5 2 (?_)
      show X 14 [] [.inl (1 : Int32)] s0
      exact am_wk hX [] (hJ14 (1 : Int32) hf)
    · intro J9 hJ9 hf
      refine am_blk hX 0 2 (And.intro (fun hb => ?_) (fun hb => ?_))
      · have hf := am_it hf hb
        show X 9 [(0, .inr (.inr ((9, 0, 0), 0))), (1, .inl a1)] [] s0
        exact am_wk hX [] (hJ9 hf)
      · have hf := am_if hf hb
        show X 4 [(0, .inr (.inr ((9, 0, 0), 0))), (1, .inl a1)] [] s0
        refine am_blk hX 2 3 (And.intro (fun hb => ?_) (fun hb => ?_))
        · have hf := am_if hf hb
          show X 13 [(0, .inr (.inr ((9, 0, 0), 0))), (1, .inl a1)] [] s0
          refine am_blk hX 7 1 (?_)
          show X 14 [(0, .inr (.inr ((9, 0, 0), 0))), (1, .inl a1)] [.inl (0 : Int32)] s0
          exact am_wk hX [] (hJ14 (0 : Int32) hf)
        · have hf := am_it hf hb
          show X 9 [(0, .inr (.inr ((9, 0, 0), 0))), (1, .inl a1)] [] s0
          exact am_wk hX [] (hJ9 hf)
def fX8_answer (s0 : AS) (a1 : Int32) (a2 : Int32) : Option (AS × Int32) :=
  am_r (fX8_isMarch s0) (fun (v1 : Int32) => am_let (some (s0, (-2 : Int32))) (fun J25 => if v1 = 0 then (J25) else (if a1 < 0 then (J25) else (if (6 : Int32) ≤ a1 then (J25) else (am_r (fX8_isOnOrOff a2) (fun (v2 : Int32) => if v2 = 0 then (J25) else (if (s0.1 47 0) < (40 : Int32) then (am_r (fX8_holds (s0.1 47 1) a1) (fun (v3 : Int32) => am_let (fun (x4 : Int32) => am_c (fX0_keep s0 47) (fun (s6 : AS) (v5 : Unit) => am_let (fun (x7 : Int32) => am_let (am_si s6 47 1 x7) (fun (s8 : AS) => am_let (am_si s8 0 8 (0 : Int32)) (fun (s9 : AS) => some (s9, x4)))) (fun J105 => if a2 = 0 then (J105 ((s6.1 47 1) &&& (((1 : Int32) <<< (a1 &&& 31)) ^^^ (-1 : Int32)))) else (J105 ((s6.1 47 1) ||| ((1 : Int32) <<< (a1 &&& 31))))))) (fun J62 => if v3 = 0 then (J62 (0 : Int32)) else (J62 (1 : Int32))))) else (some (s0, (-5 : Int32))))))))))
def kX8_answer : List (Nat × Instr × Nat) := [(0, .aload_n 0, 1), (1, .invokevirtual 126, 3), (4, .ifCond .eq 21, 3), (7, .iload_n 1, 1), (8, .ifCond .lt 17, 3), (11, .iload_n 1, 1), (12, .bipush 6, 2), (14, .if_icmp .ge 11, 3), (17, .aload_n 0, 1), (18, .iload_n 2, 1), (19, .invokevirtual 434, 3), (22, .ifCond .ne 6, 3), (25, .bipush (-2), 2), (27, .ireturn, 1), (28, .aload_n 0, 1), (29, .getfield 35, 3), (32, .getfield 152, 3), (35, .bipush 40, 2), (37, .if_icmp .lt 6, 3), (40, .bipush (-5), 2), (42, .ireturn, 1), (43, .aload_n 0, 1), (44, .getfield 35, 3), (47, .getfield 202, 3), (50, .iload_n 1, 1), (51, .invokestatic 175, 3), (54, .ifCond .eq 7, 3), (57, .iconst 1, 1), (58, .goto 4, 3), (61, .iconst 0, 1), (62, .istore_n 3, 1), (63, .aload_n 0, 1), (64, .getfield 35, 3), (67, .invokevirtual 437, 3), (70, .aload_n 0, 1), (71, .getfield 35, 3), (74, .iload_n 2, 1), (75, .ifCond .ne 19, 3), (78, .aload_n 0, 1), (79, .getfield 35, 3), (82, .getfield 202, 3), (85, .iconst 1, 1), (86, .iload_n 1, 1), (87, .ishl, 1), (88, .iconst (-1), 1), (89, .ixor, 1), (90, .iand, 1), (91, .goto 14, 3), (94, .aload_n 0, 1), (95, .getfield 35, 3), (98, .getfield 202, 3), (101, .iconst 1, 1), (102, .iload_n 1, 1), (103, .ishl, 1), (104, .ior, 1), (105, .putfield 202, 3), (108, .aload_n 0, 1), (109, .iconst 0, 1), (110, .putfield 107, 3), (113, .iload_n 3, 1), (114, .ireturn, 1)]
theorem qX8_answer : ∀ q ∈ kX8_answer, decode mX8_answer.2.2.1 q.1 = .ok (q.2.1, q.2.2) ∧ am_iok mX8_answer.2.2.2.1 q.1 q.2.1 q.2.2 = true := by decide +kernel
set_option maxRecDepth 100000 in
theorem wX8_answer : Cond.code mX8_answer.2.1 mX8_answer.2.2.1 mX8_answer.2.2.2.1 mX8_answer.2.2.2.2.1 ∈ am_T := List.mem_filter.mpr ⟨List.mem_of_getElem? (i := 1208) rfl, rfl⟩
set_option maxHeartbeats 4000000 in
set_option maxRecDepth 100000 in
theorem tX8_answer (l : Launch) (d : Nat) {s0 : AS} {a1 : Int32} {a2 : Int32} {sE : AS} {rE : Int32} (hf : fX8_answer s0 a1 a2 = some (sE, rE)) : am_Ct l (d + 2) mX8_answer [.inr (.inr ((9, 0, 0), 0)), .inl a1, .inl a2] s0 sE (some (.inl rE)) := by
  refine am_sim l (d + 1) (code := kX8_answer) (by decide +kernel) wX8_answer qX8_answer (Nat.le_of_ble_eq_true rfl) ?_
  intro X hX
  show X 0 [(0, .inr (.inr ((9, 0, 0), 0))), (1, .inl a1), (2, .inl a2)] [] s0
  unfold fX8_answer at hf
  obtain ⟨v1, hcv1, hf⟩ := am_r_of hf
  refine am_jn hf (fun J25 => J25 = some (sE, rE) → X 25 [] [] s0) ?_ ?_
  · intro hf
    refine am_blk hX 12 2 (am_ri hf)
  · intro J25 hJ25 hf
    refine am_blk hX 0 3 (And.intro rfl (And.intro rfl (Exists.intro s0 (Exists.intro (some (.inl v1)) (And.intro (tX8_isMarch l (d + 0) hcv1) (And.intro (fun hb => ?_) (fun hb => ?_)))))))
    · have hf := am_it hf hb
      show X 25 [(0, .inr (.inr ((9, 0, 0), 0))), (1, .inl a1), (2, .inl a2)] [] s0
      exact am_wk hX [] (hJ25 hf)
    · have hf := am_if hf hb
      show X 7 [(0, .inr (.inr ((9, 0, 0), 0))), (1, .inl a1), (2, .inl a2)] [] s0
      refine am_blk hX 3 2 (And.intro (fun hb => ?_) (fun hb => ?_))
      · have hf := am_it hf hb
        show X 25 [(0, .inr (.inr ((9, 0, 0), 0))), (1, .inl a1), (2, .inl a2)] [] s0
        exact am_wk hX [] (hJ25 hf)
      · have hf := am_if hf hb
        show X 11 [(0, .inr (.inr ((9, 0, 0), 0))), (1, .inl a1), (2, .inl a2)] [] s0
        refine am_blk hX 5 3 (And.intro (fun hb => ?_) (fun hb => ?_))
        · have hf := am_it hf hb
          show X 25 [(0, .inr (.inr ((9, 0, 0), 0))), (1, .inl a1), (2, .inl a2)] [] s0
          exact am_wk hX [] (hJ25 hf)
        · have hf := am_if hf hb
          show X 17 [(0, .inr (.inr ((9, 0, 0), 0))), (1, .inl a1), (2, .inl a2)] [] s0
          obtain ⟨v2, hcv2, hf⟩ := am_r_of hf
          refine am_blk hX 8 4 (And.intro rfl (And.intro rfl (Exists.intro s0 (Exists.intro (some (.inl v2)) (And.intro (tX8_isOnOrOff l (d + 0) hcv2) (And.intro (fun hb => ?_) (fun hb => ?_)))))))
          · have hf := am_if hf hb
            show X 28 [(0, .inr (.inr ((9, 0, 0), 0))), (1, .inl a1), (2, .inl a2)] [] s0
            refine am_blk hX 14 5 (And.intro rfl (And.intro rfl (And.intro (fun hb => ?_) (fun hb => ?_))))
            · have hf := am_it hf hb
              show X 43 [(0, .inr (.inr ((9, 0, 0), 0))), (1, .inl a1), (2, .inl a2)] [] s0
              obtain ⟨v3, hcv3, hf⟩ := am_r_of hf
              refine am_jn hf (fun J62 => ∀ (x4 : Int32), J62 x4 = some (sE, rE) → X 62 [(0, .inr (.inr ((9, 0, 0), 0))), (1, .inl a1), (2, .inl a2)] [.inl x4] s0) ?_ ?_
              · intro x4 hf
                obtain ⟨s6, v5, hcv5, hf⟩ := am_c_of hf
                refine am_jn hf (fun J105 => ∀ (x7 : Int32), J105 x7 = some (sE, rE) → X 105 [(0, .inr (.inr ((9, 0, 0), 0))), (3, .inl x4)] [.inl x7, .inr (.inr ((1, 0, 0), 47))] s6) ?_ ?_
                · intro x7 hf
                  refine am_blk hX 55 1 (And.intro rfl (am_nl (Z := fun s8 => X 108 [(0, .inr (.inr ((9, 0, 0), 0))), (3, .inl x4)] [] s8) hf (fun s8 hf => ?_)))
                  refine am_blk hX 56 3 (And.intro rfl (And.intro (Or.inl rfl) (am_nl (Z := fun s9 => X 113 [(0, .inr (.inr ((9, 0, 0), 0))), (3, .inl x4)] [] s9) hf (fun s9 hf => ?_))))
                  refine am_blk hX 59 2 (am_ri hf)
                · intro J105 hJ105 hf
                  refine am_blk hX 30 8 (And.intro rfl (And.intro rfl (And.intro rfl (Exists.intro s6 (Exists.intro none (And.intro (tX0_keep l (d + 0) hcv5) (And.intro rfl (And.intro (fun hb => ?_) (fun hb => ?_)))))))))
                  · have hf := am_if hf hb
                    show X 94 [(3, .inl x4), (0, .inr (.inr ((9, 0, 0), 0))), (1, .inl a1), (2, .inl a2)] [.inr (.inr ((1, 0, 0), 47))] s6
                    refine am_blk hX 48 7 (And.intro rfl (And.intro rfl (?_)))
                    show X 105 [(3, .inl x4), (0, .inr (.inr ((9, 0, 0), 0))), (1, .inl a1), (2, .inl a2)] [.inl ((s6.1 47 1) ||| ((1 : Int32) <<< (a1 &&& 31))), .inr (.inr ((1, 0, 0), 47))] s6
                    exact am_wk hX [1, 0] (hJ105 ((s6.1 47 1) ||| ((1 : Int32) <<< (a1 &&& 31))) hf)
                  · have hf := am_it hf hb
                    show X 78 [(3, .inl x4), (0, .inr (.inr ((9, 0, 0), 0))), (1, .inl a1), (2, .inl a2)] [.inr (.inr ((1, 0, 0), 47))] s6
                    refine am_blk hX 38 10 (And.intro rfl (And.intro rfl (?_)))
                    show X 105 [(3, .inl x4), (0, .inr (.inr ((9, 0, 0), 0))), (1, .inl a1), (2, .inl a2)] [.inl ((s6.1 47 1) &&& (((1 : Int32) <<< (a1 &&& 31)) ^^^ (-1 : Int32))), .inr (.inr ((1, 0, 0), 47))] s6
                    exact am_wk hX [1, 0] (hJ105 ((s6.1 47 1) &&& (((1 : Int32) <<< (a1 &&& 31)) ^^^ (-1 : Int32))) hf)
              · intro J62 hJ62 hf
                refine am_blk hX 21 6 (And.intro rfl (And.intro rfl (And.intro rfl (Exists.intro s0 (Exists.intro (some (.inl v3)) (And.intro (tX8_holds l (d + 0) hcv3) (And.intro (fun hb => ?_) (fun hb => ?_))))))))
                · have hf := am_it hf hb
                  show X 61 [(0, .inr (.inr ((9, 0, 0), 0))), (1, .inl a1), (2, .inl a2)] [] s0
                  refine am_blk hX 29 1 (?_)
                  show X 62 [(0, .inr (.inr ((9, 0, 0), 0))), (1, .inl a1), (2, .inl a2)] [.inl (0 : Int32)] s0
                  exact am_wk hX [0, 1, 2] (hJ62 (0 : Int32) hf)
                · have hf := am_if hf hb
                  show X 57 [(0, .inr (.inr ((9, 0, 0), 0))), (1, .inl a1), (2, .inl a2)] [] s0
                  refine am_blk hX 27 2 (?_)
                  show X 62 [(0, .inr (.inr ((9, 0, 0), 0))), (1, .inl a1), (2, .inl a2)] [.inl (1 : Int32)] s0
                  exact am_wk hX [0, 1, 2] (hJ62 (1 : Int32) hf)
            · have hf := am_if hf hb
              show X 40 [(0, .inr (.inr ((9, 0, 0), 0))), (1, .inl a1), (2, .inl a2)] [] s0
              refine am_blk hX 19 2 (am_ri hf)
          · have hf := am_it hf hb
            show X 25 [(0, .inr (.inr ((9, 0, 0), 0))), (1, .inl a1), (2, .inl a2)] [] s0
            exact am_wk hX [] (hJ25 hf)
def fX8_answered (s0 : AS) : Option Int32 :=
  am_r (fX8_isMarch s0) (fun (v1 : Int32) => am_let (fun (x2 : Int32) => some x2) (fun J19 => if v1 = 0 then (J19 (-2 : Int32)) else (J19 (s0.1 47 1))))
def kX8_answered : List (Nat × Instr × Nat) := [(0, .aload_n 0, 1), (1, .invokevirtual 126, 3), (4, .ifCond .eq 13, 3), (7, .aload_n 0, 1), (8, .getfield 35, 3), (11, .getfield 202, 3), (14, .goto 5, 3), (17, .bipush (-2), 2), (19, .ireturn, 1)]
theorem qX8_answered : ∀ q ∈ kX8_answered, decode mX8_answered.2.2.1 q.1 = .ok (q.2.1, q.2.2) ∧ am_iok mX8_answered.2.2.2.1 q.1 q.2.1 q.2.2 = true := by decide +kernel
set_option maxRecDepth 100000 in
theorem wX8_answered : Cond.code mX8_answered.2.1 mX8_answered.2.2.1 mX8_answered.2.2.2.1 mX8_answered.2.2.2.2.1 ∈ am_T := List.mem_filter.mpr ⟨List.mem_of_getElem? (i := 1224) rfl, rfl⟩
set_option maxHeartbeats 4000000 in
set_option maxRecDepth 100000 in
theorem tX8_answered (l : Launch) (d : Nat) {s0 : AS} {rE : Int32} (hf : fX8_answered s0 = some rE) : am_Ct l (d + 2) mX8_answered [.inr (.inr ((9, 0, 0), 0))] s0 s0 (some (.inl rE)) := by
  refine am_sim l (d + 1) (code := kX8_answered) (by decide +kernel) wX8_answered qX8_answered (Nat.le_of_ble_eq_true rfl) ?_
  intro X hX
  show X 0 [(0, .inr (.inr ((9, 0, 0), 0)))] [] s0
  unfold fX8_answered at hf
  obtain ⟨v1, hcv1, hf⟩ := am_r_of hf
  refine am_jn hf (fun J19 => ∀ (x2 : Int32), J19 x2 = some rE → X 19 [] [.inl x2] s0) ?_ ?_
  · intro x2 hf
    refine am_blk hX 8 1 (am_rpi hf)
  · intro J19 hJ19 hf
    refine am_blk hX 0 3 (And.intro rfl (And.intro rfl (Exists.intro s0 (Exists.intro (some (.inl v1)) (And.intro (tX8_isMarch l (d + 0) hcv1) (And.intro (fun hb => ?_) (fun hb => ?_)))))))
    · have hf := am_it hf hb
      show X 17 [(0, .inr (.inr ((9, 0, 0), 0)))] [] s0
      refine am_blk hX 7 1 (?_)
      show X 19 [(0, .inr (.inr ((9, 0, 0), 0)))] [.inl (-2 : Int32)] s0
      exact am_wk hX [] (hJ19 (-2 : Int32) hf)
    · have hf := am_if hf hb
      show X 7 [(0, .inr (.inr ((9, 0, 0), 0)))] [] s0
      refine am_blk hX 3 4 (And.intro rfl (And.intro rfl (?_)))
      show X 19 [(0, .inr (.inr ((9, 0, 0), 0)))] [.inl (s0.1 47 1)] s0
      exact am_wk hX [] (hJ19 (s0.1 47 1) hf)
def fX8_asItIs (s0 : AS) : Option (AS × Unit) :=
  am_c (fX1_begin s0 172 25 (s0.1 47 1) 138) (fun (s2 : AS) (v1 : Unit) => some (s2, ()))
def kX8_asItIs : List (Nat × Instr × Nat) := [(0, .aload_n 0, 1), (1, .getfield 68, 3), (4, .aload_n 0, 1), (5, .getfield 29, 3), (8, .aload_n 0, 1), (9, .getfield 35, 3), (12, .getfield 202, 3), (15, .aload_n 0, 1), (16, .getfield 54, 3), (19, .invokevirtual 205, 3), (22, .return_, 1)]
theorem qX8_asItIs : ∀ q ∈ kX8_asItIs, decode mX8_asItIs.2.2.1 q.1 = .ok (q.2.1, q.2.2) ∧ am_iok mX8_asItIs.2.2.2.1 q.1 q.2.1 q.2.2 = true := by decide +kernel
set_option maxRecDepth 100000 in
theorem wX8_asItIs : Cond.code mX8_asItIs.2.1 mX8_asItIs.2.2.1 mX8_asItIs.2.2.2.1 mX8_asItIs.2.2.2.2.1 ∈ am_T := List.mem_filter.mpr ⟨List.mem_of_getElem? (i := 743) rfl, rfl⟩
set_option maxHeartbeats 4000000 in
set_option maxRecDepth 100000 in
theorem tX8_asItIs (l : Launch) (d : Nat) {s0 : AS} {sE : AS} {rE : Unit} (hf : fX8_asItIs s0 = some (sE, rE)) : am_Ct l (d + 2) mX8_asItIs [.inr (.inr ((9, 0, 0), 0))] s0 sE none := by
  refine am_sim l (d + 1) (code := kX8_asItIs) (by decide +kernel) wX8_asItIs qX8_asItIs (Nat.le_of_ble_eq_true rfl) ?_
  intro X hX
  show X 0 [(0, .inr (.inr ((9, 0, 0), 0)))] [] s0
  unfold fX8_asItIs at hf
  obtain ⟨s2, v1, hcv1, hf⟩ := am_c_of hf
  refine am_blk hX 0 11 (And.intro rfl (And.intro rfl (And.intro rfl (And.intro rfl (And.intro rfl (And.intro rfl (And.intro rfl (Exists.intro s2 (Exists.intro none (And.intro (tX1_begin l (d + 0) hcv1) (And.intro rfl (am_rv hf))))))))))))
def fX8_isSlot (a1 : Int32) : Option Int32 :=
  am_let (fun (x1 : Int32) => am_g (x1 = 0 ∨ x1 = 1) (some x1)) (fun J14 => am_let (J14 (0 : Int32)) (fun J13 => if a1 < 0 then (J13) else (if (4 : Int32) ≤ a1 then (J13) else (J14 (1 : Int32)))))
def kX8_isSlot : List (Nat × Instr × Nat) := [(0, .iload_n 1, 1), (1, .ifCond .lt 12, 3), (4, .iload_n 1, 1), (5, .iconst 4, 1), (6, .if_icmp .ge 7, 3), (9, .iconst 1, 1), (10, .goto 4, 3), (13, .iconst 0, 1), (14, .ireturn, 1)]
theorem qX8_isSlot : ∀ q ∈ kX8_isSlot, decode mX8_isSlot.2.2.1 q.1 = .ok (q.2.1, q.2.2) ∧ am_iok mX8_isSlot.2.2.2.1 q.1 q.2.1 q.2.2 = true := by decide +kernel
set_option maxRecDepth 100000 in
theorem wX8_isSlot : Cond.code mX8_isSlot.2.1 mX8_isSlot.2.2.1 mX8_isSlot.2.2.2.1 mX8_isSlot.2.2.2.2.1 ∈ am_T := List.mem_filter.mpr ⟨List.mem_of_getElem? (i := 1084) rfl, rfl⟩
set_option maxHeartbeats 4000000 in
set_option maxRecDepth 100000 in
theorem tX8_isSlot (l : Launch) (d : Nat) {s0 : AS} {a1 : Int32} {rE : Int32} (hf : fX8_isSlot a1 = some rE) : am_Ct l (d + 1) mX8_isSlot [.inr (.inr ((9, 0, 0), 0)), .inl a1] s0 s0 (some (.inl rE)) := by
  refine am_sim l (d + 0) (code := kX8_isSlot) (by decide +kernel) wX8_isSlot qX8_isSlot (Nat.le_of_ble_eq_true rfl) ?_
  intro X hX
  show X 0 [(0, .inr (.inr ((9, 0, 0), 0))), (1, .inl a1)] [] s0
  unfold fX8_isSlot at hf
  refine am_jn hf (fun J14 => ∀ (x1 : Int32), J14 x1 = some rE → X 14 [] [.inl x1] s0) ?_ ?_
  · intro x1 hf
    obtain ⟨g2, hf⟩ := am_g_of hf
    refine am_blk hX 8 1 (And.intro g2 (am_rpi hf))
  · intro J14 hJ14 hf
    refine am_jn hf (fun J13 => J13 = some rE → X 13 [] [] s0) ?_ ?_
    · intro hf
      refine am_blk hX 7 1 (?_)
      show X 14 [] [.inl (0 : Int32)] s0
      exact am_wk hX [] (hJ14 (0 : Int32) hf)
    · intro J13 hJ13 hf
      refine am_blk hX 0 2 (And.intro (fun hb => ?_) (fun hb => ?_))
      · have hf := am_it hf hb
        show X 13 [(0, .inr (.inr ((9, 0, 0), 0))), (1, .inl a1)] [] s0
        exact am_wk hX [] (hJ13 hf)
      · have hf := am_if hf hb
        show X 4 [(0, .inr (.inr ((9, 0, 0), 0))), (1, .inl a1)] [] s0
        refine am_blk hX 2 3 (And.intro (fun hb => ?_) (fun hb => ?_))
        · have hf := am_it hf hb
          show X 13 [(0, .inr (.inr ((9, 0, 0), 0))), (1, .inl a1)] [] s0
          exact am_wk hX [] (hJ13 hf)
        · have hf := am_if hf hb
          show X 9 [(0, .inr (.inr ((9, 0, 0), 0))), (1, .inl a1)] [] s0
          refine am_blk hX 5 2 (?_)
          show X 14 [(0, .inr (.inr ((9, 0, 0), 0))), (1, .inl a1)] [.inl (1 : Int32)] s0
          exact am_wk hX [] (hJ14 (1 : Int32) hf)
def fX8_lacksRow (s0 : AS) (a1 : Int32) : Option Int32 :=
  am_r (fX8_isSlot a1) (fun (v1 : Int32) => am_let (some (-2 : Int32)) (fun J15 => if v1 = 0 then (J15) else (am_r (fX8_isMarch s0) (fun (v2 : Int32) => if v2 = 0 then (J15) else (am_g (¬ (a1 < 0 ∨ 4 ≤ a1.toNatClampNeg)) (am_let (fun (x4 : Int32) => some x4) (fun J36 => if (s0.1 (130 + 2 * a1.toNatClampNeg) 0) = 0 then (J36 (-6 : Int32)) else (J36 (0 : Int32)))))))))
def kX8_lacksRow : List (Nat × Instr × Nat) := [(0, .aload_n 0, 1), (1, .iload_n 1, 1), (2, .invokevirtual 312, 3), (5, .ifCond .eq 10, 3), (8, .aload_n 0, 1), (9, .invokevirtual 126, 3), (12, .ifCond .ne 6, 3), (15, .bipush (-2), 2), (17, .ireturn, 1), (18, .aload_n 0, 1), (19, .getfield 47, 3), (22, .iload_n 1, 1), (23, .aaload, 1), (24, .getfield 159, 3), (27, .ifCond .eq 7, 3), (30, .iconst 0, 1), (31, .goto 5, 3), (34, .bipush (-6), 2), (36, .ireturn, 1)]
theorem qX8_lacksRow : ∀ q ∈ kX8_lacksRow, decode mX8_lacksRow.2.2.1 q.1 = .ok (q.2.1, q.2.2) ∧ am_iok mX8_lacksRow.2.2.2.1 q.1 q.2.1 q.2.2 = true := by decide +kernel
set_option maxRecDepth 100000 in
theorem wX8_lacksRow : Cond.code mX8_lacksRow.2.1 mX8_lacksRow.2.2.1 mX8_lacksRow.2.2.2.1 mX8_lacksRow.2.2.2.2.1 ∈ am_T := List.mem_filter.mpr ⟨List.mem_of_getElem? (i := 1080) rfl, rfl⟩
set_option maxHeartbeats 4000000 in
set_option maxRecDepth 100000 in
theorem tX8_lacksRow (l : Launch) (d : Nat) {s0 : AS} {a1 : Int32} {rE : Int32} (hf : fX8_lacksRow s0 a1 = some rE) : am_Ct l (d + 2) mX8_lacksRow [.inr (.inr ((9, 0, 0), 0)), .inl a1] s0 s0 (some (.inl rE)) := by
  refine am_sim l (d + 1) (code := kX8_lacksRow) (by decide +kernel) wX8_lacksRow qX8_lacksRow (Nat.le_of_ble_eq_true rfl) ?_
  intro X hX
  show X 0 [(0, .inr (.inr ((9, 0, 0), 0))), (1, .inl a1)] [] s0
  unfold fX8_lacksRow at hf
  obtain ⟨v1, hcv1, hf⟩ := am_r_of hf
  refine am_jn hf (fun J15 => J15 = some rE → X 15 [] [] s0) ?_ ?_
  · intro hf
    refine am_blk hX 7 2 (am_rpi hf)
  · intro J15 hJ15 hf
    refine am_blk hX 0 4 (And.intro rfl (And.intro rfl (Exists.intro s0 (Exists.intro (some (.inl v1)) (And.intro (tX8_isSlot l (d + 0) hcv1) (And.intro (fun hb => ?_) (fun hb => ?_)))))))
    · have hf := am_it hf hb
      show X 15 [(0, .inr (.inr ((9, 0, 0), 0))), (1, .inl a1)] [] s0
      exact am_wk hX [] (hJ15 hf)
    · have hf := am_if hf hb
      show X 8 [(0, .inr (.inr ((9, 0, 0), 0))), (1, .inl a1)] [] s0
      obtain ⟨v2, hcv2, hf⟩ := am_r_of hf
      refine am_blk hX 4 3 (And.intro rfl (And.intro rfl (Exists.intro s0 (Exists.intro (some (.inl v2)) (And.intro (tX8_isMarch l (d + 0) hcv2) (And.intro (fun hb => ?_) (fun hb => ?_)))))))
      · have hf := am_if hf hb
        show X 18 [(0, .inr (.inr ((9, 0, 0), 0))), (1, .inl a1)] [] s0
        obtain ⟨g3, hf⟩ := am_g_of hf
        refine am_jn hf (fun J36 => ∀ (x4 : Int32), J36 x4 = some rE → X 36 [] [.inl x4] s0) ?_ ?_
        · intro x4 hf
          refine am_blk hX 18 1 (am_rpi hf)
        · intro J36 hJ36 hf
          refine am_blk hX 9 6 (And.intro rfl (And.intro g3 (And.intro rfl (And.intro (fun hb => ?_) (fun hb => ?_)))))
          · have hf := am_it hf hb
            show X 34 [(0, .inr (.inr ((9, 0, 0), 0))), (1, .inl a1)] [] s0
            refine am_blk hX 17 1 (?_)
            show X 36 [(0, .inr (.inr ((9, 0, 0), 0))), (1, .inl a1)] [.inl (-6 : Int32)] s0
            exact am_wk hX [] (hJ36 (-6 : Int32) hf)
          · have hf := am_if hf hb
            show X 30 [(0, .inr (.inr ((9, 0, 0), 0))), (1, .inl a1)] [] s0
            refine am_blk hX 15 2 (?_)
            show X 36 [(0, .inr (.inr ((9, 0, 0), 0))), (1, .inl a1)] [.inl (0 : Int32)] s0
            exact am_wk hX [] (hJ36 (0 : Int32) hf)
      · have hf := am_it hf hb
        show X 15 [(0, .inr (.inr ((9, 0, 0), 0))), (1, .inl a1)] [] s0
        exact am_wk hX [] (hJ15 hf)
def fX8_tellsFalls_L13 (o1 : Nat) (s0 : AS) (J77 : Option Int32) : Nat → Int32 → Option Int32
  | 0, _ => none
  | n13 + 1, x2 =>
    if (s0.1 o1 2) ≤ (x2 + (1 : Int32)) then (some (1 : Int32)) else (am_g (¬ (x2 < 0 ∨ 60 ≤ x2.toNatClampNeg)) (am_let (s0.2 (o1 + 1) x2.toNatClampNeg) (fun (x4 : Int64) => am_g (¬ ((x2 + (1 : Int32)) < 0 ∨ 60 ≤ (x2 + (1 : Int32)).toNatClampNeg)) (am_let (s0.2 (o1 + 1) ((x2 + (1 : Int32)).toNatClampNeg)) (fun (x6 : Int64) => if (lg_cmp x4 (0 : Int64)) < 0 then (J77) else (if 0 ≤ (lg_cmp x4 ((s0.1 25 6).toInt64)) then (J77) else (if (lg_cmp x6 (-1 : Int64)) < 0 then (J77) else (if (lg_cmp x6 (60 : Int64)) ≤ 0 then (am_let (x2 + (2 : Int32)) (fun (x7 : Int32) => fX8_tellsFalls_L13 o1 s0 J77 n13 x7)) else (J77)))))))))
def fX8_tellsFalls (s0 : AS) (o1 : Nat) : Option Int32 :=
  am_g (¬ (2 : Int32) = 0) (if ((s0.1 o1 2) - (s0.1 o1 2) / (2 : Int32) * (2 : Int32)) = 0 then (am_let (some (0 : Int32)) (fun J77 => fX8_tellsFalls_L13 o1 s0 J77 am_fu (0 : Int32))) else (some (0 : Int32)))
def kX8_tellsFalls : List (Nat × Instr × Nat) := [(0, .aload_n 1, 1), (1, .getfield 315, 3), (4, .iconst 2, 1), (5, .irem, 1), (6, .ifCond .eq 5, 3), (9, .iconst 0, 1), (10, .ireturn, 1), (11, .iconst 0, 1), (12, .istore_n 2, 1), (13, .iload_n 2, 1), (14, .iconst 1, 1), (15, .iadd, 1), (16, .aload_n 1, 1), (17, .getfield 315, 3), (20, .if_icmp .ge 65, 3), (23, .aload_n 1, 1), (24, .getfield 318, 3), (27, .iload_n 2, 1), (28, .laload, 1), (29, .lstore_n 3, 1), (30, .aload_n 1, 1), (31, .getfield 318, 3), (34, .iload_n 2, 1), (35, .iconst 1, 1), (36, .iadd, 1), (37, .laload, 1), (38, .lstore 5, 2), (40, .lload_n 3, 1), (41, .lconst 0, 1), (42, .lcmp, 1), (43, .ifCond .lt 34, 3), (46, .lload_n 3, 1), (47, .aload_n 0, 1), (48, .getfield 29, 3), (51, .getfield 123, 3), (54, .i2l, 1), (55, .lcmp, 1), (56, .ifCond .ge 21, 3), (59, .lload 5, 2), (61, .ldc2_w 322, 3), (64, .lcmp, 1), (65, .ifCond .lt 12, 3), (68, .lload 5, 2), (70, .ldc2_w 324, 3), (73, .lcmp, 1), (74, .ifCond .le 5, 3), (77, .iconst 0, 1), (78, .ireturn, 1), (79, .iinc 2 2, 3), (82, .goto (-69), 3), (85, .iconst 1, 1), (86, .ireturn, 1)]
theorem qX8_tellsFalls : ∀ q ∈ kX8_tellsFalls, decode mX8_tellsFalls.2.2.1 q.1 = .ok (q.2.1, q.2.2) ∧ am_iok mX8_tellsFalls.2.2.2.1 q.1 q.2.1 q.2.2 = true := by decide +kernel
set_option maxRecDepth 100000 in
theorem wX8_tellsFalls : Cond.code mX8_tellsFalls.2.1 mX8_tellsFalls.2.2.1 mX8_tellsFalls.2.2.2.1 mX8_tellsFalls.2.2.2.2.1 ∈ am_T := List.mem_filter.mpr ⟨List.mem_of_getElem? (i := 1088) rfl, rfl⟩
set_option maxHeartbeats 4000000 in
set_option maxRecDepth 100000 in
theorem tX8_tellsFalls (l : Launch) (d : Nat) {s0 : AS} {o1 : Nat} {rE : Int32} (hf : fX8_tellsFalls s0 o1 = some rE) : am_Ct l (d + 1) mX8_tellsFalls [.inr (.inr ((9, 0, 0), 0)), .inr (.inr ((6, 0, 0), o1))] s0 s0 (some (.inl rE)) := by
  refine am_sim l (d + 0) (code := kX8_tellsFalls) (by decide +kernel) wX8_tellsFalls qX8_tellsFalls (Nat.le_of_ble_eq_true rfl) ?_
  intro X hX
  show X 0 [(0, .inr (.inr ((9, 0, 0), 0))), (1, .inr (.inr ((6, 0, 0), o1)))] [] s0
  unfold fX8_tellsFalls at hf
  obtain ⟨g1, hf⟩ := am_g_of hf
  refine am_blk hX 0 5 (And.intro rfl (And.intro g1 (And.intro (fun hb => ?_) (fun hb => ?_))))
  · have hf := am_it hf hb
    show X 11 [(0, .inr (.inr ((9, 0, 0), 0))), (1, .inr (.inr ((6, 0, 0), o1)))] [] s0
    refine am_jn hf (fun J77 => J77 = some rE → X 77 [] [] s0) ?_ ?_
    · intro hf
      refine am_blk hX 46 2 (And.intro (Or.inl rfl) (am_rpi hf))
    · intro J77 hJ77 hf
      have hL13 : ∀ (n13 : Nat) (x2 : Int32), fX8_tellsFalls_L13 o1 s0 J77 n13 x2 = some rE → X 13 [(0, .inr (.inr ((9, 0, 0), 0))), (1, .inr (.inr ((6, 0, 0), o1))), (2, .inl x2)] [] s0 := by
        intro n13
        induction n13 with
        | zero => intro x2 hf; exact am_no (show none = some _ from hf)
        | succ n13 ih13 =>
          intro x2 hf
          refine am_blk hX 9 6 (And.intro rfl (And.intro (fun hb => ?_) (fun hb => ?_)))
          · have hf := am_it hf hb
            show X 85 [(0, .inr (.inr ((9, 0, 0), 0))), (1, .inr (.inr ((6, 0, 0), o1))), (2, .inl x2)] [] s0
            refine am_blk hX 50 2 (And.intro (Or.inr rfl) (am_rpi hf))
          · have hf := am_if hf hb
            show X 23 [(0, .inr (.inr ((9, 0, 0), 0))), (1, .inr (.inr ((6, 0, 0), o1))), (2, .inl x2)] [] s0
            obtain ⟨g3, hf⟩ := am_g_of hf
            refine am_blk hX 15 5 (And.intro rfl (And.intro rfl (And.intro g3 (am_nl (Z := fun x4 => X 30 [(3, .inr (.inl x4)), (0, .inr (.inr ((9, 0, 0), 0))), (1, .inr (.inr ((6, 0, 0), o1))), (2, .inl x2)] [] s0) hf (fun x4 hf => ?_)))))
            obtain ⟨g5, hf⟩ := am_g_of hf
            refine am_blk hX 20 7 (And.intro rfl (And.intro rfl (And.intro g5 (am_nl (Z := fun x6 => X 40 [(5, .inr (.inl x6)), (3, .inr (.inl x4)), (0, .inr (.inr ((9, 0, 0), 0))), (1, .inr (.inr ((6, 0, 0), o1))), (2, .inl x2)] [] s0) hf (fun x6 hf => ?_)))))
            refine am_blk hX 27 4 (And.intro (fun hb => ?_) (fun hb => ?_))
            · have hf := am_it hf hb
              show X 77 [(5, .inr (.inl x6)), (3, .inr (.inl x4)), (0, .inr (.inr ((9, 0, 0), 0))), (1, .inr (.inr ((6, 0, 0), o1))), (2, .inl x2)] [] s0
              exact am_wk hX [] (hJ77 hf)
            · have hf := am_if hf hb
              show X 46 [(5, .inr (.inl x6)), (3, .inr (.inl x4)), (0, .inr (.inr ((9, 0, 0), 0))), (1, .inr (.inr ((6, 0, 0), o1))), (2, .inl x2)] [] s0
              refine am_blk hX 31 7 (And.intro rfl (And.intro rfl (And.intro (fun hb => ?_) (fun hb => ?_))))
              · have hf := am_it hf hb
                show X 77 [(5, .inr (.inl x6)), (3, .inr (.inl x4)), (0, .inr (.inr ((9, 0, 0), 0))), (1, .inr (.inr ((6, 0, 0), o1))), (2, .inl x2)] [] s0
                exact am_wk hX [] (hJ77 hf)
              · have hf := am_if hf hb
                show X 59 [(5, .inr (.inl x6)), (3, .inr (.inl x4)), (0, .inr (.inr ((9, 0, 0), 0))), (1, .inr (.inr ((6, 0, 0), o1))), (2, .inl x2)] [] s0
                refine am_blk hX 38 4 (And.intro (fun hb => ?_) (fun hb => ?_))
                · have hf := am_it hf hb
                  show X 77 [(5, .inr (.inl x6)), (3, .inr (.inl x4)), (0, .inr (.inr ((9, 0, 0), 0))), (1, .inr (.inr ((6, 0, 0), o1))), (2, .inl x2)] [] s0
                  exact am_wk hX [] (hJ77 hf)
                · have hf := am_if hf hb
                  show X 68 [(5, .inr (.inl x6)), (3, .inr (.inl x4)), (0, .inr (.inr ((9, 0, 0), 0))), (1, .inr (.inr ((6, 0, 0), o1))), (2, .inl x2)] [] s0
                  refine am_blk hX 42 4 (And.intro (fun hb => ?_) (fun hb => ?_))
                  · have hf := am_it hf hb
                    show X 79 [(5, .inr (.inl x6)), (3, .inr (.inl x4)), (0, .inr (.inr ((9, 0, 0), 0))), (1, .inr (.inr ((6, 0, 0), o1))), (2, .inl x2)] [] s0
                    refine am_blk hX 48 1 (am_nl (Z := fun x7 => X 82 [(2, .inl x7), (5, .inr (.inl x6)), (3, .inr (.inl x4)), (0, .inr (.inr ((9, 0, 0), 0))), (1, .inr (.inr ((6, 0, 0), o1)))] [] s0) hf (fun x7 hf => ?_))
                    refine am_blk hX 49 1 (?_)
                    show X 13 [(2, .inl x7), (5, .inr (.inl x6)), (3, .inr (.inl x4)), (0, .inr (.inr ((9, 0, 0), 0))), (1, .inr (.inr ((6, 0, 0), o1)))] [] s0
                    exact am_wk hX [3, 4, 0] (ih13 x7 hf)
                  · have hf := am_if hf hb
                    show X 77 [(5, .inr (.inl x6)), (3, .inr (.inl x4)), (0, .inr (.inr ((9, 0, 0), 0))), (1, .inr (.inr ((6, 0, 0), o1))), (2, .inl x2)] [] s0
                    exact am_wk hX [] (hJ77 hf)
      refine am_blk hX 7 2 (?_)
      show X 13 [(2, .inl (0 : Int32)), (0, .inr (.inr ((9, 0, 0), 0))), (1, .inr (.inr ((6, 0, 0), o1)))] [] s0
      exact am_wk hX [1, 2, 0] (hL13 am_fu (0 : Int32) hf)
  · have hf := am_if hf hb
    show X 9 [(0, .inr (.inr ((9, 0, 0), 0))), (1, .inr (.inr ((6, 0, 0), o1)))] [] s0
    refine am_blk hX 5 2 (And.intro (Or.inl rfl) (am_rpi hf))
def fX8_tell (s0 : AS) : Option (AS × Unit) :=
  if (s0.1 0 8) = 0 then (am_c (fX7_measure s0 138 25 (s0.1 47 2)) (fun (s2 : AS) (v1 : Unit) => am_c (fX8_asItIs s2) (fun (s4 : AS) (v3 : Unit) => am_c (fX6_go s4 163 25 172) (fun (s6 : AS) (v5 : Unit) => am_let (am_si s6 0 8 (1 : Int32)) (fun (s7 : AS) => some (s7, ())))))) else (some (s0, ()))
def kX8_tell : List (Nat × Instr × Nat) := [(0, .aload_n 0, 1), (1, .getfield 107, 3), (4, .ifCond .eq 4, 3), (7, .return_, 1), (8, .aload_n 0, 1), (9, .getfield 54, 3), (12, .aload_n 0, 1), (13, .getfield 29, 3), (16, .aload_n 0, 1), (17, .getfield 35, 3), (20, .getfield 188, 3), (23, .invokevirtual 191, 3), (26, .aload_n 0, 1), (27, .invokevirtual 195, 3), (30, .aload_n 0, 1), (31, .getfield 61, 3), (34, .aload_n 0, 1), (35, .getfield 29, 3), (38, .aload_n 0, 1), (39, .getfield 68, 3), (42, .invokevirtual 198, 3), (45, .aload_n 0, 1), (46, .iconst 1, 1), (47, .putfield 107, 3), (50, .return_, 1)]
theorem qX8_tell : ∀ q ∈ kX8_tell, decode mX8_tell.2.2.1 q.1 = .ok (q.2.1, q.2.2) ∧ am_iok mX8_tell.2.2.2.1 q.1 q.2.1 q.2.2 = true := by decide +kernel
set_option maxRecDepth 100000 in
theorem wX8_tell : Cond.code mX8_tell.2.1 mX8_tell.2.2.1 mX8_tell.2.2.2.1 mX8_tell.2.2.2.2.1 ∈ am_T := List.mem_filter.mpr ⟨List.mem_of_getElem? (i := 712) rfl, rfl⟩
set_option maxHeartbeats 4000000 in
set_option maxRecDepth 100000 in
theorem tX8_tell (l : Launch) (d : Nat) {s0 : AS} {sE : AS} {rE : Unit} (hf : fX8_tell s0 = some (sE, rE)) : am_Ct l (d + 5) mX8_tell [.inr (.inr ((9, 0, 0), 0))] s0 sE none := by
  refine am_sim l (d + 4) (code := kX8_tell) (by decide +kernel) wX8_tell qX8_tell (Nat.le_of_ble_eq_true rfl) ?_
  intro X hX
  show X 0 [(0, .inr (.inr ((9, 0, 0), 0)))] [] s0
  unfold fX8_tell at hf
  refine am_blk hX 0 3 (And.intro rfl (And.intro (fun hb => ?_) (fun hb => ?_)))
  · have hf := am_it hf hb
    show X 8 [(0, .inr (.inr ((9, 0, 0), 0)))] [] s0
    obtain ⟨s2, v1, hcv1, hf⟩ := am_c_of hf
    obtain ⟨s4, v3, hcv3, hf⟩ := am_c_of hf
    obtain ⟨s6, v5, hcv5, hf⟩ := am_c_of hf
    refine am_blk hX 4 20 (And.intro rfl (And.intro rfl (And.intro rfl (And.intro rfl (And.intro rfl (And.intro rfl (Exists.intro s2 (Exists.intro none (And.intro (tX7_measure l (d + 1) hcv1) (And.intro rfl (And.intro rfl (Exists.intro s4 (Exists.intro none (And.intro (tX8_asItIs l (d + 2) hcv3) (And.intro rfl (And.intro rfl (And.intro rfl (And.intro rfl (And.intro rfl (Exists.intro s6 (Exists.intro none (And.intro (tX6_go l (d + 0) hcv5) (And.intro rfl (And.intro (Or.inr rfl) (am_nl (Z := fun s7 => X 50 [(0, .inr (.inr ((9, 0, 0), 0)))] [] s7) hf (fun s7 hf => ?_))))))))))))))))))))))))))
    refine am_blk hX 24 1 (And.intro rfl (am_rv hf))
  · have hf := am_if hf hb
    show X 7 [(0, .inr (.inr ((9, 0, 0), 0)))] [] s0
    refine am_blk hX 3 1 (And.intro rfl (am_rv hf))
def fX8_startsBy_L8 (o1 : Nat) : Nat → AS → Int32 → Int32 → Option (AS × Int32)
  | 0, _, _, _ => none
  | n8 + 1, s3, x4, x5 =>
    if (s3.1 25 1) ≤ x5 then (some (s3, x4)) else (am_c (fX8_asItIs s3) (fun (s7 : AS) (v6 : Unit) => am_let (am_si s7 172 0 x5) (fun (s8 : AS) => am_c (fX6_go s8 198 25 172) (fun (s10 : AS) (v9 : Unit) => am_g (¬ (x5 < 0 ∨ 7 ≤ x5.toNatClampNeg)) (am_g (¬ (0 : Int32) < 0 ∧ ¬ (0 : Int32) < 0 ∧ ¬ (8 : Int32) < 0 ∧ (0 : Int32).toNatClampNeg + (8 : Int32).toNatClampNeg ≤ 8 ∧ (0 : Int32).toNatClampNeg + (8 : Int32).toNatClampNeg ≤ 8) (am_let (am_sr s10 (208 + x5.toNatClampNeg) (va_cpy (s10.1 202) (s10.1 (208 + x5.toNatClampNeg)) (0 : Int32).toNatClampNeg (0 : Int32).toNatClampNeg (8 : Int32).toNatClampNeg)) (fun (s13 : AS) => am_r (fX8_agreesOnFalls s13 o1) (fun (v14 : Int32) => am_let (fun (x15 : Int32) => am_let (x5 + (1 : Int32)) (fun (x16 : Int32) => fX8_startsBy_L8 o1 n8 s13 x15 x16)) (fun J80 => if v14 = 0 then (J80 x4) else (am_let (x4 ||| ((1 : Int32) <<< (x5 &&& 31))) (fun (x17 : Int32) => J80 x17)))))))))))
def fX8_startsBy (s0 : AS) (o1 : Nat) : Option (AS × Int32) :=
  am_c (fX8_tell s0) (fun (s2 : AS) (v1 : Unit) => fX8_startsBy_L8 o1 am_fu s2 (0 : Int32) (0 : Int32))
def kX8_startsBy : List (Nat × Instr × Nat) := [(0, .aload_n 0, 1), (1, .invokevirtual 165, 3), (4, .iconst 0, 1), (5, .istore_n 2, 1), (6, .iconst 0, 1), (7, .istore_n 3, 1), (8, .iload_n 3, 1), (9, .aload_n 0, 1), (10, .getfield 29, 3), (13, .getfield 117, 3), (16, .if_icmp .ge 70, 3), (19, .aload_n 0, 1), (20, .invokevirtual 195, 3), (23, .aload_n 0, 1), (24, .getfield 68, 3), (27, .iload_n 3, 1), (28, .putfield 340, 3), (31, .aload_n 0, 1), (32, .getfield 75, 3), (35, .aload_n 0, 1), (36, .getfield 29, 3), (39, .aload_n 0, 1), (40, .getfield 68, 3), (43, .invokevirtual 198, 3), (46, .aload_n 0, 1), (47, .getfield 75, 3), (50, .getfield 228, 3), (53, .iconst 0, 1), (54, .aload_n 0, 1), (55, .getfield 80, 3), (58, .iload_n 3, 1), (59, .aaload, 1), (60, .iconst 0, 1), (61, .bipush 8, 2), (63, .invokestatic 341, 3), (66, .aload_n 0, 1), (67, .aload_n 1, 1), (68, .invokevirtual 347, 3), (71, .ifCond .eq 9, 3), (74, .iload_n 2, 1), (75, .iconst 1, 1), (76, .iload_n 3, 1), (77, .ishl, 1), (78, .ior, 1), (79, .istore_n 2, 1), (80, .iinc 3 1, 3), (83, .goto (-75), 3), (86, .iload_n 2, 1), (87, .ireturn, 1)]
theorem qX8_startsBy : ∀ q ∈ kX8_startsBy, decode mX8_startsBy.2.2.1 q.1 = .ok (q.2.1, q.2.2) ∧ am_iok mX8_startsBy.2.2.2.1 q.1 q.2.1 q.2.2 = true := by decide +kernel
set_option maxRecDepth 100000 in
theorem wX8_startsBy : Cond.code mX8_startsBy.2.1 mX8_startsBy.2.2.1 mX8_startsBy.2.2.2.1 mX8_startsBy.2.2.2.2.1 ∈ am_T := List.mem_filter.mpr ⟨List.mem_of_getElem? (i := 1094) rfl, rfl⟩
set_option maxHeartbeats 4000000 in
set_option maxRecDepth 100000 in
theorem tX8_startsBy (l : Launch) (d : Nat) {s0 : AS} {o1 : Nat} {sE : AS} {rE : Int32} (hf : fX8_startsBy s0 o1 = some (sE, rE)) : am_Ct l (d + 6) mX8_startsBy [.inr (.inr ((9, 0, 0), 0)), .inr (.inr ((6, 0, 0), o1))] s0 sE (some (.inl rE)) := by
  refine am_sim l (d + 5) (code := kX8_startsBy) (by decide +kernel) wX8_startsBy qX8_startsBy (Nat.le_of_ble_eq_true rfl) ?_
  intro X hX
  show X 0 [(0, .inr (.inr ((9, 0, 0), 0))), (1, .inr (.inr ((6, 0, 0), o1)))] [] s0
  unfold fX8_startsBy at hf
  obtain ⟨s2, v1, hcv1, hf⟩ := am_c_of hf
  have hL8 : ∀ (n8 : Nat) (s3 : AS) (x4 : Int32) (x5 : Int32), fX8_startsBy_L8 o1 n8 s3 x4 x5 = some (sE, rE) → X 8 [(0, .inr (.inr ((9, 0, 0), 0))), (1, .inr (.inr ((6, 0, 0), o1))), (2, .inl x4), (3, .inl x5)] [] s3 := by
    intro n8
    induction n8 with
    | zero => intro s3 x4 x5 hf; exact am_no (show none = some _ from hf)
    | succ n8 ih8 =>
      intro s3 x4 x5 hf
      refine am_blk hX 6 5 (And.intro rfl (And.intro rfl (And.intro (fun hb => ?_) (fun hb => ?_))))
      · have hf := am_it hf hb
        show X 86 [(0, .inr (.inr ((9, 0, 0), 0))), (1, .inr (.inr ((6, 0, 0), o1))), (2, .inl x4), (3, .inl x5)] [] s3
        refine am_blk hX 47 2 (am_ri hf)
      · have hf := am_if hf hb
        show X 19 [(0, .inr (.inr ((9, 0, 0), 0))), (1, .inr (.inr ((6, 0, 0), o1))), (2, .inl x4), (3, .inl x5)] [] s3
        obtain ⟨s7, v6, hcv6, hf⟩ := am_c_of hf
        refine am_blk hX 11 6 (And.intro rfl (And.intro rfl (Exists.intro s7 (Exists.intro none (And.intro (tX8_asItIs l (d + 3) hcv6) (And.intro rfl (And.intro rfl (am_nl (Z := fun s8 => X 31 [(0, .inr (.inr ((9, 0, 0), 0))), (1, .inr (.inr ((6, 0, 0), o1))), (2, .inl x4), (3, .inl x5)] [] s8) hf (fun s8 hf => ?_)))))))))
        obtain ⟨s10, v9, hcv9, hf⟩ := am_c_of hf
        obtain ⟨g11, hf⟩ := am_g_of hf
        obtain ⟨g12, hf⟩ := am_g_of hf
        refine am_blk hX 17 18 (And.intro rfl (And.intro rfl (And.intro rfl (And.intro rfl (And.intro rfl (Exists.intro s10 (Exists.intro none (And.intro (tX6_go l (d + 1) hcv9) (And.intro rfl (And.intro rfl (And.intro rfl (And.intro g11 (And.intro rfl (And.intro rfl (And.intro g12 (am_nl (Z := fun s13 => X 66 [(0, .inr (.inr ((9, 0, 0), 0))), (1, .inr (.inr ((6, 0, 0), o1))), (2, .inl x4), (3, .inl x5)] [] s13) hf (fun s13 hf => ?_)))))))))))))))))
        obtain ⟨v14, hcv14, hf⟩ := am_r_of hf
        refine am_jn hf (fun J80 => ∀ (x15 : Int32), J80 x15 = some (sE, rE) → X 80 [(0, .inr (.inr ((9, 0, 0), 0))), (1, .inr (.inr ((6, 0, 0), o1))), (2, .inl x15), (3, .inl x5)] [] s13) ?_ ?_
        · intro x15 hf
          refine am_blk hX 45 1 (am_nl (Z := fun x16 => X 83 [(3, .inl x16), (0, .inr (.inr ((9, 0, 0), 0))), (1, .inr (.inr ((6, 0, 0), o1))), (2, .inl x15)] [] s13) hf (fun x16 hf => ?_))
          refine am_blk hX 46 1 (?_)
          show X 8 [(3, .inl x16), (0, .inr (.inr ((9, 0, 0), 0))), (1, .inr (.inr ((6, 0, 0), o1))), (2, .inl x15)] [] s13
          exact am_wk hX [1, 2, 3, 0] (ih8 s13 x15 x16 hf)
        · intro J80 hJ80 hf
          refine am_blk hX 35 4 (And.intro rfl (And.intro rfl (Exists.intro s13 (Exists.intro (some (.inl v14)) (And.intro (tX8_agreesOnFalls l (d + 3) hcv14) (And.intro (fun hb => ?_) (fun hb => ?_)))))))
          · have hf := am_it hf hb
            show X 80 [(0, .inr (.inr ((9, 0, 0), 0))), (1, .inr (.inr ((6, 0, 0), o1))), (2, .inl x4), (3, .inl x5)] [] s13
            exact am_wk hX [0, 1, 2, 3] (hJ80 x4 hf)
          · have hf := am_if hf hb
            show X 74 [(0, .inr (.inr ((9, 0, 0), 0))), (1, .inr (.inr ((6, 0, 0), o1))), (2, .inl x4), (3, .inl x5)] [] s13
            refine am_blk hX 39 6 (am_nl (Z := fun x17 => X 80 [(2, .inl x17), (0, .inr (.inr ((9, 0, 0), 0))), (1, .inr (.inr ((6, 0, 0), o1))), (3, .inl x5)] [] s13) hf (fun x17 hf => ?_))
            exact am_wk hX [1, 2, 0, 3] (hJ80 x17 hf)
  refine am_blk hX 0 6 (And.intro rfl (And.intro rfl (Exists.intro s2 (Exists.intro none (And.intro (tX8_tell l (d + 0) hcv1) (?_))))))
  show X 8 [(3, .inl (0 : Int32)), (2, .inl (0 : Int32)), (0, .inr (.inr ((9, 0, 0), 0))), (1, .inr (.inr ((6, 0, 0), o1)))] [] s2
  exact am_wk hX [2, 3, 1, 0] (hL8 am_fu s2 (0 : Int32) (0 : Int32) hf)
def fX8_likeStarts_L6 (a1 : Int32) (a2 : Int32) (a3 : Int32) (s0 : AS) : Nat → Int32 → Int32 → Option Int32
  | 0, _, _ => none
  | n6 + 1, x1, x2 =>
    if (s0.1 25 1) ≤ x2 then (some x1) else (am_r (fX8_holds a1 x2) (fun (v3 : Int32) => am_let (fun (x4 : Int32) => am_let (x2 + (1 : Int32)) (fun (x5 : Int32) => fX8_likeStarts_L6 a1 a2 a3 s0 n6 x4 x5)) (fun J50 => if v3 = 0 then (J50 x1) else (am_g (¬ (x2 < 0 ∨ 7 ≤ x2.toNatClampNeg)) (am_g (¬ (a3 < 0 ∨ 8 ≤ a3.toNatClampNeg)) (am_g (¬ (a2 < 0 ∨ 7 ≤ a2.toNatClampNeg)) (am_g (¬ (a3 < 0 ∨ 8 ≤ a3.toNatClampNeg)) (if (s0.1 (208 + x2.toNatClampNeg) a3.toNatClampNeg) = (s0.1 (208 + a2.toNatClampNeg) a3.toNatClampNeg) then (am_let (x1 + (1 : Int32)) (fun (x10 : Int32) => J50 x10)) else (J50 x1)))))))))
def fX8_likeStarts (s0 : AS) (a1 : Int32) (a2 : Int32) (a3 : Int32) : Option Int32 :=
  fX8_likeStarts_L6 a1 a2 a3 s0 am_fu (0 : Int32) (0 : Int32)
def kX8_likeStarts : List (Nat × Instr × Nat) := [(0, .iconst 0, 1), (1, .istore 4, 2), (3, .iconst 0, 1), (4, .istore 5, 2), (6, .iload 5, 2), (8, .aload_n 0, 1), (9, .getfield 29, 3), (12, .getfield 117, 3), (15, .if_icmp .ge 41, 3), (18, .iload_n 1, 1), (19, .iload 5, 2), (21, .invokestatic 175, 3), (24, .ifCond .eq 26, 3), (27, .aload_n 0, 1), (28, .getfield 80, 3), (31, .iload 5, 2), (33, .aaload, 1), (34, .iload_n 3, 1), (35, .iaload, 1), (36, .aload_n 0, 1), (37, .getfield 80, 3), (40, .iload_n 2, 1), (41, .aaload, 1), (42, .iload_n 3, 1), (43, .iaload, 1), (44, .if_icmp .ne 6, 3), (47, .iinc 4 1, 3), (50, .iinc 5 1, 3), (53, .goto (-47), 3), (56, .iload 4, 2), (58, .ireturn, 1)]
theorem qX8_likeStarts : ∀ q ∈ kX8_likeStarts, decode mX8_likeStarts.2.2.1 q.1 = .ok (q.2.1, q.2.2) ∧ am_iok mX8_likeStarts.2.2.2.1 q.1 q.2.1 q.2.2 = true := by decide +kernel
set_option maxRecDepth 100000 in
theorem wX8_likeStarts : Cond.code mX8_likeStarts.2.1 mX8_likeStarts.2.2.1 mX8_likeStarts.2.2.2.1 mX8_likeStarts.2.2.2.2.1 ∈ am_T := List.mem_filter.mpr ⟨List.mem_of_getElem? (i := 1115) rfl, rfl⟩
set_option maxHeartbeats 4000000 in
set_option maxRecDepth 100000 in
theorem tX8_likeStarts (l : Launch) (d : Nat) {s0 : AS} {a1 : Int32} {a2 : Int32} {a3 : Int32} {rE : Int32} (hf : fX8_likeStarts s0 a1 a2 a3 = some rE) : am_Ct l (d + 2) mX8_likeStarts [.inr (.inr ((9, 0, 0), 0)), .inl a1, .inl a2, .inl a3] s0 s0 (some (.inl rE)) := by
  refine am_sim l (d + 1) (code := kX8_likeStarts) (by decide +kernel) wX8_likeStarts qX8_likeStarts (Nat.le_of_ble_eq_true rfl) ?_
  intro X hX
  show X 0 [(0, .inr (.inr ((9, 0, 0), 0))), (1, .inl a1), (2, .inl a2), (3, .inl a3)] [] s0
  unfold fX8_likeStarts at hf
  have hL6 : ∀ (n6 : Nat) (x1 : Int32) (x2 : Int32), fX8_likeStarts_L6 a1 a2 a3 s0 n6 x1 x2 = some rE → X 6 [(0, .inr (.inr ((9, 0, 0), 0))), (1, .inl a1), (2, .inl a2), (3, .inl a3), (4, .inl x1), (5, .inl x2)] [] s0 := by
    intro n6
    induction n6 with
    | zero => intro x1 x2 hf; exact am_no (show none = some _ from hf)
    | succ n6 ih6 =>
      intro x1 x2 hf
      refine am_blk hX 4 5 (And.intro rfl (And.intro rfl (And.intro (fun hb => ?_) (fun hb => ?_))))
      · have hf := am_it hf hb
        show X 56 [(0, .inr (.inr ((9, 0, 0), 0))), (1, .inl a1), (2, .inl a2), (3, .inl a3), (4, .inl x1), (5, .inl x2)] [] s0
        refine am_blk hX 29 2 (am_rpi hf)
      · have hf := am_if hf hb
        show X 18 [(0, .inr (.inr ((9, 0, 0), 0))), (1, .inl a1), (2, .inl a2), (3, .inl a3), (4, .inl x1), (5, .inl x2)] [] s0
        obtain ⟨v3, hcv3, hf⟩ := am_r_of hf
        refine am_jn hf (fun J50 => ∀ (x4 : Int32), J50 x4 = some rE → X 50 [(0, .inr (.inr ((9, 0, 0), 0))), (1, .inl a1), (2, .inl a2), (3, .inl a3), (4, .inl x4), (5, .inl x2)] [] s0) ?_ ?_
        · intro x4 hf
          refine am_blk hX 27 1 (am_nl (Z := fun x5 => X 53 [(5, .inl x5), (0, .inr (.inr ((9, 0, 0), 0))), (1, .inl a1), (2, .inl a2), (3, .inl a3), (4, .inl x4)] [] s0) hf (fun x5 hf => ?_))
          refine am_blk hX 28 1 (?_)
          show X 6 [(5, .inl x5), (0, .inr (.inr ((9, 0, 0), 0))), (1, .inl a1), (2, .inl a2), (3, .inl a3), (4, .inl x4)] [] s0
          exact am_wk hX [1, 2, 3, 4, 5, 0] (ih6 x4 x5 hf)
        · intro J50 hJ50 hf
          refine am_blk hX 9 4 (And.intro rfl (Exists.intro s0 (Exists.intro (some (.inl v3)) (And.intro (tX8_holds l (d + 0) hcv3) (And.intro (fun hb => ?_) (fun hb => ?_))))))
          · have hf := am_it hf hb
            show X 50 [(0, .inr (.inr ((9, 0, 0), 0))), (1, .inl a1), (2, .inl a2), (3, .inl a3), (4, .inl x1), (5, .inl x2)] [] s0
            exact am_wk hX [0, 1, 2, 3, 4, 5] (hJ50 x1 hf)
          · have hf := am_if hf hb
            show X 27 [(0, .inr (.inr ((9, 0, 0), 0))), (1, .inl a1), (2, .inl a2), (3, .inl a3), (4, .inl x1), (5, .inl x2)] [] s0
            obtain ⟨g6, hf⟩ := am_g_of hf
            obtain ⟨g7, hf⟩ := am_g_of hf
            obtain ⟨g8, hf⟩ := am_g_of hf
            obtain ⟨g9, hf⟩ := am_g_of hf
            refine am_blk hX 13 13 (And.intro rfl (And.intro g6 (And.intro rfl (And.intro g7 (And.intro rfl (And.intro g8 (And.intro rfl (And.intro g9 (And.intro (fun hb => ?_) (fun hb => ?_))))))))))
            · have hf := am_if hf hb
              show X 50 [(0, .inr (.inr ((9, 0, 0), 0))), (1, .inl a1), (2, .inl a2), (3, .inl a3), (4, .inl x1), (5, .inl x2)] [] s0
              exact am_wk hX [0, 1, 2, 3, 4, 5] (hJ50 x1 hf)
            · have hf := am_it hf hb
              show X 47 [(0, .inr (.inr ((9, 0, 0), 0))), (1, .inl a1), (2, .inl a2), (3, .inl a3), (4, .inl x1), (5, .inl x2)] [] s0
              refine am_blk hX 26 1 (am_nl (Z := fun x10 => X 50 [(4, .inl x10), (0, .inr (.inr ((9, 0, 0), 0))), (1, .inl a1), (2, .inl a2), (3, .inl a3), (5, .inl x2)] [] s0) hf (fun x10 hf => ?_))
              exact am_wk hX [1, 2, 3, 4, 0, 5] (hJ50 x10 hf)
  refine am_blk hX 0 4 (?_)
  show X 6 [(5, .inl (0 : Int32)), (4, .inl (0 : Int32)), (0, .inr (.inr ((9, 0, 0), 0))), (1, .inl a1), (2, .inl a2), (3, .inl a3)] [] s0
  exact am_wk hX [2, 3, 4, 5, 1, 0] (hL6 am_fu (0 : Int32) (0 : Int32) hf)
def fX8_leftAtWorst_L5 (a1 : Int32) (a2 : Int32) (s0 : AS) : Nat → Int32 → Int32 → Option Int32
  | 0, _, _ => none
  | n5 + 1, x1, x2 =>
    if (s0.1 25 1) ≤ x2 then (some x1) else (am_r (fX8_holds a1 x2) (fun (v3 : Int32) => am_let (fun (x4 : Int32) => am_let (x2 + (1 : Int32)) (fun (x5 : Int32) => fX8_leftAtWorst_L5 a1 a2 s0 n5 x4 x5)) (fun J39 => if v3 = 0 then (J39 x1) else (am_r (fX8_likeStarts s0 a1 x2 a2) (fun (v6 : Int32) => am_let (if x1 < v6 then v6 else x1) (fun (x7 : Int32) => J39 x7))))))
def fX8_leftAtWorst (s0 : AS) (a1 : Int32) (a2 : Int32) : Option Int32 :=
  fX8_leftAtWorst_L5 a1 a2 s0 am_fu (0 : Int32) (0 : Int32)
def kX8_leftAtWorst : List (Nat × Instr × Nat) := [(0, .iconst 0, 1), (1, .istore_n 3, 1), (2, .iconst 0, 1), (3, .istore 4, 2), (5, .iload 4, 2), (7, .aload_n 0, 1), (8, .getfield 29, 3), (11, .getfield 117, 3), (14, .if_icmp .ge 31, 3), (17, .iload_n 1, 1), (18, .iload 4, 2), (20, .invokestatic 175, 3), (23, .ifCond .eq 16, 3), (26, .iload_n 3, 1), (27, .aload_n 0, 1), (28, .iload_n 1, 1), (29, .iload 4, 2), (31, .iload_n 2, 1), (32, .invokevirtual 353, 3), (35, .invokestatic 269, 3), (38, .istore_n 3, 1), (39, .iinc 4 1, 3), (42, .goto (-37), 3), (45, .iload_n 3, 1), (46, .ireturn, 1)]
theorem qX8_leftAtWorst : ∀ q ∈ kX8_leftAtWorst, decode mX8_leftAtWorst.2.2.1 q.1 = .ok (q.2.1, q.2.2) ∧ am_iok mX8_leftAtWorst.2.2.2.1 q.1 q.2.1 q.2.2 = true := by decide +kernel
set_option maxRecDepth 100000 in
theorem wX8_leftAtWorst : Cond.code mX8_leftAtWorst.2.1 mX8_leftAtWorst.2.2.1 mX8_leftAtWorst.2.2.2.1 mX8_leftAtWorst.2.2.2.2.1 ∈ am_T := List.mem_filter.mpr ⟨List.mem_of_getElem? (i := 1111) rfl, rfl⟩
set_option maxHeartbeats 4000000 in
set_option maxRecDepth 100000 in
theorem tX8_leftAtWorst (l : Launch) (d : Nat) {s0 : AS} {a1 : Int32} {a2 : Int32} {rE : Int32} (hf : fX8_leftAtWorst s0 a1 a2 = some rE) : am_Ct l (d + 3) mX8_leftAtWorst [.inr (.inr ((9, 0, 0), 0)), .inl a1, .inl a2] s0 s0 (some (.inl rE)) := by
  refine am_sim l (d + 2) (code := kX8_leftAtWorst) (by decide +kernel) wX8_leftAtWorst qX8_leftAtWorst (Nat.le_of_ble_eq_true rfl) ?_
  intro X hX
  show X 0 [(0, .inr (.inr ((9, 0, 0), 0))), (1, .inl a1), (2, .inl a2)] [] s0
  unfold fX8_leftAtWorst at hf
  have hL5 : ∀ (n5 : Nat) (x1 : Int32) (x2 : Int32), fX8_leftAtWorst_L5 a1 a2 s0 n5 x1 x2 = some rE → X 5 [(0, .inr (.inr ((9, 0, 0), 0))), (1, .inl a1), (2, .inl a2), (3, .inl x1), (4, .inl x2)] [] s0 := by
    intro n5
    induction n5 with
    | zero => intro x1 x2 hf; exact am_no (show none = some _ from hf)
    | succ n5 ih5 =>
      intro x1 x2 hf
      refine am_blk hX 4 5 (And.intro rfl (And.intro rfl (And.intro (fun hb => ?_) (fun hb => ?_))))
      · have hf := am_it hf hb
        show X 45 [(0, .inr (.inr ((9, 0, 0), 0))), (1, .inl a1), (2, .inl a2), (3, .inl x1), (4, .inl x2)] [] s0
        refine am_blk hX 23 2 (am_rpi hf)
      · have hf := am_if hf hb
        show X 17 [(0, .inr (.inr ((9, 0, 0), 0))), (1, .inl a1), (2, .inl a2), (3, .inl x1), (4, .inl x2)] [] s0
        obtain ⟨v3, hcv3, hf⟩ := am_r_of hf
        refine am_jn hf (fun J39 => ∀ (x4 : Int32), J39 x4 = some rE → X 39 [(0, .inr (.inr ((9, 0, 0), 0))), (1, .inl a1), (2, .inl a2), (3, .inl x4), (4, .inl x2)] [] s0) ?_ ?_
        · intro x4 hf
          refine am_blk hX 21 1 (am_nl (Z := fun x5 => X 42 [(4, .inl x5), (0, .inr (.inr ((9, 0, 0), 0))), (1, .inl a1), (2, .inl a2), (3, .inl x4)] [] s0) hf (fun x5 hf => ?_))
          refine am_blk hX 22 1 (?_)
          show X 5 [(4, .inl x5), (0, .inr (.inr ((9, 0, 0), 0))), (1, .inl a1), (2, .inl a2), (3, .inl x4)] [] s0
          exact am_wk hX [1, 2, 3, 4, 0] (ih5 x4 x5 hf)
        · intro J39 hJ39 hf
          refine am_blk hX 9 4 (And.intro rfl (Exists.intro s0 (Exists.intro (some (.inl v3)) (And.intro (tX8_holds l (d + 1) hcv3) (And.intro (fun hb => ?_) (fun hb => ?_))))))
          · have hf := am_it hf hb
            show X 39 [(0, .inr (.inr ((9, 0, 0), 0))), (1, .inl a1), (2, .inl a2), (3, .inl x1), (4, .inl x2)] [] s0
            exact am_wk hX [0, 1, 2, 3, 4] (hJ39 x1 hf)
          · have hf := am_if hf hb
            show X 26 [(0, .inr (.inr ((9, 0, 0), 0))), (1, .inl a1), (2, .inl a2), (3, .inl x1), (4, .inl x2)] [] s0
            obtain ⟨v6, hcv6, hf⟩ := am_r_of hf
            refine am_blk hX 13 8 (And.intro rfl (And.intro rfl (Exists.intro s0 (Exists.intro (some (.inl v6)) (And.intro (tX8_likeStarts l (d + 0) hcv6) (And.intro rfl (am_nl (Z := fun x7 => X 39 [(3, .inl x7), (0, .inr (.inr ((9, 0, 0), 0))), (1, .inl a1), (2, .inl a2), (4, .inl x2)] [] s0) hf (fun x7 hf => ?_))))))))
            exact am_wk hX [1, 2, 3, 0, 4] (hJ39 x7 hf)
  refine am_blk hX 0 4 (?_)
  show X 5 [(4, .inl (0 : Int32)), (3, .inl (0 : Int32)), (0, .inr (.inr ((9, 0, 0), 0))), (1, .inl a1), (2, .inl a2)] [] s0
  exact am_wk hX [2, 3, 4, 1, 0] (hL5 am_fu (0 : Int32) (0 : Int32) hf)
def fX8_bestAsked_L10 (a1 : Int32) (s0 : AS) : Nat → Int32 → Int32 → Int32 → Option Int32
  | 0, _, _, _ => none
  | n10 + 1, x2, x3, x4 =>
    if (s0.1 25 6) ≤ x4 then (some x2) else (am_r (fX8_leftAtWorst s0 a1 x4) (fun (v5 : Int32) => am_let (fun (x6 : Int32) (x7 : Int32) => am_let (x4 + (1 : Int32)) (fun (x8 : Int32) => fX8_bestAsked_L10 a1 s0 n10 x6 x7 x8)) (fun J43 => if x3 ≤ v5 then (J43 x2 x3) else (J43 x4 v5))))
def fX8_bestAsked (s0 : AS) (a1 : Int32) : Option Int32 :=
  am_r (fJ6_bitCount_0f7a4 a1) (fun (v1 : Int32) => fX8_bestAsked_L10 a1 s0 am_fu (-1 : Int32) v1 (0 : Int32))
def kX8_bestAsked : List (Nat × Instr × Nat) := [(0, .iconst (-1), 1), (1, .istore_n 2, 1), (2, .iload_n 1, 1), (3, .invokestatic 252, 3), (6, .istore_n 3, 1), (7, .iconst 0, 1), (8, .istore 4, 2), (10, .iload 4, 2), (12, .aload_n 0, 1), (13, .getfield 29, 3), (16, .getfield 123, 3), (19, .if_icmp .ge 30, 3), (22, .aload_n 0, 1), (23, .iload_n 1, 1), (24, .iload 4, 2), (26, .invokevirtual 350, 3), (29, .istore 5, 2), (31, .iload 5, 2), (33, .iload_n 3, 1), (34, .if_icmp .ge 9, 3), (37, .iload 5, 2), (39, .istore_n 3, 1), (40, .iload 4, 2), (42, .istore_n 2, 1), (43, .iinc 4 1, 3), (46, .goto (-36), 3), (49, .iload_n 2, 1), (50, .ireturn, 1)]
theorem qX8_bestAsked : ∀ q ∈ kX8_bestAsked, decode mX8_bestAsked.2.2.1 q.1 = .ok (q.2.1, q.2.2) ∧ am_iok mX8_bestAsked.2.2.2.1 q.1 q.2.1 q.2.2 = true := by decide +kernel
set_option maxRecDepth 100000 in
theorem wX8_bestAsked : Cond.code mX8_bestAsked.2.1 mX8_bestAsked.2.2.1 mX8_bestAsked.2.2.2.1 mX8_bestAsked.2.2.2.2.1 ∈ am_T := List.mem_filter.mpr ⟨List.mem_of_getElem? (i := 1107) rfl, rfl⟩
set_option maxHeartbeats 4000000 in
set_option maxRecDepth 100000 in
theorem tX8_bestAsked (l : Launch) (d : Nat) {s0 : AS} {a1 : Int32} {rE : Int32} (hf : fX8_bestAsked s0 a1 = some rE) : am_Ct l (d + 4) mX8_bestAsked [.inr (.inr ((9, 0, 0), 0)), .inl a1] s0 s0 (some (.inl rE)) := by
  refine am_sim l (d + 3) (code := kX8_bestAsked) (by decide +kernel) wX8_bestAsked qX8_bestAsked (Nat.le_of_ble_eq_true rfl) ?_
  intro X hX
  show X 0 [(0, .inr (.inr ((9, 0, 0), 0))), (1, .inl a1)] [] s0
  unfold fX8_bestAsked at hf
  obtain ⟨v1, hcv1, hf⟩ := am_r_of hf
  have hL10 : ∀ (n10 : Nat) (x2 : Int32) (x3 : Int32) (x4 : Int32), fX8_bestAsked_L10 a1 s0 n10 x2 x3 x4 = some rE → X 10 [(0, .inr (.inr ((9, 0, 0), 0))), (1, .inl a1), (2, .inl x2), (3, .inl x3), (4, .inl x4)] [] s0 := by
    intro n10
    induction n10 with
    | zero => intro x2 x3 x4 hf; exact am_no (show none = some _ from hf)
    | succ n10 ih10 =>
      intro x2 x3 x4 hf
      refine am_blk hX 7 5 (And.intro rfl (And.intro rfl (And.intro (fun hb => ?_) (fun hb => ?_))))
      · have hf := am_it hf hb
        show X 49 [(0, .inr (.inr ((9, 0, 0), 0))), (1, .inl a1), (2, .inl x2), (3, .inl x3), (4, .inl x4)] [] s0
        refine am_blk hX 26 2 (am_rpi hf)
      · have hf := am_if hf hb
        show X 22 [(0, .inr (.inr ((9, 0, 0), 0))), (1, .inl a1), (2, .inl x2), (3, .inl x3), (4, .inl x4)] [] s0
        obtain ⟨v5, hcv5, hf⟩ := am_r_of hf
        refine am_jn hf (fun J43 => ∀ (x6 : Int32) (x7 : Int32), J43 x6 x7 = some rE → X 43 [(0, .inr (.inr ((9, 0, 0), 0))), (1, .inl a1), (2, .inl x6), (3, .inl x7), (4, .inl x4)] [] s0) ?_ ?_
        · intro x6 x7 hf
          refine am_blk hX 24 1 (am_nl (Z := fun x8 => X 46 [(4, .inl x8), (0, .inr (.inr ((9, 0, 0), 0))), (1, .inl a1), (2, .inl x6), (3, .inl x7)] [] s0) hf (fun x8 hf => ?_))
          refine am_blk hX 25 1 (?_)
          show X 10 [(4, .inl x8), (0, .inr (.inr ((9, 0, 0), 0))), (1, .inl a1), (2, .inl x6), (3, .inl x7)] [] s0
          exact am_wk hX [1, 2, 3, 4, 0] (ih10 x6 x7 x8 hf)
        · intro J43 hJ43 hf
          refine am_blk hX 12 8 (And.intro rfl (And.intro rfl (Exists.intro s0 (Exists.intro (some (.inl v5)) (And.intro (tX8_leftAtWorst l (d + 0) hcv5) (And.intro (fun hb => ?_) (fun hb => ?_)))))))
          · have hf := am_it hf hb
            show X 43 [(5, .inl v5), (0, .inr (.inr ((9, 0, 0), 0))), (1, .inl a1), (2, .inl x2), (3, .inl x3), (4, .inl x4)] [] s0
            exact am_wk hX [1, 2, 3, 4, 5] (hJ43 x2 x3 hf)
          · have hf := am_if hf hb
            show X 37 [(5, .inl v5), (0, .inr (.inr ((9, 0, 0), 0))), (1, .inl a1), (2, .inl x2), (3, .inl x3), (4, .inl x4)] [] s0
            refine am_blk hX 20 4 (?_)
            show X 43 [(2, .inl x4), (3, .inl v5), (5, .inl v5), (0, .inr (.inr ((9, 0, 0), 0))), (1, .inl a1), (4, .inl x4)] [] s0
            exact am_wk hX [3, 4, 0, 1, 5] (hJ43 x4 v5 hf)
  refine am_blk hX 0 7 (And.intro rfl (Exists.intro s0 (Exists.intro (some (.inl v1)) (And.intro (tJ6_bitCount_0f7a4 l (d + 2) hcv1) (?_)))))
  show X 10 [(4, .inl (0 : Int32)), (3, .inl v1), (2, .inl (-1 : Int32)), (0, .inr (.inr ((9, 0, 0), 0))), (1, .inl a1)] [] s0
  exact am_wk hX [3, 4, 2, 1, 0] (hL10 am_fu (-1 : Int32) v1 (0 : Int32) hf)
def fX8_ask (s0 : AS) (a1 : Int32) : Option (AS × Int32) :=
  am_r (fX8_lacksRow s0 a1) (fun (v1 : Int32) => if v1 = 0 then (am_g (¬ (a1 < 0 ∨ 4 ≤ a1.toNatClampNeg)) (am_r (fX8_tellsFalls s0 (130 + 2 * a1.toNatClampNeg)) (fun (v3 : Int32) => am_let (fun (s4 : AS) (x5 : Int32) => some (s4, x5)) (fun J44 => if v3 = 0 then (J44 s0 (-2 : Int32)) else (am_g (¬ (a1 < 0 ∨ 4 ≤ a1.toNatClampNeg)) (am_c (fX8_startsBy s0 (130 + 2 * a1.toNatClampNeg)) (fun (s8 : AS) (v7 : Int32) => am_r (fX8_bestAsked s8 v7) (fun (v9 : Int32) => J44 s8 v9)))))))) else (some (s0, v1)))
def kX8_ask : List (Nat × Instr × Nat) := [(0, .aload_n 0, 1), (1, .iload_n 1, 1), (2, .invokevirtual 326, 3), (5, .istore_n 2, 1), (6, .iload_n 2, 1), (7, .ifCond .eq 5, 3), (10, .iload_n 2, 1), (11, .ireturn, 1), (12, .aload_n 0, 1), (13, .aload_n 0, 1), (14, .getfield 47, 3), (17, .iload_n 1, 1), (18, .aaload, 1), (19, .invokevirtual 329, 3), (22, .ifCond .eq 20, 3), (25, .aload_n 0, 1), (26, .aload_n 0, 1), (27, .aload_n 0, 1), (28, .getfield 47, 3), (31, .iload_n 1, 1), (32, .aaload, 1), (33, .invokevirtual 333, 3), (36, .invokevirtual 337, 3), (39, .goto 5, 3), (42, .bipush (-2), 2), (44, .ireturn, 1)]
theorem qX8_ask : ∀ q ∈ kX8_ask, decode mX8_ask.2.2.1 q.1 = .ok (q.2.1, q.2.2) ∧ am_iok mX8_ask.2.2.2.1 q.1 q.2.1 q.2.2 = true := by decide +kernel
set_option maxRecDepth 100000 in
theorem wX8_ask : Cond.code mX8_ask.2.1 mX8_ask.2.2.1 mX8_ask.2.2.2.1 mX8_ask.2.2.2.2.1 ∈ am_T := List.mem_filter.mpr ⟨List.mem_of_getElem? (i := 1103) rfl, rfl⟩
set_option maxHeartbeats 4000000 in
set_option maxRecDepth 100000 in
theorem tX8_ask (l : Launch) (d : Nat) {s0 : AS} {a1 : Int32} {sE : AS} {rE : Int32} (hf : fX8_ask s0 a1 = some (sE, rE)) : am_Ct l (d + 7) mX8_ask [.inr (.inr ((9, 0, 0), 0)), .inl a1] s0 sE (some (.inl rE)) := by
  refine am_sim l (d + 6) (code := kX8_ask) (by decide +kernel) wX8_ask qX8_ask (Nat.le_of_ble_eq_true rfl) ?_
  intro X hX
  show X 0 [(0, .inr (.inr ((9, 0, 0), 0))), (1, .inl a1)] [] s0
  unfold fX8_ask at hf
  obtain ⟨v1, hcv1, hf⟩ := am_r_of hf
  refine am_blk hX 0 6 (And.intro rfl (And.intro rfl (Exists.intro s0 (Exists.intro (some (.inl v1)) (And.intro (tX8_lacksRow l (d + 4) hcv1) (And.intro (fun hb => ?_) (fun hb => ?_)))))))
  · have hf := am_it hf hb
    show X 12 [(2, .inl v1), (0, .inr (.inr ((9, 0, 0), 0))), (1, .inl a1)] [] s0
    obtain ⟨g2, hf⟩ := am_g_of hf
    obtain ⟨v3, hcv3, hf⟩ := am_r_of hf
    refine am_jn hf (fun J44 => ∀ (s4 : AS) (x5 : Int32), J44 s4 x5 = some (sE, rE) → X 44 [] [.inl x5] s4) ?_ ?_
    · intro s4 x5 hf
      refine am_blk hX 25 1 (am_ri hf)
    · intro J44 hJ44 hf
      refine am_blk hX 8 7 (And.intro rfl (And.intro g2 (And.intro rfl (And.intro rfl (Exists.intro s0 (Exists.intro (some (.inl v3)) (And.intro (tX8_tellsFalls l (d + 5) hcv3) (And.intro (fun hb => ?_) (fun hb => ?_)))))))))
      · have hf := am_it hf hb
        show X 42 [(2, .inl v1), (0, .inr (.inr ((9, 0, 0), 0))), (1, .inl a1)] [] s0
        refine am_blk hX 24 1 (?_)
        show X 44 [(2, .inl v1), (0, .inr (.inr ((9, 0, 0), 0))), (1, .inl a1)] [.inl (-2 : Int32)] s0
        exact am_wk hX [] (hJ44 s0 (-2 : Int32) hf)
      · have hf := am_if hf hb
        show X 25 [(2, .inl v1), (0, .inr (.inr ((9, 0, 0), 0))), (1, .inl a1)] [] s0
        obtain ⟨g6, hf⟩ := am_g_of hf
        obtain ⟨s8, v7, hcv7, hf⟩ := am_c_of hf
        obtain ⟨v9, hcv9, hf⟩ := am_r_of hf
        refine am_blk hX 15 9 (And.intro rfl (And.intro g6 (And.intro rfl (And.intro rfl (Exists.intro s8 (Exists.intro (some (.inl v7)) (And.intro (tX8_startsBy l (d + 0) hcv7) (And.intro rfl (And.intro rfl (Exists.intro s8 (Exists.intro (some (.inl v9)) (And.intro (tX8_bestAsked l (d + 2) hcv9) (?_)))))))))))))
        show X 44 [(2, .inl v1), (0, .inr (.inr ((9, 0, 0), 0))), (1, .inl a1)] [.inl v9] s8
        exact am_wk hX [] (hJ44 s8 v9 hf)
  · have hf := am_if hf hb
    show X 10 [(2, .inl v1), (0, .inr (.inr ((9, 0, 0), 0))), (1, .inl a1)] [] s0
    refine am_blk hX 6 2 (am_ri hf)
def fX8_at (s0 : AS) (a1 : Int32) : Option (AS × Int32) :=
  am_r (fX8_isStep s0 a1) (fun (v1 : Int32) => if v1 = 0 then (some (s0, (-2 : Int32))) else (am_c (fX8_tell s0) (fun (s3 : AS) (v2 : Unit) => am_g (¬ (a1 < 0 ∨ 61 ≤ a1.toNatClampNeg)) (some (s3, s3.1 164 a1.toNatClampNeg)))))
def kX8_at : List (Nat × Instr × Nat) := [(0, .aload_n 0, 1), (1, .iload_n 1, 1), (2, .invokevirtual 209, 3), (5, .ifCond .ne 6, 3), (8, .bipush (-2), 2), (10, .ireturn, 1), (11, .aload_n 0, 1), (12, .invokevirtual 165, 3), (15, .aload_n 0, 1), (16, .getfield 61, 3), (19, .getfield 212, 3), (22, .iload_n 1, 1), (23, .iaload, 1), (24, .ireturn, 1)]
theorem qX8_at : ∀ q ∈ kX8_at, decode mX8_at.2.2.1 q.1 = .ok (q.2.1, q.2.2) ∧ am_iok mX8_at.2.2.2.1 q.1 q.2.1 q.2.2 = true := by decide +kernel
set_option maxRecDepth 100000 in
theorem wX8_at : Cond.code mX8_at.2.1 mX8_at.2.2.1 mX8_at.2.2.2.1 mX8_at.2.2.2.2.1 ∈ am_T := List.mem_filter.mpr ⟨List.mem_of_getElem? (i := 838) rfl, rfl⟩
set_option maxHeartbeats 4000000 in
set_option maxRecDepth 100000 in
theorem tX8_at (l : Launch) (d : Nat) {s0 : AS} {a1 : Int32} {sE : AS} {rE : Int32} (hf : fX8_at s0 a1 = some (sE, rE)) : am_Ct l (d + 6) mX8_at [.inr (.inr ((9, 0, 0), 0)), .inl a1] s0 sE (some (.inl rE)) := by
  refine am_sim l (d + 5) (code := kX8_at) (by decide +kernel) wX8_at qX8_at (Nat.le_of_ble_eq_true rfl) ?_
  intro X hX
  show X 0 [(0, .inr (.inr ((9, 0, 0), 0))), (1, .inl a1)] [] s0
  unfold fX8_at at hf
  obtain ⟨v1, hcv1, hf⟩ := am_r_of hf
  refine am_blk hX 0 4 (And.intro rfl (And.intro rfl (Exists.intro s0 (Exists.intro (some (.inl v1)) (And.intro (tX8_isStep l (d + 3) hcv1) (And.intro (fun hb => ?_) (fun hb => ?_)))))))
  · have hf := am_if hf hb
    show X 11 [(0, .inr (.inr ((9, 0, 0), 0))), (1, .inl a1)] [] s0
    obtain ⟨s3, v2, hcv2, hf⟩ := am_c_of hf
    obtain ⟨g4, hf⟩ := am_g_of hf
    refine am_blk hX 6 8 (And.intro rfl (And.intro rfl (Exists.intro s3 (Exists.intro none (And.intro (tX8_tell l (d + 0) hcv2) (And.intro rfl (And.intro rfl (And.intro rfl (And.intro g4 (am_ri hf))))))))))
  · have hf := am_it hf hb
    show X 8 [(0, .inr (.inr ((9, 0, 0), 0))), (1, .inl a1)] [] s0
    refine am_blk hX 4 2 (am_ri hf)
def fX8_back (s0 : AS) (a1 : Int32) : Option (AS × Int32) :=
  am_let (some (s0, (-2 : Int32))) (fun J9 => if a1 < 0 then (J9) else (if a1 < (3 : Int32) then (am_g (¬ (a1 < 0 ∨ 3 ≤ a1.toNatClampNeg)) (if (s0.1 (51 + 26 * a1.toNatClampNeg) 0) = 0 then (some (s0, (-6 : Int32))) else (am_g (¬ (a1 < 0 ∨ 3 ≤ a1.toNatClampNeg)) (am_c (fX3_take s0 25 (51 + 26 * a1.toNatClampNeg + 1)) (fun (s4 : AS) (v3 : Unit) => am_g (¬ (a1 < 0 ∨ 3 ≤ a1.toNatClampNeg)) (am_c (fX0_take s4 47 (51 + 26 * a1.toNatClampNeg + 23)) (fun (s7 : AS) (v6 : Unit) => am_let (am_si s7 0 8 (0 : Int32)) (fun (s8 : AS) => some (s8, (0 : Int32)))))))))) else (J9)))
def kX8_back : List (Nat × Instr × Nat) := [(0, .iload_n 1, 1), (1, .ifCond .lt 8, 3), (4, .iload_n 1, 1), (5, .iconst 3, 1), (6, .if_icmp .lt 6, 3), (9, .bipush (-2), 2), (11, .ireturn, 1), (12, .aload_n 0, 1), (13, .getfield 41, 3), (16, .iload_n 1, 1), (17, .aaload, 1), (18, .getfield 443, 3), (21, .ifCond .ne 6, 3), (24, .bipush (-6), 2), (26, .ireturn, 1), (27, .aload_n 0, 1), (28, .getfield 29, 3), (31, .aload_n 0, 1), (32, .getfield 41, 3), (35, .iload_n 1, 1), (36, .aaload, 1), (37, .getfield 444, 3), (40, .invokevirtual 100, 3), (43, .aload_n 0, 1), (44, .getfield 35, 3), (47, .aload_n 0, 1), (48, .getfield 41, 3), (51, .iload_n 1, 1), (52, .aaload, 1), (53, .getfield 445, 3), (56, .invokevirtual 446, 3), (59, .aload_n 0, 1), (60, .iconst 0, 1), (61, .putfield 107, 3), (64, .iconst 0, 1), (65, .ireturn, 1)]
theorem qX8_back : ∀ q ∈ kX8_back, decode mX8_back.2.2.1 q.1 = .ok (q.2.1, q.2.2) ∧ am_iok mX8_back.2.2.2.1 q.1 q.2.1 q.2.2 = true := by decide +kernel
set_option maxRecDepth 100000 in
theorem wX8_back : Cond.code mX8_back.2.1 mX8_back.2.2.1 mX8_back.2.2.2.1 mX8_back.2.2.2.2.1 ∈ am_T := List.mem_filter.mpr ⟨List.mem_of_getElem? (i := 1261) rfl, rfl⟩
set_option maxHeartbeats 4000000 in
set_option maxRecDepth 100000 in
theorem tX8_back (l : Launch) (d : Nat) {s0 : AS} {a1 : Int32} {sE : AS} {rE : Int32} (hf : fX8_back s0 a1 = some (sE, rE)) : am_Ct l (d + 2) mX8_back [.inr (.inr ((9, 0, 0), 0)), .inl a1] s0 sE (some (.inl rE)) := by
  refine am_sim l (d + 1) (code := kX8_back) (by decide +kernel) wX8_back qX8_back (Nat.le_of_ble_eq_true rfl) ?_
  intro X hX
  show X 0 [(0, .inr (.inr ((9, 0, 0), 0))), (1, .inl a1)] [] s0
  unfold fX8_back at hf
  refine am_jn hf (fun J9 => J9 = some (sE, rE) → X 9 [] [] s0) ?_ ?_
  · intro hf
    refine am_blk hX 5 2 (am_ri hf)
  · intro J9 hJ9 hf
    refine am_blk hX 0 2 (And.intro (fun hb => ?_) (fun hb => ?_))
    · have hf := am_it hf hb
      show X 9 [(0, .inr (.inr ((9, 0, 0), 0))), (1, .inl a1)] [] s0
      exact am_wk hX [] (hJ9 hf)
    · have hf := am_if hf hb
      show X 4 [(0, .inr (.inr ((9, 0, 0), 0))), (1, .inl a1)] [] s0
      refine am_blk hX 2 3 (And.intro (fun hb => ?_) (fun hb => ?_))
      · have hf := am_it hf hb
        show X 12 [(0, .inr (.inr ((9, 0, 0), 0))), (1, .inl a1)] [] s0
        obtain ⟨g1, hf⟩ := am_g_of hf
        refine am_blk hX 7 6 (And.intro rfl (And.intro g1 (And.intro rfl (And.intro (fun hb => ?_) (fun hb => ?_)))))
        · have hf := am_if hf hb
          show X 27 [(0, .inr (.inr ((9, 0, 0), 0))), (1, .inl a1)] [] s0
          obtain ⟨g2, hf⟩ := am_g_of hf
          obtain ⟨s4, v3, hcv3, hf⟩ := am_c_of hf
          obtain ⟨g5, hf⟩ := am_g_of hf
          obtain ⟨s7, v6, hcv6, hf⟩ := am_c_of hf
          refine am_blk hX 15 19 (And.intro rfl (And.intro rfl (And.intro g2 (And.intro rfl (And.intro rfl (And.intro rfl (Exists.intro s4 (Exists.intro none (And.intro (tX3_take l (d + 0) hcv3) (And.intro rfl (And.intro rfl (And.intro g5 (And.intro rfl (And.intro rfl (And.intro rfl (Exists.intro s7 (Exists.intro none (And.intro (tX0_take l (d + 0) hcv6) (And.intro rfl (And.intro (Or.inl rfl) (am_nl (Z := fun s8 => X 64 [(0, .inr (.inr ((9, 0, 0), 0))), (1, .inl a1)] [] s8) hf (fun s8 hf => ?_))))))))))))))))))))))
          refine am_blk hX 34 2 (am_ri hf)
        · have hf := am_it hf hb
          show X 24 [(0, .inr (.inr ((9, 0, 0), 0))), (1, .inl a1)] [] s0
          refine am_blk hX 13 2 (am_ri hf)
      · have hf := am_if hf hb
        show X 9 [(0, .inr (.inr ((9, 0, 0), 0))), (1, .inl a1)] [] s0
        exact am_wk hX [] (hJ9 hf)
def fX8_isRoad (s0 : AS) (a1 : Int32) : Option Int32 :=
  am_let (fun (x1 : Int32) => am_g (x1 = 0 ∨ x1 = 1) (some x1)) (fun J20 => am_let (J20 (0 : Int32)) (fun J19 => if a1 < 0 then (J19) else (if (s0.1 25 5) ≤ a1 then (J19) else (J20 (1 : Int32)))))
def kX8_isRoad : List (Nat × Instr × Nat) := [(0, .iload_n 1, 1), (1, .ifCond .lt 18, 3), (4, .iload_n 1, 1), (5, .aload_n 0, 1), (6, .getfield 29, 3), (9, .getfield 120, 3), (12, .if_icmp .ge 7, 3), (15, .iconst 1, 1), (16, .goto 4, 3), (19, .iconst 0, 1), (20, .ireturn, 1)]
theorem qX8_isRoad : ∀ q ∈ kX8_isRoad, decode mX8_isRoad.2.2.1 q.1 = .ok (q.2.1, q.2.2) ∧ am_iok mX8_isRoad.2.2.2.1 q.1 q.2.1 q.2.2 = true := by decide +kernel
set_option maxRecDepth 100000 in
theorem wX8_isRoad : Cond.code mX8_isRoad.2.1 mX8_isRoad.2.2.1 mX8_isRoad.2.2.2.1 mX8_isRoad.2.2.2.2.1 ∈ am_T := List.mem_filter.mpr ⟨List.mem_of_getElem? (i := 680) rfl, rfl⟩
set_option maxHeartbeats 4000000 in
set_option maxRecDepth 100000 in
theorem tX8_isRoad (l : Launch) (d : Nat) {s0 : AS} {a1 : Int32} {rE : Int32} (hf : fX8_isRoad s0 a1 = some rE) : am_Ct l (d + 1) mX8_isRoad [.inr (.inr ((9, 0, 0), 0)), .inl a1] s0 s0 (some (.inl rE)) := by
  refine am_sim l (d + 0) (code := kX8_isRoad) (by decide +kernel) wX8_isRoad qX8_isRoad (Nat.le_of_ble_eq_true rfl) ?_
  intro X hX
  show X 0 [(0, .inr (.inr ((9, 0, 0), 0))), (1, .inl a1)] [] s0
  unfold fX8_isRoad at hf
  refine am_jn hf (fun J20 => ∀ (x1 : Int32), J20 x1 = some rE → X 20 [] [.inl x1] s0) ?_ ?_
  · intro x1 hf
    obtain ⟨g2, hf⟩ := am_g_of hf
    refine am_blk hX 10 1 (And.intro g2 (am_rpi hf))
  · intro J20 hJ20 hf
    refine am_jn hf (fun J19 => J19 = some rE → X 19 [] [] s0) ?_ ?_
    · intro hf
      refine am_blk hX 9 1 (?_)
      show X 20 [] [.inl (0 : Int32)] s0
      exact am_wk hX [] (hJ20 (0 : Int32) hf)
    · intro J19 hJ19 hf
      refine am_blk hX 0 2 (And.intro (fun hb => ?_) (fun hb => ?_))
      · have hf := am_it hf hb
        show X 19 [(0, .inr (.inr ((9, 0, 0), 0))), (1, .inl a1)] [] s0
        exact am_wk hX [] (hJ19 hf)
      · have hf := am_if hf hb
        show X 4 [(0, .inr (.inr ((9, 0, 0), 0))), (1, .inl a1)] [] s0
        refine am_blk hX 2 5 (And.intro rfl (And.intro rfl (And.intro (fun hb => ?_) (fun hb => ?_))))
        · have hf := am_it hf hb
          show X 19 [(0, .inr (.inr ((9, 0, 0), 0))), (1, .inl a1)] [] s0
          exact am_wk hX [] (hJ19 hf)
        · have hf := am_if hf hb
          show X 15 [(0, .inr (.inr ((9, 0, 0), 0))), (1, .inl a1)] [] s0
          refine am_blk hX 7 2 (?_)
          show X 20 [(0, .inr (.inr ((9, 0, 0), 0))), (1, .inl a1)] [.inl (1 : Int32)] s0
          exact am_wk hX [] (hJ20 (1 : Int32) hf)
def fX8_bar (s0 : AS) (a1 : Int32) (a2 : Int32) : Option (AS × Int32) :=
  am_r (fX8_isRoad s0 a1) (fun (v1 : Int32) => am_let (some (s0, (-2 : Int32))) (fun J16 => if v1 = 0 then (J16) else (am_r (fX8_isOnOrOff a2) (fun (v2 : Int32) => if v2 = 0 then (J16) else (if (s0.1 47 0) < (40 : Int32) then (am_r (fX8_holds (s0.1 47 2) a1) (fun (v3 : Int32) => am_let (fun (x4 : Int32) => am_c (fX0_keep s0 47) (fun (s6 : AS) (v5 : Unit) => am_let (fun (x7 : Int32) => am_let (am_si s6 47 2 x7) (fun (s8 : AS) => am_let (am_si s8 0 8 (0 : Int32)) (fun (s9 : AS) => some (s9, x4)))) (fun J96 => if a2 = 0 then (J96 ((s6.1 47 2) &&& (((1 : Int32) <<< (a1 &&& 31)) ^^^ (-1 : Int32)))) else (J96 ((s6.1 47 2) ||| ((1 : Int32) <<< (a1 &&& 31))))))) (fun J53 => if v3 = 0 then (J53 (0 : Int32)) else (J53 (1 : Int32))))) else (some (s0, (-5 : Int32))))))))
def kX8_bar : List (Nat × Instr × Nat) := [(0, .aload_n 0, 1), (1, .iload_n 1, 1), (2, .invokevirtual 130, 3), (5, .ifCond .eq 11, 3), (8, .aload_n 0, 1), (9, .iload_n 2, 1), (10, .invokevirtual 434, 3), (13, .ifCond .ne 6, 3), (16, .bipush (-2), 2), (18, .ireturn, 1), (19, .aload_n 0, 1), (20, .getfield 35, 3), (23, .getfield 152, 3), (26, .bipush 40, 2), (28, .if_icmp .lt 6, 3), (31, .bipush (-5), 2), (33, .ireturn, 1), (34, .aload_n 0, 1), (35, .getfield 35, 3), (38, .getfield 188, 3), (41, .iload_n 1, 1), (42, .invokestatic 175, 3), (45, .ifCond .eq 7, 3), (48, .iconst 1, 1), (49, .goto 4, 3), (52, .iconst 0, 1), (53, .istore_n 3, 1), (54, .aload_n 0, 1), (55, .getfield 35, 3), (58, .invokevirtual 437, 3), (61, .aload_n 0, 1), (62, .getfield 35, 3), (65, .iload_n 2, 1), (66, .ifCond .ne 19, 3), (69, .aload_n 0, 1), (70, .getfield 35, 3), (73, .getfield 188, 3), (76, .iconst 1, 1), (77, .iload_n 1, 1), (78, .ishl, 1), (79, .iconst (-1), 1), (80, .ixor, 1), (81, .iand, 1), (82, .goto 14, 3), (85, .aload_n 0, 1), (86, .getfield 35, 3), (89, .getfield 188, 3), (92, .iconst 1, 1), (93, .iload_n 1, 1), (94, .ishl, 1), (95, .ior, 1), (96, .putfield 188, 3), (99, .aload_n 0, 1), (100, .iconst 0, 1), (101, .putfield 107, 3), (104, .iload_n 3, 1), (105, .ireturn, 1)]
theorem qX8_bar : ∀ q ∈ kX8_bar, decode mX8_bar.2.2.1 q.1 = .ok (q.2.1, q.2.2) ∧ am_iok mX8_bar.2.2.2.1 q.1 q.2.1 q.2.2 = true := by decide +kernel
set_option maxRecDepth 100000 in
theorem wX8_bar : Cond.code mX8_bar.2.1 mX8_bar.2.2.1 mX8_bar.2.2.2.1 mX8_bar.2.2.2.2.1 ∈ am_T := List.mem_filter.mpr ⟨List.mem_of_getElem? (i := 1220) rfl, rfl⟩
set_option maxHeartbeats 4000000 in
set_option maxRecDepth 100000 in
theorem tX8_bar (l : Launch) (d : Nat) {s0 : AS} {a1 : Int32} {a2 : Int32} {sE : AS} {rE : Int32} (hf : fX8_bar s0 a1 a2 = some (sE, rE)) : am_Ct l (d + 2) mX8_bar [.inr (.inr ((9, 0, 0), 0)), .inl a1, .inl a2] s0 sE (some (.inl rE)) := by
  refine am_sim l (d + 1) (code := kX8_bar) (by decide +kernel) wX8_bar qX8_bar (Nat.le_of_ble_eq_true rfl) ?_
  intro X hX
  show X 0 [(0, .inr (.inr ((9, 0, 0), 0))), (1, .inl a1), (2, .inl a2)] [] s0
  unfold fX8_bar at hf
  obtain ⟨v1, hcv1, hf⟩ := am_r_of hf
  refine am_jn hf (fun J16 => J16 = some (sE, rE) → X 16 [] [] s0) ?_ ?_
  · intro hf
    refine am_blk hX 8 2 (am_ri hf)
  · intro J16 hJ16 hf
    refine am_blk hX 0 4 (And.intro rfl (And.intro rfl (Exists.intro s0 (Exists.intro (some (.inl v1)) (And.intro (tX8_isRoad l (d + 0) hcv1) (And.intro (fun hb => ?_) (fun hb => ?_)))))))
    · have hf := am_it hf hb
      show X 16 [(0, .inr (.inr ((9, 0, 0), 0))), (1, .inl a1), (2, .inl a2)] [] s0
      exact am_wk hX [] (hJ16 hf)
    · have hf := am_if hf hb
      show X 8 [(0, .inr (.inr ((9, 0, 0), 0))), (1, .inl a1), (2, .inl a2)] [] s0
      obtain ⟨v2, hcv2, hf⟩ := am_r_of hf
      refine am_blk hX 4 4 (And.intro rfl (And.intro rfl (Exists.intro s0 (Exists.intro (some (.inl v2)) (And.intro (tX8_isOnOrOff l (d + 0) hcv2) (And.intro (fun hb => ?_) (fun hb => ?_)))))))
      · have hf := am_if hf hb
        show X 19 [(0, .inr (.inr ((9, 0, 0), 0))), (1, .inl a1), (2, .inl a2)] [] s0
        refine am_blk hX 10 5 (And.intro rfl (And.intro rfl (And.intro (fun hb => ?_) (fun hb => ?_))))
        · have hf := am_it hf hb
          show X 34 [(0, .inr (.inr ((9, 0, 0), 0))), (1, .inl a1), (2, .inl a2)] [] s0
          obtain ⟨v3, hcv3, hf⟩ := am_r_of hf
          refine am_jn hf (fun J53 => ∀ (x4 : Int32), J53 x4 = some (sE, rE) → X 53 [(0, .inr (.inr ((9, 0, 0), 0))), (1, .inl a1), (2, .inl a2)] [.inl x4] s0) ?_ ?_
          · intro x4 hf
            obtain ⟨s6, v5, hcv5, hf⟩ := am_c_of hf
            refine am_jn hf (fun J96 => ∀ (x7 : Int32), J96 x7 = some (sE, rE) → X 96 [(0, .inr (.inr ((9, 0, 0), 0))), (3, .inl x4)] [.inl x7, .inr (.inr ((1, 0, 0), 47))] s6) ?_ ?_
            · intro x7 hf
              refine am_blk hX 51 1 (And.intro rfl (am_nl (Z := fun s8 => X 99 [(0, .inr (.inr ((9, 0, 0), 0))), (3, .inl x4)] [] s8) hf (fun s8 hf => ?_)))
              refine am_blk hX 52 3 (And.intro rfl (And.intro (Or.inl rfl) (am_nl (Z := fun s9 => X 104 [(0, .inr (.inr ((9, 0, 0), 0))), (3, .inl x4)] [] s9) hf (fun s9 hf => ?_))))
              refine am_blk hX 55 2 (am_ri hf)
            · intro J96 hJ96 hf
              refine am_blk hX 26 8 (And.intro rfl (And.intro rfl (And.intro rfl (Exists.intro s6 (Exists.intro none (And.intro (tX0_keep l (d + 0) hcv5) (And.intro rfl (And.intro (fun hb => ?_) (fun hb => ?_)))))))))
              · have hf := am_if hf hb
                show X 85 [(3, .inl x4), (0, .inr (.inr ((9, 0, 0), 0))), (1, .inl a1), (2, .inl a2)] [.inr (.inr ((1, 0, 0), 47))] s6
                refine am_blk hX 44 7 (And.intro rfl (And.intro rfl (?_)))
                show X 96 [(3, .inl x4), (0, .inr (.inr ((9, 0, 0), 0))), (1, .inl a1), (2, .inl a2)] [.inl ((s6.1 47 2) ||| ((1 : Int32) <<< (a1 &&& 31))), .inr (.inr ((1, 0, 0), 47))] s6
                exact am_wk hX [1, 0] (hJ96 ((s6.1 47 2) ||| ((1 : Int32) <<< (a1 &&& 31))) hf)
              · have hf := am_it hf hb
                show X 69 [(3, .inl x4), (0, .inr (.inr ((9, 0, 0), 0))), (1, .inl a1), (2, .inl a2)] [.inr (.inr ((1, 0, 0), 47))] s6
                refine am_blk hX 34 10 (And.intro rfl (And.intro rfl (?_)))
                show X 96 [(3, .inl x4), (0, .inr (.inr ((9, 0, 0), 0))), (1, .inl a1), (2, .inl a2)] [.inl ((s6.1 47 2) &&& (((1 : Int32) <<< (a1 &&& 31)) ^^^ (-1 : Int32))), .inr (.inr ((1, 0, 0), 47))] s6
                exact am_wk hX [1, 0] (hJ96 ((s6.1 47 2) &&& (((1 : Int32) <<< (a1 &&& 31)) ^^^ (-1 : Int32))) hf)
          · intro J53 hJ53 hf
            refine am_blk hX 17 6 (And.intro rfl (And.intro rfl (And.intro rfl (Exists.intro s0 (Exists.intro (some (.inl v3)) (And.intro (tX8_holds l (d + 0) hcv3) (And.intro (fun hb => ?_) (fun hb => ?_))))))))
            · have hf := am_it hf hb
              show X 52 [(0, .inr (.inr ((9, 0, 0), 0))), (1, .inl a1), (2, .inl a2)] [] s0
              refine am_blk hX 25 1 (?_)
              show X 53 [(0, .inr (.inr ((9, 0, 0), 0))), (1, .inl a1), (2, .inl a2)] [.inl (0 : Int32)] s0
              exact am_wk hX [0, 1, 2] (hJ53 (0 : Int32) hf)
            · have hf := am_if hf hb
              show X 48 [(0, .inr (.inr ((9, 0, 0), 0))), (1, .inl a1), (2, .inl a2)] [] s0
              refine am_blk hX 23 2 (?_)
              show X 53 [(0, .inr (.inr ((9, 0, 0), 0))), (1, .inl a1), (2, .inl a2)] [.inl (1 : Int32)] s0
              exact am_wk hX [0, 1, 2] (hJ53 (1 : Int32) hf)
        · have hf := am_if hf hb
          show X 31 [(0, .inr (.inr ((9, 0, 0), 0))), (1, .inl a1), (2, .inl a2)] [] s0
          refine am_blk hX 15 2 (am_ri hf)
      · have hf := am_it hf hb
        show X 16 [(0, .inr (.inr ((9, 0, 0), 0))), (1, .inl a1), (2, .inl a2)] [] s0
        exact am_wk hX [] (hJ16 hf)
def fX8_barred (s0 : AS) : Option Int32 :=
  am_r (fX8_isMarch s0) (fun (v1 : Int32) => am_let (fun (x2 : Int32) => some x2) (fun J19 => if v1 = 0 then (J19 (-2 : Int32)) else (J19 (s0.1 47 2))))
def kX8_barred : List (Nat × Instr × Nat) := [(0, .aload_n 0, 1), (1, .invokevirtual 126, 3), (4, .ifCond .eq 13, 3), (7, .aload_n 0, 1), (8, .getfield 35, 3), (11, .getfield 188, 3), (14, .goto 5, 3), (17, .bipush (-2), 2), (19, .ireturn, 1)]
theorem qX8_barred : ∀ q ∈ kX8_barred, decode mX8_barred.2.2.1 q.1 = .ok (q.2.1, q.2.2) ∧ am_iok mX8_barred.2.2.2.1 q.1 q.2.1 q.2.2 = true := by decide +kernel
set_option maxRecDepth 100000 in
theorem wX8_barred : Cond.code mX8_barred.2.1 mX8_barred.2.2.1 mX8_barred.2.2.2.1 mX8_barred.2.2.2.2.1 ∈ am_T := List.mem_filter.mpr ⟨List.mem_of_getElem? (i := 1228) rfl, rfl⟩
set_option maxHeartbeats 4000000 in
set_option maxRecDepth 100000 in
theorem tX8_barred (l : Launch) (d : Nat) {s0 : AS} {rE : Int32} (hf : fX8_barred s0 = some rE) : am_Ct l (d + 2) mX8_barred [.inr (.inr ((9, 0, 0), 0))] s0 s0 (some (.inl rE)) := by
  refine am_sim l (d + 1) (code := kX8_barred) (by decide +kernel) wX8_barred qX8_barred (Nat.le_of_ble_eq_true rfl) ?_
  intro X hX
  show X 0 [(0, .inr (.inr ((9, 0, 0), 0)))] [] s0
  unfold fX8_barred at hf
  obtain ⟨v1, hcv1, hf⟩ := am_r_of hf
  refine am_jn hf (fun J19 => ∀ (x2 : Int32), J19 x2 = some rE → X 19 [] [.inl x2] s0) ?_ ?_
  · intro x2 hf
    refine am_blk hX 8 1 (am_rpi hf)
  · intro J19 hJ19 hf
    refine am_blk hX 0 3 (And.intro rfl (And.intro rfl (Exists.intro s0 (Exists.intro (some (.inl v1)) (And.intro (tX8_isMarch l (d + 0) hcv1) (And.intro (fun hb => ?_) (fun hb => ?_)))))))
    · have hf := am_it hf hb
      show X 17 [(0, .inr (.inr ((9, 0, 0), 0)))] [] s0
      refine am_blk hX 7 1 (?_)
      show X 19 [(0, .inr (.inr ((9, 0, 0), 0)))] [.inl (-2 : Int32)] s0
      exact am_wk hX [] (hJ19 (-2 : Int32) hf)
    · have hf := am_if hf hb
      show X 7 [(0, .inr (.inr ((9, 0, 0), 0)))] [] s0
      refine am_blk hX 3 4 (And.intro rfl (And.intro rfl (?_)))
      show X 19 [(0, .inr (.inr ((9, 0, 0), 0)))] [.inl (s0.1 47 2)] s0
      exact am_wk hX [] (hJ19 (s0.1 47 2) hf)
def fX8_isIn (s0 : AS) (a1 : Int32) (a2 : Int32) : Option Int32 :=
  am_g (¬ (a2 < 0 ∨ 61 ≤ a2.toNatClampNeg)) (am_r (fX8_holds (s0.1 165 a2.toNatClampNeg) a1) (fun (v2 : Int32) => am_g (v2 = 0 ∨ v2 = 1) (some v2)))
def kX8_isIn : List (Nat × Instr × Nat) := [(0, .aload_n 0, 1), (1, .getfield 61, 3), (4, .getfield 216, 3), (7, .iload_n 2, 1), (8, .iaload, 1), (9, .iload_n 1, 1), (10, .invokestatic 175, 3), (13, .ireturn, 1)]
theorem qX8_isIn : ∀ q ∈ kX8_isIn, decode mX8_isIn.2.2.1 q.1 = .ok (q.2.1, q.2.2) ∧ am_iok mX8_isIn.2.2.2.1 q.1 q.2.1 q.2.2 = true := by decide +kernel
set_option maxRecDepth 100000 in
theorem wX8_isIn : Cond.code mX8_isIn.2.1 mX8_isIn.2.2.1 mX8_isIn.2.2.2.1 mX8_isIn.2.2.2.2.1 ∈ am_T := List.mem_filter.mpr ⟨List.mem_of_getElem? (i := 862) rfl, rfl⟩
set_option maxHeartbeats 4000000 in
set_option maxRecDepth 100000 in
theorem tX8_isIn (l : Launch) (d : Nat) {s0 : AS} {a1 : Int32} {a2 : Int32} {rE : Int32} (hf : fX8_isIn s0 a1 a2 = some rE) : am_Ct l (d + 2) mX8_isIn [.inr (.inr ((9, 0, 0), 0)), .inl a1, .inl a2] s0 s0 (some (.inl rE)) := by
  refine am_sim l (d + 1) (code := kX8_isIn) (by decide +kernel) wX8_isIn qX8_isIn (Nat.le_of_ble_eq_true rfl) ?_
  intro X hX
  show X 0 [(0, .inr (.inr ((9, 0, 0), 0))), (1, .inl a1), (2, .inl a2)] [] s0
  unfold fX8_isIn at hf
  obtain ⟨g1, hf⟩ := am_g_of hf
  obtain ⟨v2, hcv2, hf⟩ := am_r_of hf
  obtain ⟨g3, hf⟩ := am_g_of hf
  refine am_blk hX 0 8 (And.intro rfl (And.intro rfl (And.intro rfl (And.intro g1 (And.intro rfl (Exists.intro s0 (Exists.intro (some (.inl v2)) (And.intro (tX8_holds l (d + 0) hcv2) (And.intro g3 (am_rpi hf))))))))))
def fX8_boards_L19 (a1 : Int32) (s3 : AS) : Nat → Int32 → Int32 → Option (AS × Int32)
  | 0, _, _ => none
  | n19 + 1, x4, x5 =>
    if (s3.1 25 6) ≤ x5 then (some (s3, x4)) else (am_r (fX8_isIn s3 x5 a1) (fun (v6 : Int32) => am_let (fun (x7 : Int32) => am_let (x5 + (1 : Int32)) (fun (x8 : Int32) => fX8_boards_L19 a1 s3 n19 x7 x8)) (fun J55 => if v6 = 0 then (J55 x4) else (am_g (¬ (x5 < 0 ∨ 8 ≤ x5.toNatClampNeg)) (am_g (¬ ((2 : Int32) < 0 ∨ 5 ≤ (2 : Int32).toNatClampNeg)) (am_let (x4 ||| ((1 : Int32) <<< ((s3.1 (38 + x5.toNatClampNeg) ((2 : Int32).toNatClampNeg)) &&& 31))) (fun (x11 : Int32) => J55 x11)))))))
def fX8_boards (s0 : AS) (a1 : Int32) : Option (AS × Int32) :=
  am_r (fX8_isStep s0 a1) (fun (v1 : Int32) => if v1 = 0 then (some (s0, (-2 : Int32))) else (am_c (fX8_tell s0) (fun (s3 : AS) (v2 : Unit) => fX8_boards_L19 a1 s3 am_fu (0 : Int32) (0 : Int32))))
def kX8_boards : List (Nat × Instr × Nat) := [(0, .aload_n 0, 1), (1, .iload_n 1, 1), (2, .invokevirtual 209, 3), (5, .ifCond .ne 6, 3), (8, .bipush (-2), 2), (10, .ireturn, 1), (11, .aload_n 0, 1), (12, .invokevirtual 165, 3), (15, .iconst 0, 1), (16, .istore_n 2, 1), (17, .iconst 0, 1), (18, .istore_n 3, 1), (19, .iload_n 3, 1), (20, .aload_n 0, 1), (21, .getfield 29, 3), (24, .getfield 123, 3), (27, .if_icmp .ge 34, 3), (30, .aload_n 0, 1), (31, .iload_n 3, 1), (32, .iload_n 1, 1), (33, .invokevirtual 219, 3), (36, .ifCond .eq 19, 3), (39, .iload_n 2, 1), (40, .iconst 1, 1), (41, .aload_n 0, 1), (42, .getfield 29, 3), (45, .getfield 140, 3), (48, .iload_n 3, 1), (49, .aaload, 1), (50, .iconst 2, 1), (51, .iaload, 1), (52, .ishl, 1), (53, .ior, 1), (54, .istore_n 2, 1), (55, .iinc 3 1, 3), (58, .goto (-39), 3), (61, .iload_n 2, 1), (62, .ireturn, 1)]
theorem qX8_boards : ∀ q ∈ kX8_boards, decode mX8_boards.2.2.1 q.1 = .ok (q.2.1, q.2.2) ∧ am_iok mX8_boards.2.2.2.1 q.1 q.2.1 q.2.2 = true := by decide +kernel
set_option maxRecDepth 100000 in
theorem wX8_boards : Cond.code mX8_boards.2.1 mX8_boards.2.2.1 mX8_boards.2.2.2.1 mX8_boards.2.2.2.2.1 ∈ am_T := List.mem_filter.mpr ⟨List.mem_of_getElem? (i := 930) rfl, rfl⟩
set_option maxHeartbeats 4000000 in
set_option maxRecDepth 100000 in
theorem tX8_boards (l : Launch) (d : Nat) {s0 : AS} {a1 : Int32} {sE : AS} {rE : Int32} (hf : fX8_boards s0 a1 = some (sE, rE)) : am_Ct l (d + 6) mX8_boards [.inr (.inr ((9, 0, 0), 0)), .inl a1] s0 sE (some (.inl rE)) := by
  refine am_sim l (d + 5) (code := kX8_boards) (by decide +kernel) wX8_boards qX8_boards (Nat.le_of_ble_eq_true rfl) ?_
  intro X hX
  show X 0 [(0, .inr (.inr ((9, 0, 0), 0))), (1, .inl a1)] [] s0
  unfold fX8_boards at hf
  obtain ⟨v1, hcv1, hf⟩ := am_r_of hf
  refine am_blk hX 0 4 (And.intro rfl (And.intro rfl (Exists.intro s0 (Exists.intro (some (.inl v1)) (And.intro (tX8_isStep l (d + 3) hcv1) (And.intro (fun hb => ?_) (fun hb => ?_)))))))
  · have hf := am_if hf hb
    show X 11 [(0, .inr (.inr ((9, 0, 0), 0))), (1, .inl a1)] [] s0
    obtain ⟨s3, v2, hcv2, hf⟩ := am_c_of hf
    have hL19 : ∀ (n19 : Nat) (x4 : Int32) (x5 : Int32), fX8_boards_L19 a1 s3 n19 x4 x5 = some (sE, rE) → X 19 [(0, .inr (.inr ((9, 0, 0), 0))), (1, .inl a1), (2, .inl x4), (3, .inl x5)] [] s3 := by
      intro n19
      induction n19 with
      | zero => intro x4 x5 hf; exact am_no (show none = some _ from hf)
      | succ n19 ih19 =>
        intro x4 x5 hf
        refine am_blk hX 12 5 (And.intro rfl (And.intro rfl (And.intro (fun hb => ?_) (fun hb => ?_))))
        · have hf := am_it hf hb
          show X 61 [(0, .inr (.inr ((9, 0, 0), 0))), (1, .inl a1), (2, .inl x4), (3, .inl x5)] [] s3
          refine am_blk hX 36 2 (am_ri hf)
        · have hf := am_if hf hb
          show X 30 [(0, .inr (.inr ((9, 0, 0), 0))), (1, .inl a1), (2, .inl x4), (3, .inl x5)] [] s3
          obtain ⟨v6, hcv6, hf⟩ := am_r_of hf
          refine am_jn hf (fun J55 => ∀ (x7 : Int32), J55 x7 = some (sE, rE) → X 55 [(0, .inr (.inr ((9, 0, 0), 0))), (1, .inl a1), (2, .inl x7), (3, .inl x5)] [] s3) ?_ ?_
          · intro x7 hf
            refine am_blk hX 34 1 (am_nl (Z := fun x8 => X 58 [(3, .inl x8), (0, .inr (.inr ((9, 0, 0), 0))), (1, .inl a1), (2, .inl x7)] [] s3) hf (fun x8 hf => ?_))
            refine am_blk hX 35 1 (?_)
            show X 19 [(3, .inl x8), (0, .inr (.inr ((9, 0, 0), 0))), (1, .inl a1), (2, .inl x7)] [] s3
            exact am_wk hX [1, 2, 3, 0] (ih19 x7 x8 hf)
          · intro J55 hJ55 hf
            refine am_blk hX 17 5 (And.intro rfl (And.intro rfl (Exists.intro s3 (Exists.intro (some (.inl v6)) (And.intro (tX8_isIn l (d + 3) hcv6) (And.intro (fun hb => ?_) (fun hb => ?_)))))))
            · have hf := am_it hf hb
              show X 55 [(0, .inr (.inr ((9, 0, 0), 0))), (1, .inl a1), (2, .inl x4), (3, .inl x5)] [] s3
              exact am_wk hX [0, 1, 2, 3] (hJ55 x4 hf)
            · have hf := am_if hf hb
              show X 39 [(0, .inr (.inr ((9, 0, 0), 0))), (1, .inl a1), (2, .inl x4), (3, .inl x5)] [] s3
              obtain ⟨g9, hf⟩ := am_g_of hf
              obtain ⟨g10, hf⟩ := am_g_of hf
              refine am_blk hX 22 12 (And.intro rfl (And.intro rfl (And.intro g9 (And.intro rfl (And.intro g10 (am_nl (Z := fun x11 => X 55 [(2, .inl x11), (0, .inr (.inr ((9, 0, 0), 0))), (1, .inl a1), (3, .inl x5)] [] s3) hf (fun x11 hf => ?_)))))))
              exact am_wk hX [1, 2, 0, 3] (hJ55 x11 hf)
    refine am_blk hX 6 6 (And.intro rfl (And.intro rfl (Exists.intro s3 (Exists.intro none (And.intro (tX8_tell l (d + 0) hcv2) (?_))))))
    show X 19 [(3, .inl (0 : Int32)), (2, .inl (0 : Int32)), (0, .inr (.inr ((9, 0, 0), 0))), (1, .inl a1)] [] s3
    exact am_wk hX [2, 3, 1, 0] (hL19 am_fu (0 : Int32) (0 : Int32) hf)
  · have hf := am_it hf hb
    show X 8 [(0, .inr (.inr ((9, 0, 0), 0))), (1, .inl a1)] [] s0
    refine am_blk hX 4 2 (am_ri hf)
