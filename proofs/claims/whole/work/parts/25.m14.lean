/-! METHODS, printed by gen.py. -/
def fX9_cause_L40 (a1 : Int32) (s4 : AS) (x7 : Int32) (J90 : Int32 → Option (AS × Int32)) : Nat → Int32 → Int32 → Option (AS × Int32)
  | 0, _, _ => none
  | n40 + 1, x12, x13 =>
    am_r (fX9_people s4) (fun (v14 : Int32) => if v14 ≤ x13 then (J90 x12) else (am_g (¬ (a1 < 0 ∨ 61 ≤ a1.toNatClampNeg)) (am_r (fX9_isBit (s4.1 230 a1.toNatClampNeg) x13) (fun (v16 : Int32) => am_let (fun (x17 : Int32) => am_let (x12 + x17) (fun (x18 : Int32) => am_let (x13 + (1 : Int32)) (fun (x19 : Int32) => fX9_cause_L40 a1 s4 x7 J90 n40 x18 x19))) (fun J81 => am_let (J81 (0 : Int32)) (fun J80 => if v16 = 0 then (J80) else (am_r (fX9_reasonOf s4 x13) (fun (v20 : Int32) => if v20 = x7 then (J81 (1 : Int32)) else (J80)))))))))
def fX9_cause_L27 (a1 : Int32) (s4 : AS) : Nat → Int32 → Int32 → Int32 → Option (AS × Int32)
  | 0, _, _, _ => none
  | n27 + 1, x5, x6, x7 =>
    if (6 : Int32) ≤ x7 then (some (s4, x5)) else (am_let (fun (x8 : Int32) => am_let (fun (x9 : Int32) (x10 : Int32) => am_let (x7 + (1 : Int32)) (fun (x11 : Int32) => fX9_cause_L27 a1 s4 n27 x9 x10 x11)) (fun J105 => if x6 < x8 then (J105 x7 x8) else (J105 x5 x6))) (fun J90 => fX9_cause_L40 a1 s4 x7 J90 am_fu (0 : Int32) (0 : Int32)))
def fX9_cause (s0 : AS) (a1 : Int32) : Option (AS × Int32) :=
  am_let (am_si s0 215 0 (0 : Int32)) (fun (s1 : AS) => am_r (fX9_isStep s1 a1) (fun (v2 : Int32) => if v2 = 0 then (some (s1, (-2 : Int32))) else (am_c (fX9_laysNow s1) (fun (s4 : AS) (v3 : Unit) => fX9_cause_L27 a1 s4 am_fu (-1 : Int32) (0 : Int32) (0 : Int32)))))
def kX9_cause : List (Nat × Instr × Nat) := [(0, .aload_n 0, 1), (1, .iconst 0, 1), (2, .putfield 80, 3), (5, .aload_n 0, 1), (6, .iload_n 1, 1), (7, .invokevirtual 355, 3), (10, .ifCond .ne 6, 3), (13, .bipush (-2), 2), (15, .ireturn, 1), (16, .aload_n 0, 1), (17, .invokevirtual 358, 3), (20, .iconst (-1), 1), (21, .istore_n 2, 1), (22, .iconst 0, 1), (23, .istore_n 3, 1), (24, .iconst 0, 1), (25, .istore 4, 2), (27, .iload 4, 2), (29, .bipush 6, 2), (31, .if_icmp .ge 80, 3), (34, .iconst 0, 1), (35, .istore 5, 2), (37, .iconst 0, 1), (38, .istore 6, 2), (40, .iload 6, 2), (42, .aload_n 0, 1), (43, .invokevirtual 248, 3), (46, .if_icmp .ge 44, 3), (49, .iload 5, 2), (51, .aload_n 0, 1), (52, .getfield 59, 3), (55, .iload_n 1, 1), (56, .iaload, 1), (57, .iload 6, 2), (59, .invokestatic 280, 3), (62, .ifCond .eq 18, 3), (65, .aload_n 0, 1), (66, .iload 6, 2), (68, .invokevirtual 287, 3), (71, .iload 4, 2), (73, .if_icmp .ne 7, 3), (76, .iconst 1, 1), (77, .goto 4, 3), (80, .iconst 0, 1), (81, .iadd, 1), (82, .istore 5, 2), (84, .iinc 6 1, 3), (87, .goto (-47), 3), (90, .iload 5, 2), (92, .iload_n 3, 1), (93, .if_icmp .gt 6, 3), (96, .goto 9, 3), (99, .iload 4, 2), (101, .istore_n 2, 1), (102, .iload 5, 2), (104, .istore_n 3, 1), (105, .iinc 4 1, 3), (108, .goto (-81), 3), (111, .iload_n 2, 1), (112, .ireturn, 1)]
theorem qX9_cause : ∀ q ∈ kX9_cause, decode mX9_cause.2.2.1 q.1 = .ok (q.2.1, q.2.2) ∧ am_iok mX9_cause.2.2.2.1 q.1 q.2.1 q.2.2 = true := by decide +kernel
set_option maxRecDepth 100000 in
theorem wX9_cause : Cond.code mX9_cause.2.1 mX9_cause.2.2.1 mX9_cause.2.2.2.1 mX9_cause.2.2.2.2.1 ∈ am_T := List.mem_filter.mpr ⟨List.mem_of_getElem? (i := 1762) rfl, rfl⟩
set_option maxHeartbeats 4000000 in
set_option maxRecDepth 100000 in
theorem tX9_cause (l : Launch) (d : Nat) {s0 : AS} {a1 : Int32} {sE : AS} {rE : Int32} (hf : fX9_cause s0 a1 = some (sE, rE)) : am_Ct l (d + 6) mX9_cause [.inr (.inr ((10, 0, 0), 215)), .inl a1] s0 sE (some (.inl rE)) := by
  refine am_sim l (d + 5) (code := kX9_cause) (by decide +kernel) wX9_cause qX9_cause (Nat.le_of_ble_eq_true rfl) ?_
  intro X hX
  show X 0 [(0, .inr (.inr ((10, 0, 0), 215))), (1, .inl a1)] [] s0
  unfold fX9_cause at hf
  refine am_blk hX 0 3 (And.intro rfl (am_nl (Z := fun s1 => X 5 [(0, .inr (.inr ((10, 0, 0), 215))), (1, .inl a1)] [] s1) hf (fun s1 hf => ?_)))
  obtain ⟨v2, hcv2, hf⟩ := am_r_of hf
  refine am_blk hX 3 4 (And.intro rfl (And.intro rfl (Exists.intro s1 (Exists.intro (some (.inl v2)) (And.intro (tX9_isStep l (d + 3) hcv2) (And.intro (fun hb => ?_) (fun hb => ?_)))))))
  · have hf := am_if hf hb
    show X 16 [(0, .inr (.inr ((10, 0, 0), 215))), (1, .inl a1)] [] s1
    obtain ⟨s4, v3, hcv3, hf⟩ := am_c_of hf
    have hL27 : ∀ (n27 : Nat) (x5 : Int32) (x6 : Int32) (x7 : Int32), fX9_cause_L27 a1 s4 n27 x5 x6 x7 = some (sE, rE) → X 27 [(0, .inr (.inr ((10, 0, 0), 215))), (1, .inl a1), (2, .inl x5), (3, .inl x6), (4, .inl x7)] [] s4 := by
      intro n27
      induction n27 with
      | zero => intro x5 x6 x7 hf; exact am_no (show none = some _ from hf)
      | succ n27 ih27 =>
        intro x5 x6 x7 hf
        refine am_blk hX 17 3 (And.intro (fun hb => ?_) (fun hb => ?_))
        · have hf := am_it hf hb
          show X 111 [(0, .inr (.inr ((10, 0, 0), 215))), (1, .inl a1), (2, .inl x5), (3, .inl x6), (4, .inl x7)] [] s4
          refine am_blk hX 58 2 (am_ri hf)
        · have hf := am_if hf hb
          show X 34 [(0, .inr (.inr ((10, 0, 0), 215))), (1, .inl a1), (2, .inl x5), (3, .inl x6), (4, .inl x7)] [] s4
          refine am_jn hf (fun J90 => ∀ (x8 : Int32), J90 x8 = some (sE, rE) → X 90 [(0, .inr (.inr ((10, 0, 0), 215))), (1, .inl a1), (2, .inl x5), (3, .inl x6), (4, .inl x7), (5, .inl x8)] [] s4) ?_ ?_
          · intro x8 hf
            refine am_jn hf (fun J105 => ∀ (x9 : Int32) (x10 : Int32), J105 x9 x10 = some (sE, rE) → X 105 [(0, .inr (.inr ((10, 0, 0), 215))), (1, .inl a1), (2, .inl x9), (3, .inl x10), (4, .inl x7)] [] s4) ?_ ?_
            · intro x9 x10 hf
              refine am_blk hX 56 1 (am_nl (Z := fun x11 => X 108 [(4, .inl x11), (0, .inr (.inr ((10, 0, 0), 215))), (1, .inl a1), (2, .inl x9), (3, .inl x10)] [] s4) hf (fun x11 hf => ?_))
              refine am_blk hX 57 1 (?_)
              show X 27 [(4, .inl x11), (0, .inr (.inr ((10, 0, 0), 215))), (1, .inl a1), (2, .inl x9), (3, .inl x10)] [] s4
              exact am_wk hX [1, 2, 3, 4, 0] (ih27 x9 x10 x11 hf)
            · intro J105 hJ105 hf
              refine am_blk hX 48 3 (And.intro (fun hb => ?_) (fun hb => ?_))
              · have hf := am_it hf hb
                show X 99 [(0, .inr (.inr ((10, 0, 0), 215))), (1, .inl a1), (2, .inl x5), (3, .inl x6), (4, .inl x7), (5, .inl x8)] [] s4
                refine am_blk hX 52 4 (?_)
                show X 105 [(3, .inl x8), (2, .inl x7), (0, .inr (.inr ((10, 0, 0), 215))), (1, .inl a1), (4, .inl x7), (5, .inl x8)] [] s4
                exact am_wk hX [2, 3, 1, 0, 4] (hJ105 x7 x8 hf)
              · have hf := am_if hf hb
                show X 96 [(0, .inr (.inr ((10, 0, 0), 215))), (1, .inl a1), (2, .inl x5), (3, .inl x6), (4, .inl x7), (5, .inl x8)] [] s4
                refine am_blk hX 51 1 (?_)
                show X 105 [(0, .inr (.inr ((10, 0, 0), 215))), (1, .inl a1), (2, .inl x5), (3, .inl x6), (4, .inl x7), (5, .inl x8)] [] s4
                exact am_wk hX [0, 1, 2, 3, 4] (hJ105 x5 x6 hf)
          · intro J90 hJ90 hf
            have hL40 : ∀ (n40 : Nat) (x12 : Int32) (x13 : Int32), fX9_cause_L40 a1 s4 x7 J90 n40 x12 x13 = some (sE, rE) → X 40 [(0, .inr (.inr ((10, 0, 0), 215))), (1, .inl a1), (2, .inl x5), (3, .inl x6), (4, .inl x7), (5, .inl x12), (6, .inl x13)] [] s4 := by
              intro n40
              induction n40 with
              | zero => intro x12 x13 hf; exact am_no (show none = some _ from hf)
              | succ n40 ih40 =>
                intro x12 x13 hf
                obtain ⟨v14, hcv14, hf⟩ := am_r_of hf
                refine am_blk hX 24 4 (And.intro rfl (And.intro rfl (Exists.intro s4 (Exists.intro (some (.inl v14)) (And.intro (tX9_people l (d + 4) hcv14) (And.intro (fun hb => ?_) (fun hb => ?_)))))))
                · have hf := am_it hf hb
                  show X 90 [(0, .inr (.inr ((10, 0, 0), 215))), (1, .inl a1), (2, .inl x5), (3, .inl x6), (4, .inl x7), (5, .inl x12), (6, .inl x13)] [] s4
                  exact am_wk hX [0, 1, 2, 3, 4, 5] (hJ90 x12 hf)
                · have hf := am_if hf hb
                  show X 49 [(0, .inr (.inr ((10, 0, 0), 215))), (1, .inl a1), (2, .inl x5), (3, .inl x6), (4, .inl x7), (5, .inl x12), (6, .inl x13)] [] s4
                  obtain ⟨g15, hf⟩ := am_g_of hf
                  obtain ⟨v16, hcv16, hf⟩ := am_r_of hf
                  refine am_jn hf (fun J81 => ∀ (x17 : Int32), J81 x17 = some (sE, rE) → X 81 [(0, .inr (.inr ((10, 0, 0), 215))), (1, .inl a1), (2, .inl x5), (3, .inl x6), (4, .inl x7), (6, .inl x13)] [.inl x17, .inl x12] s4) ?_ ?_
                  · intro x17 hf
                    refine am_blk hX 44 2 (am_nl (Z := fun x18 => X 84 [(5, .inl x18), (0, .inr (.inr ((10, 0, 0), 215))), (1, .inl a1), (2, .inl x5), (3, .inl x6), (4, .inl x7), (6, .inl x13)] [] s4) hf (fun x18 hf => ?_))
                    refine am_blk hX 46 1 (am_nl (Z := fun x19 => X 87 [(6, .inl x19), (5, .inl x18), (0, .inr (.inr ((10, 0, 0), 215))), (1, .inl a1), (2, .inl x5), (3, .inl x6), (4, .inl x7)] [] s4) hf (fun x19 hf => ?_))
                    refine am_blk hX 47 1 (?_)
                    show X 40 [(6, .inl x19), (5, .inl x18), (0, .inr (.inr ((10, 0, 0), 215))), (1, .inl a1), (2, .inl x5), (3, .inl x6), (4, .inl x7)] [] s4
                    exact am_wk hX [2, 3, 4, 5, 6, 1, 0] (ih40 x18 x19 hf)
                  · intro J81 hJ81 hf
                    refine am_jn hf (fun J80 => J80 = some (sE, rE) → X 80 [(0, .inr (.inr ((10, 0, 0), 215))), (1, .inl a1), (2, .inl x5), (3, .inl x6), (4, .inl x7), (6, .inl x13)] [.inl x12] s4) ?_ ?_
                    · intro hf
                      refine am_blk hX 43 1 (?_)
                      show X 81 [(0, .inr (.inr ((10, 0, 0), 215))), (1, .inl a1), (2, .inl x5), (3, .inl x6), (4, .inl x7), (6, .inl x13)] [.inl (0 : Int32), .inl x12] s4
                      exact am_wk hX [0, 1, 2, 3, 4, 5] (hJ81 (0 : Int32) hf)
                    · intro J80 hJ80 hf
                      refine am_blk hX 28 8 (And.intro rfl (And.intro rfl (And.intro g15 (And.intro rfl (Exists.intro s4 (Exists.intro (some (.inl v16)) (And.intro (tX9_isBit l (d + 4) hcv16) (And.intro (fun hb => ?_) (fun hb => ?_)))))))))
                      · have hf := am_it hf hb
                        show X 80 [(0, .inr (.inr ((10, 0, 0), 215))), (1, .inl a1), (2, .inl x5), (3, .inl x6), (4, .inl x7), (5, .inl x12), (6, .inl x13)] [.inl x12] s4
                        exact am_wk hX [0, 1, 2, 3, 4, 6] (hJ80 hf)
                      · have hf := am_if hf hb
                        show X 65 [(0, .inr (.inr ((10, 0, 0), 215))), (1, .inl a1), (2, .inl x5), (3, .inl x6), (4, .inl x7), (5, .inl x12), (6, .inl x13)] [.inl x12] s4
                        obtain ⟨v20, hcv20, hf⟩ := am_r_of hf
                        refine am_blk hX 36 5 (And.intro rfl (And.intro rfl (Exists.intro s4 (Exists.intro (some (.inl v20)) (And.intro (tX9_reasonOf l (d + 4) hcv20) (And.intro (fun hb => ?_) (fun hb => ?_)))))))
                        · have hf := am_if hf hb
                          show X 80 [(0, .inr (.inr ((10, 0, 0), 215))), (1, .inl a1), (2, .inl x5), (3, .inl x6), (4, .inl x7), (5, .inl x12), (6, .inl x13)] [.inl x12] s4
                          exact am_wk hX [0, 1, 2, 3, 4, 6] (hJ80 hf)
                        · have hf := am_it hf hb
                          show X 76 [(0, .inr (.inr ((10, 0, 0), 215))), (1, .inl a1), (2, .inl x5), (3, .inl x6), (4, .inl x7), (5, .inl x12), (6, .inl x13)] [.inl x12] s4
                          refine am_blk hX 41 2 (?_)
                          show X 81 [(0, .inr (.inr ((10, 0, 0), 215))), (1, .inl a1), (2, .inl x5), (3, .inl x6), (4, .inl x7), (5, .inl x12), (6, .inl x13)] [.inl (1 : Int32), .inl x12] s4
                          exact am_wk hX [0, 1, 2, 3, 4, 6] (hJ81 (1 : Int32) hf)
            refine am_blk hX 20 4 (?_)
            show X 40 [(6, .inl (0 : Int32)), (5, .inl (0 : Int32)), (0, .inr (.inr ((10, 0, 0), 215))), (1, .inl a1), (2, .inl x5), (3, .inl x6), (4, .inl x7)] [] s4
            exact am_wk hX [2, 3, 4, 5, 6, 1, 0] (hL40 am_fu (0 : Int32) (0 : Int32) hf)
    refine am_blk hX 9 8 (And.intro rfl (And.intro rfl (Exists.intro s4 (Exists.intro none (And.intro (tX9_laysNow l (d + 0) hcv3) (?_))))))
    show X 27 [(4, .inl (0 : Int32)), (3, .inl (0 : Int32)), (2, .inl (-1 : Int32)), (0, .inr (.inr ((10, 0, 0), 215))), (1, .inl a1)] [] s4
    exact am_wk hX [3, 4, 2, 1, 0] (hL27 am_fu (-1 : Int32) (0 : Int32) (0 : Int32) hf)
  · have hf := am_it hf hb
    show X 13 [(0, .inr (.inr ((10, 0, 0), 215))), (1, .inl a1)] [] s1
    refine am_blk hX 7 2 (am_ri hf)
def fX9_isRain (s0 : AS) (a1 : Int32) : Option Int32 :=
  am_r (fX9_isMarch s0) (fun (v1 : Int32) => am_let (fun (x2 : Int32) => am_g (x2 = 0 ∨ x2 = 1) (some x2)) (fun J24 => am_let (J24 (0 : Int32)) (fun J23 => if v1 = 0 then (J23) else (am_r (fX9_in a1.toInt64 (0 : Int64) (8 : Int64)) (fun (v4 : Int32) => if v4 = 0 then (J23) else (J24 (1 : Int32)))))))
def kX9_isRain : List (Nat × Instr × Nat) := [(0, .aload_n 0, 1), (1, .invokevirtual 251, 3), (4, .ifCond .eq 19, 3), (7, .iload_n 1, 1), (8, .i2l, 1), (9, .lconst 0, 1), (10, .ldc2_w 414, 3), (13, .invokestatic 85, 3), (16, .ifCond .eq 7, 3), (19, .iconst 1, 1), (20, .goto 4, 3), (23, .iconst 0, 1), (24, .ireturn, 1)]
theorem qX9_isRain : ∀ q ∈ kX9_isRain, decode mX9_isRain.2.2.1 q.1 = .ok (q.2.1, q.2.2) ∧ am_iok mX9_isRain.2.2.2.1 q.1 q.2.1 q.2.2 = true := by decide +kernel
set_option maxRecDepth 100000 in
theorem wX9_isRain : Cond.code mX9_isRain.2.1 mX9_isRain.2.2.1 mX9_isRain.2.2.2.1 mX9_isRain.2.2.2.2.1 ∈ am_T := List.mem_filter.mpr ⟨List.mem_of_getElem? (i := 1924) rfl, rfl⟩
set_option maxHeartbeats 4000000 in
set_option maxRecDepth 100000 in
theorem tX9_isRain (l : Launch) (d : Nat) {s0 : AS} {a1 : Int32} {rE : Int32} (hf : fX9_isRain s0 a1 = some rE) : am_Ct l (d + 2) mX9_isRain [.inr (.inr ((10, 0, 0), 215)), .inl a1] s0 s0 (some (.inl rE)) := by
  refine am_sim l (d + 1) (code := kX9_isRain) (by decide +kernel) wX9_isRain qX9_isRain (Nat.le_of_ble_eq_true rfl) ?_
  intro X hX
  show X 0 [(0, .inr (.inr ((10, 0, 0), 215))), (1, .inl a1)] [] s0
  unfold fX9_isRain at hf
  obtain ⟨v1, hcv1, hf⟩ := am_r_of hf
  refine am_jn hf (fun J24 => ∀ (x2 : Int32), J24 x2 = some rE → X 24 [] [.inl x2] s0) ?_ ?_
  · intro x2 hf
    obtain ⟨g3, hf⟩ := am_g_of hf
    refine am_blk hX 12 1 (And.intro g3 (am_rpi hf))
  · intro J24 hJ24 hf
    refine am_jn hf (fun J23 => J23 = some rE → X 23 [] [] s0) ?_ ?_
    · intro hf
      refine am_blk hX 11 1 (?_)
      show X 24 [] [.inl (0 : Int32)] s0
      exact am_wk hX [] (hJ24 (0 : Int32) hf)
    · intro J23 hJ23 hf
      refine am_blk hX 0 3 (And.intro rfl (And.intro rfl (Exists.intro s0 (Exists.intro (some (.inl v1)) (And.intro (tX9_isMarch l (d + 0) hcv1) (And.intro (fun hb => ?_) (fun hb => ?_)))))))
      · have hf := am_it hf hb
        show X 23 [(0, .inr (.inr ((10, 0, 0), 215))), (1, .inl a1)] [] s0
        exact am_wk hX [] (hJ23 hf)
      · have hf := am_if hf hb
        show X 7 [(0, .inr (.inr ((10, 0, 0), 215))), (1, .inl a1)] [] s0
        obtain ⟨v4, hcv4, hf⟩ := am_r_of hf
        refine am_blk hX 3 6 (And.intro rfl (Exists.intro s0 (Exists.intro (some (.inl v4)) (And.intro (tX9_in l (d + 0) hcv4) (And.intro (fun hb => ?_) (fun hb => ?_))))))
        · have hf := am_it hf hb
          show X 23 [(0, .inr (.inr ((10, 0, 0), 215))), (1, .inl a1)] [] s0
          exact am_wk hX [] (hJ23 hf)
        · have hf := am_if hf hb
          show X 19 [(0, .inr (.inr ((10, 0, 0), 215))), (1, .inl a1)] [] s0
          refine am_blk hX 9 2 (?_)
          show X 24 [(0, .inr (.inr ((10, 0, 0), 215))), (1, .inl a1)] [.inl (1 : Int32)] s0
          exact am_wk hX [] (hJ24 (1 : Int32) hf)
def fX9_firstAt_L2 (a1 : Int32) (s0 : AS) : Nat → Int32 → Option Int32
  | 0, _ => none
  | n2 + 1, x1 =>
    if (60 : Int32) < x1 then (some (-1 : Int32)) else (am_g (¬ (x1 < 0 ∨ 61 ≤ x1.toNatClampNeg)) (if (s0.1 229 x1.toNatClampNeg) = a1 then (some x1) else (am_let (x1 + (1 : Int32)) (fun (x3 : Int32) => fX9_firstAt_L2 a1 s0 n2 x3))))
def fX9_firstAt (s0 : AS) (a1 : Int32) (a2 : Int32) : Option Int32 :=
  fX9_firstAt_L2 a1 s0 am_fu a2
def kX9_firstAt : List (Nat × Instr × Nat) := [(0, .iload_n 2, 1), (1, .istore_n 3, 1), (2, .iload_n 3, 1), (3, .bipush 60, 2), (5, .if_icmp .gt 21, 3), (8, .aload_n 0, 1), (9, .getfield 56, 3), (12, .iload_n 3, 1), (13, .iaload, 1), (14, .iload_n 1, 1), (15, .if_icmp .ne 5, 3), (18, .iload_n 3, 1), (19, .ireturn, 1), (20, .iinc 3 1, 3), (23, .goto (-21), 3), (26, .iconst (-1), 1), (27, .ireturn, 1)]
theorem qX9_firstAt : ∀ q ∈ kX9_firstAt, decode mX9_firstAt.2.2.1 q.1 = .ok (q.2.1, q.2.2) ∧ am_iok mX9_firstAt.2.2.2.1 q.1 q.2.1 q.2.2 = true := by decide +kernel
set_option maxRecDepth 100000 in
theorem wX9_firstAt : Cond.code mX9_firstAt.2.1 mX9_firstAt.2.2.1 mX9_firstAt.2.2.2.1 mX9_firstAt.2.2.2.2.1 ∈ am_T := List.mem_filter.mpr ⟨List.mem_of_getElem? (i := 1730) rfl, rfl⟩
set_option maxHeartbeats 4000000 in
set_option maxRecDepth 100000 in
theorem tX9_firstAt (l : Launch) (d : Nat) {s0 : AS} {a1 : Int32} {a2 : Int32} {rE : Int32} (hf : fX9_firstAt s0 a1 a2 = some rE) : am_Ct l (d + 1) mX9_firstAt [.inr (.inr ((10, 0, 0), 215)), .inl a1, .inl a2] s0 s0 (some (.inl rE)) := by
  refine am_sim l (d + 0) (code := kX9_firstAt) (by decide +kernel) wX9_firstAt qX9_firstAt (Nat.le_of_ble_eq_true rfl) ?_
  intro X hX
  show X 0 [(0, .inr (.inr ((10, 0, 0), 215))), (1, .inl a1), (2, .inl a2)] [] s0
  unfold fX9_firstAt at hf
  have hL2 : ∀ (n2 : Nat) (x1 : Int32), fX9_firstAt_L2 a1 s0 n2 x1 = some rE → X 2 [(0, .inr (.inr ((10, 0, 0), 215))), (1, .inl a1), (3, .inl x1)] [] s0 := by
    intro n2
    induction n2 with
    | zero => intro x1 hf; exact am_no (show none = some _ from hf)
    | succ n2 ih2 =>
      intro x1 hf
      refine am_blk hX 2 3 (And.intro (fun hb => ?_) (fun hb => ?_))
      · have hf := am_it hf hb
        show X 26 [(0, .inr (.inr ((10, 0, 0), 215))), (1, .inl a1), (3, .inl x1)] [] s0
        refine am_blk hX 15 2 (am_rpi hf)
      · have hf := am_if hf hb
        show X 8 [(0, .inr (.inr ((10, 0, 0), 215))), (1, .inl a1), (3, .inl x1)] [] s0
        obtain ⟨g2, hf⟩ := am_g_of hf
        refine am_blk hX 5 6 (And.intro rfl (And.intro rfl (And.intro g2 (And.intro (fun hb => ?_) (fun hb => ?_)))))
        · have hf := am_if hf hb
          show X 20 [(0, .inr (.inr ((10, 0, 0), 215))), (1, .inl a1), (3, .inl x1)] [] s0
          refine am_blk hX 13 1 (am_nl (Z := fun x3 => X 23 [(3, .inl x3), (0, .inr (.inr ((10, 0, 0), 215))), (1, .inl a1)] [] s0) hf (fun x3 hf => ?_))
          refine am_blk hX 14 1 (?_)
          show X 2 [(3, .inl x3), (0, .inr (.inr ((10, 0, 0), 215))), (1, .inl a1)] [] s0
          exact am_wk hX [1, 2, 0] (ih2 x3 hf)
        · have hf := am_it hf hb
          show X 18 [(0, .inr (.inr ((10, 0, 0), 215))), (1, .inl a1), (3, .inl x1)] [] s0
          refine am_blk hX 11 2 (am_rpi hf)
  refine am_blk hX 0 2 (?_)
  show X 2 [(3, .inl a2), (0, .inr (.inr ((10, 0, 0), 215))), (1, .inl a1), (2, .inl a2)] [] s0
  exact am_wk hX [1, 2, 0] (hL2 am_fu a2 hf)
def fX9_rains_L23 (a1 : Int32) (s3 : AS) (x5 : Int32) (J70 : Int64 → Option (AS × Int64)) : Nat → Int64 → Int32 → Option (AS × Int64)
  | 0, _, _ => none
  | n23 + 1, x19, x20 =>
    if a1 < x20 then (J70 x19) else (am_r (fX9_isBit x5 x20) (fun (v21 : Int32) => am_let (fun (x22 : Int64) => am_let (x19 * x22) (fun (x23 : Int64) => am_let (x20 + (1 : Int32)) (fun (x24 : Int32) => fX9_rains_L23 a1 s3 x5 J70 n23 x23 x24))) (fun J61 => if v21 = 0 then (am_g (¬ ((3 : Int32) < 0 ∨ 35 ≤ (3 : Int32).toNatClampNeg)) (J61 (((10 : Int32) - (s3.1 222 ((3 : Int32).toNatClampNeg))).toInt64))) else (am_g (¬ ((3 : Int32) < 0 ∨ 35 ≤ (3 : Int32).toNatClampNeg)) (J61 ((s3.1 222 ((3 : Int32).toNatClampNeg)).toInt64))))))
def fX9_rains_L9 (a1 : Int32) (a2 : Int32) : Nat → AS → Int64 → Int32 → Option (AS × Int64)
  | 0, _, _, _ => none
  | n9 + 1, s3, x4, x5 =>
    if ((2 : Int32) <<< (a1 &&& 31)) ≤ x5 then (some (s3, x4)) else (am_let (fun (x6 : Int64) => am_let (fun (s7 : AS) (x8 : Int64) => am_let (x5 + (1 : Int32)) (fun (x9 : Int32) => fX9_rains_L9 a1 a2 n9 s7 x8 x9)) (fun J150 => if (lg_cmp x6 (0 : Int64)) = 0 then (J150 s3 x4) else (am_let (am_sj s3 215 33 x5.toInt64) (fun (s10 : AS) => am_c (fX9_runs s10) (fun (s12 : AS) (v11 : Unit) => am_let (fun (x13 : Int32) => am_let (fun (x14 : Int64) => am_let (x4 + x14) (fun (x15 : Int64) => J150 s12 x15)) (fun J148 => if a2 = (-1 : Int32) then (am_g (¬ (a1 < 0 ∨ 61 ≤ a1.toNatClampNeg)) (am_r (fX9_sizeOf (s12.1 230 a1.toNatClampNeg)) (fun (v17 : Int32) => J148 (x6 * v17.toInt64)))) else (am_let (J148 (0 : Int64)) (fun J147 => if x13 = (-1 : Int32) then (J147) else (if a1 < x13 then (J147) else (J148 x6)))))) (fun J106 => if a2 = (-1 : Int32) then (J106 (-1 : Int32)) else (am_r (fX9_firstAt s12 a2 (0 : Int32)) (fun (v18 : Int32) => J106 v18)))))))) (fun J70 => fX9_rains_L23 a1 s3 x5 J70 am_fu (1 : Int64) (0 : Int32)))
def fX9_rains (s0 : AS) (a1 : Int32) (a2 : Int32) : Option (AS × Int64) :=
  am_c (fX9_lays s0) (fun (s2 : AS) (v1 : Unit) => fX9_rains_L9 a1 a2 am_fu s2 (0 : Int64) (0 : Int32))
def kX9_rains : List (Nat × Instr × Nat) := [(0, .aload_n 0, 1), (1, .invokevirtual 336, 3), (4, .lconst 0, 1), (5, .lstore_n 3, 1), (6, .iconst 0, 1), (7, .istore 5, 2), (9, .iload 5, 2), (11, .iconst 2, 1), (12, .iload_n 1, 1), (13, .ishl, 1), (14, .if_icmp .ge 142, 3), (17, .lconst 1, 1), (18, .lstore 6, 2), (20, .iconst 0, 1), (21, .istore 8, 2), (23, .iload 8, 2), (25, .iload_n 1, 1), (26, .if_icmp .gt 44, 3), (29, .lload 6, 2), (31, .iload 5, 2), (33, .iload 8, 2), (35, .invokestatic 280, 3), (38, .ifCond .eq 13, 3), (41, .aload_n 0, 1), (42, .getfield 34, 3), (45, .iconst 3, 1), (46, .iaload, 1), (47, .i2l, 1), (48, .goto 13, 3), (51, .bipush 10, 2), (53, .aload_n 0, 1), (54, .getfield 34, 3), (57, .iconst 3, 1), (58, .iaload, 1), (59, .isub, 1), (60, .i2l, 1), (61, .lmul, 1), (62, .lstore 6, 2), (64, .iinc 8 1, 3), (67, .goto (-44), 3), (70, .lload 6, 2), (72, .lconst 0, 1), (73, .lcmp, 1), (74, .ifCond .ne 6, 3), (77, .goto 73, 3), (80, .aload_n 0, 1), (81, .iload 5, 2), (83, .i2l, 1), (84, .putfield 277, 3), (87, .aload_n 0, 1), (88, .invokevirtual 339, 3), (91, .iload_n 2, 1), (92, .iconst (-1), 1), (93, .if_icmp .ne 7, 3), (96, .iconst (-1), 1), (97, .goto 9, 3), (100, .aload_n 0, 1), (101, .iload_n 2, 1), (102, .iconst 0, 1), (103, .invokevirtual 361, 3), (106, .istore 8, 2), (108, .lload_n 3, 1), (109, .iload_n 2, 1), (110, .iconst (-1), 1), (111, .if_icmp .ne 19, 3), (114, .lload 6, 2), (116, .aload_n 0, 1), (117, .getfield 59, 3), (120, .iload_n 1, 1), (121, .iaload, 1), (122, .invokestatic 293, 3), (125, .i2l, 1), (126, .lmul, 1), (127, .goto 21, 3), (130, .iload 8, 2), (132, .iconst (-1), 1), (133, .if_icmp .eq 14, 3), (136, .iload 8, 2), (138, .iload_n 1, 1), (139, .if_icmp .gt 8, 3), (142, .lload 6, 2), (144, .goto 4, 3), (147, .lconst 0, 1), (148, .ladd, 1), (149, .lstore_n 3, 1), (150, .iinc 5 1, 3), (153, .goto (-144), 3), (156, .lload_n 3, 1), (157, .lreturn, 1)]
theorem qX9_rains : ∀ q ∈ kX9_rains, decode mX9_rains.2.2.1 q.1 = .ok (q.2.1, q.2.2) ∧ am_iok mX9_rains.2.2.2.1 q.1 q.2.1 q.2.2 = true := by decide +kernel
set_option maxRecDepth 100000 in
theorem wX9_rains : Cond.code mX9_rains.2.1 mX9_rains.2.2.1 mX9_rains.2.2.2.1 mX9_rains.2.2.2.2.1 ∈ am_T := List.mem_filter.mpr ⟨List.mem_of_getElem? (i := 1932) rfl, rfl⟩
set_option maxHeartbeats 4000000 in
set_option maxRecDepth 100000 in
theorem tX9_rains (l : Launch) (d : Nat) {s0 : AS} {a1 : Int32} {a2 : Int32} {sE : AS} {rE : Int64} (hf : fX9_rains s0 a1 a2 = some (sE, rE)) : am_Ct l (d + 5) mX9_rains [.inr (.inr ((10, 0, 0), 215)), .inl a1, .inl a2] s0 sE (some (.inr (.inl rE))) := by
  refine am_sim l (d + 4) (code := kX9_rains) (by decide +kernel) wX9_rains qX9_rains (Nat.le_of_ble_eq_true rfl) ?_
  intro X hX
  show X 0 [(0, .inr (.inr ((10, 0, 0), 215))), (1, .inl a1), (2, .inl a2)] [] s0
  unfold fX9_rains at hf
  obtain ⟨s2, v1, hcv1, hf⟩ := am_c_of hf
  have hL9 : ∀ (n9 : Nat) (s3 : AS) (x4 : Int64) (x5 : Int32), fX9_rains_L9 a1 a2 n9 s3 x4 x5 = some (sE, rE) → X 9 [(0, .inr (.inr ((10, 0, 0), 215))), (1, .inl a1), (2, .inl a2), (3, .inr (.inl x4)), (5, .inl x5)] [] s3 := by
    intro n9
    induction n9 with
    | zero => intro s3 x4 x5 hf; exact am_no (show none = some _ from hf)
    | succ n9 ih9 =>
      intro s3 x4 x5 hf
      refine am_blk hX 6 5 (And.intro (fun hb => ?_) (fun hb => ?_))
      · have hf := am_it hf hb
        show X 156 [(0, .inr (.inr ((10, 0, 0), 215))), (1, .inl a1), (2, .inl a2), (3, .inr (.inl x4)), (5, .inl x5)] [] s3
        refine am_blk hX 87 2 (And.intro rfl (am_rl hf))
      · have hf := am_if hf hb
        show X 17 [(0, .inr (.inr ((10, 0, 0), 215))), (1, .inl a1), (2, .inl a2), (3, .inr (.inl x4)), (5, .inl x5)] [] s3
        refine am_jn hf (fun J70 => ∀ (x6 : Int64), J70 x6 = some (sE, rE) → X 70 [(0, .inr (.inr ((10, 0, 0), 215))), (1, .inl a1), (2, .inl a2), (3, .inr (.inl x4)), (5, .inl x5), (6, .inr (.inl x6))] [] s3) ?_ ?_
        · intro x6 hf
          refine am_jn hf (fun J150 => ∀ (s7 : AS) (x8 : Int64), J150 s7 x8 = some (sE, rE) → X 150 [(0, .inr (.inr ((10, 0, 0), 215))), (1, .inl a1), (2, .inl a2), (3, .inr (.inl x8)), (5, .inl x5)] [] s7) ?_ ?_
          · intro s7 x8 hf
            refine am_blk hX 85 1 (am_nl (Z := fun x9 => X 153 [(5, .inl x9), (0, .inr (.inr ((10, 0, 0), 215))), (1, .inl a1), (2, .inl a2), (3, .inr (.inl x8))] [] s7) hf (fun x9 hf => ?_))
            refine am_blk hX 86 1 (?_)
            show X 9 [(5, .inl x9), (0, .inr (.inr ((10, 0, 0), 215))), (1, .inl a1), (2, .inl a2), (3, .inr (.inl x8))] [] s7
            exact am_wk hX [1, 2, 3, 4, 0] (ih9 s7 x8 x9 hf)
          · intro J150 hJ150 hf
            refine am_blk hX 40 4 (And.intro (fun hb => ?_) (fun hb => ?_))
            · have hf := am_if hf hb
              show X 80 [(0, .inr (.inr ((10, 0, 0), 215))), (1, .inl a1), (2, .inl a2), (3, .inr (.inl x4)), (5, .inl x5), (6, .inr (.inl x6))] [] s3
              refine am_blk hX 45 4 (And.intro rfl (am_nl (Z := fun s10 => X 87 [(0, .inr (.inr ((10, 0, 0), 215))), (1, .inl a1), (2, .inl a2), (3, .inr (.inl x4)), (5, .inl x5), (6, .inr (.inl x6))] [] s10) hf (fun s10 hf => ?_)))
              obtain ⟨s12, v11, hcv11, hf⟩ := am_c_of hf
              refine am_jn hf (fun J106 => ∀ (x13 : Int32), J106 x13 = some (sE, rE) → X 106 [(0, .inr (.inr ((10, 0, 0), 215))), (1, .inl a1), (2, .inl a2), (3, .inr (.inl x4)), (5, .inl x5), (6, .inr (.inl x6))] [.inl x13] s12) ?_ ?_
              · intro x13 hf
                refine am_jn hf (fun J148 => ∀ (x14 : Int64), J148 x14 = some (sE, rE) → X 148 [(0, .inr (.inr ((10, 0, 0), 215))), (1, .inl a1), (2, .inl a2), (5, .inl x5)] [.inr (.inl x14), .inr (.inl x4)] s12) ?_ ?_
                · intro x14 hf
                  refine am_blk hX 83 2 (am_nl (Z := fun x15 => X 150 [(3, .inr (.inl x15)), (0, .inr (.inr ((10, 0, 0), 215))), (1, .inl a1), (2, .inl a2), (5, .inl x5)] [] s12) hf (fun x15 hf => ?_))
                  exact am_wk hX [1, 2, 3, 0, 4] (hJ150 s12 x15 hf)
                · intro J148 hJ148 hf
                  refine am_blk hX 60 5 (And.intro (fun hb => ?_) (fun hb => ?_))
                  · have hf := am_if hf hb
                    show X 130 [(8, .inl x13), (0, .inr (.inr ((10, 0, 0), 215))), (1, .inl a1), (2, .inl a2), (3, .inr (.inl x4)), (5, .inl x5), (6, .inr (.inl x6))] [.inr (.inl x4)] s12
                    refine am_jn hf (fun J147 => J147 = some (sE, rE) → X 147 [(0, .inr (.inr ((10, 0, 0), 215))), (1, .inl a1), (2, .inl a2), (5, .inl x5)] [.inr (.inl x4)] s12) ?_ ?_
                    · intro hf
                      refine am_blk hX 82 1 (?_)
                      show X 148 [(0, .inr (.inr ((10, 0, 0), 215))), (1, .inl a1), (2, .inl a2), (5, .inl x5)] [.inr (.inl (0 : Int64)), .inr (.inl x4)] s12
                      exact am_wk hX [0, 1, 2, 3] (hJ148 (0 : Int64) hf)
                    · intro J147 hJ147 hf
                      refine am_blk hX 74 3 (And.intro (fun hb => ?_) (fun hb => ?_))
                      · have hf := am_it hf hb
                        show X 147 [(8, .inl x13), (0, .inr (.inr ((10, 0, 0), 215))), (1, .inl a1), (2, .inl a2), (3, .inr (.inl x4)), (5, .inl x5), (6, .inr (.inl x6))] [.inr (.inl x4)] s12
                        exact am_wk hX [1, 2, 3, 5] (hJ147 hf)
                      · have hf := am_if hf hb
                        show X 136 [(8, .inl x13), (0, .inr (.inr ((10, 0, 0), 215))), (1, .inl a1), (2, .inl a2), (3, .inr (.inl x4)), (5, .inl x5), (6, .inr (.inl x6))] [.inr (.inl x4)] s12
                        refine am_blk hX 77 3 (And.intro (fun hb => ?_) (fun hb => ?_))
                        · have hf := am_it hf hb
                          show X 147 [(8, .inl x13), (0, .inr (.inr ((10, 0, 0), 215))), (1, .inl a1), (2, .inl a2), (3, .inr (.inl x4)), (5, .inl x5), (6, .inr (.inl x6))] [.inr (.inl x4)] s12
                          exact am_wk hX [1, 2, 3, 5] (hJ147 hf)
                        · have hf := am_if hf hb
                          show X 142 [(8, .inl x13), (0, .inr (.inr ((10, 0, 0), 215))), (1, .inl a1), (2, .inl a2), (3, .inr (.inl x4)), (5, .inl x5), (6, .inr (.inl x6))] [.inr (.inl x4)] s12
                          refine am_blk hX 80 2 (?_)
                          show X 148 [(8, .inl x13), (0, .inr (.inr ((10, 0, 0), 215))), (1, .inl a1), (2, .inl a2), (3, .inr (.inl x4)), (5, .inl x5), (6, .inr (.inl x6))] [.inr (.inl x6), .inr (.inl x4)] s12
                          exact am_wk hX [1, 2, 3, 5] (hJ148 x6 hf)
                  · have hf := am_it hf hb
                    show X 114 [(8, .inl x13), (0, .inr (.inr ((10, 0, 0), 215))), (1, .inl a1), (2, .inl a2), (3, .inr (.inl x4)), (5, .inl x5), (6, .inr (.inl x6))] [.inr (.inl x4)] s12
                    obtain ⟨g16, hf⟩ := am_g_of hf
                    obtain ⟨v17, hcv17, hf⟩ := am_r_of hf
                    refine am_blk hX 65 9 (And.intro rfl (And.intro rfl (And.intro g16 (And.intro rfl (Exists.intro s12 (Exists.intro (some (.inl v17)) (And.intro (tX9_sizeOf l (d + 3) hcv17) (?_))))))))
                    show X 148 [(8, .inl x13), (0, .inr (.inr ((10, 0, 0), 215))), (1, .inl a1), (2, .inl a2), (3, .inr (.inl x4)), (5, .inl x5), (6, .inr (.inl x6))] [.inr (.inl (x6 * v17.toInt64)), .inr (.inl x4)] s12
                    exact am_wk hX [1, 2, 3, 5] (hJ148 (x6 * v17.toInt64) hf)
              · intro J106 hJ106 hf
                refine am_blk hX 49 5 (And.intro rfl (And.intro rfl (Exists.intro s12 (Exists.intro none (And.intro (tX9_runs l (d + 0) hcv11) (And.intro (fun hb => ?_) (fun hb => ?_)))))))
                · have hf := am_if hf hb
                  show X 100 [(0, .inr (.inr ((10, 0, 0), 215))), (1, .inl a1), (2, .inl a2), (3, .inr (.inl x4)), (5, .inl x5), (6, .inr (.inl x6))] [] s12
                  obtain ⟨v18, hcv18, hf⟩ := am_r_of hf
                  refine am_blk hX 56 4 (And.intro rfl (And.intro rfl (Exists.intro s12 (Exists.intro (some (.inl v18)) (And.intro (tX9_firstAt l (d + 3) hcv18) (?_))))))
                  show X 106 [(0, .inr (.inr ((10, 0, 0), 215))), (1, .inl a1), (2, .inl a2), (3, .inr (.inl x4)), (5, .inl x5), (6, .inr (.inl x6))] [.inl v18] s12
                  exact am_wk hX [0, 1, 2, 3, 4, 5] (hJ106 v18 hf)
                · have hf := am_it hf hb
                  show X 96 [(0, .inr (.inr ((10, 0, 0), 215))), (1, .inl a1), (2, .inl a2), (3, .inr (.inl x4)), (5, .inl x5), (6, .inr (.inl x6))] [] s12
                  refine am_blk hX 54 2 (?_)
                  show X 106 [(0, .inr (.inr ((10, 0, 0), 215))), (1, .inl a1), (2, .inl a2), (3, .inr (.inl x4)), (5, .inl x5), (6, .inr (.inl x6))] [.inl (-1 : Int32)] s12
                  exact am_wk hX [0, 1, 2, 3, 4, 5] (hJ106 (-1 : Int32) hf)
            · have hf := am_it hf hb
              show X 77 [(0, .inr (.inr ((10, 0, 0), 215))), (1, .inl a1), (2, .inl a2), (3, .inr (.inl x4)), (5, .inl x5), (6, .inr (.inl x6))] [] s3
              refine am_blk hX 44 1 (?_)
              show X 150 [(0, .inr (.inr ((10, 0, 0), 215))), (1, .inl a1), (2, .inl a2), (3, .inr (.inl x4)), (5, .inl x5), (6, .inr (.inl x6))] [] s3
              exact am_wk hX [0, 1, 2, 3, 4] (hJ150 s3 x4 hf)
        · intro J70 hJ70 hf
          have hL23 : ∀ (n23 : Nat) (x19 : Int64) (x20 : Int32), fX9_rains_L23 a1 s3 x5 J70 n23 x19 x20 = some (sE, rE) → X 23 [(0, .inr (.inr ((10, 0, 0), 215))), (1, .inl a1), (2, .inl a2), (3, .inr (.inl x4)), (5, .inl x5), (6, .inr (.inl x19)), (8, .inl x20)] [] s3 := by
            intro n23
            induction n23 with
            | zero => intro x19 x20 hf; exact am_no (show none = some _ from hf)
            | succ n23 ih23 =>
              intro x19 x20 hf
              refine am_blk hX 15 3 (And.intro (fun hb => ?_) (fun hb => ?_))
              · have hf := am_it hf hb
                show X 70 [(0, .inr (.inr ((10, 0, 0), 215))), (1, .inl a1), (2, .inl a2), (3, .inr (.inl x4)), (5, .inl x5), (6, .inr (.inl x19)), (8, .inl x20)] [] s3
                exact am_wk hX [0, 1, 2, 3, 4, 5] (hJ70 x19 hf)
              · have hf := am_if hf hb
                show X 29 [(0, .inr (.inr ((10, 0, 0), 215))), (1, .inl a1), (2, .inl a2), (3, .inr (.inl x4)), (5, .inl x5), (6, .inr (.inl x19)), (8, .inl x20)] [] s3
                obtain ⟨v21, hcv21, hf⟩ := am_r_of hf
                refine am_jn hf (fun J61 => ∀ (x22 : Int64), J61 x22 = some (sE, rE) → X 61 [(0, .inr (.inr ((10, 0, 0), 215))), (1, .inl a1), (2, .inl a2), (3, .inr (.inl x4)), (5, .inl x5), (8, .inl x20)] [.inr (.inl x22), .inr (.inl x19)] s3) ?_ ?_
                · intro x22 hf
                  refine am_blk hX 36 2 (am_nl (Z := fun x23 => X 64 [(6, .inr (.inl x23)), (0, .inr (.inr ((10, 0, 0), 215))), (1, .inl a1), (2, .inl a2), (3, .inr (.inl x4)), (5, .inl x5), (8, .inl x20)] [] s3) hf (fun x23 hf => ?_))
                  refine am_blk hX 38 1 (am_nl (Z := fun x24 => X 67 [(8, .inl x24), (6, .inr (.inl x23)), (0, .inr (.inr ((10, 0, 0), 215))), (1, .inl a1), (2, .inl a2), (3, .inr (.inl x4)), (5, .inl x5)] [] s3) hf (fun x24 hf => ?_))
                  refine am_blk hX 39 1 (?_)
                  show X 23 [(8, .inl x24), (6, .inr (.inl x23)), (0, .inr (.inr ((10, 0, 0), 215))), (1, .inl a1), (2, .inl a2), (3, .inr (.inl x4)), (5, .inl x5)] [] s3
                  exact am_wk hX [2, 3, 4, 5, 6, 1, 0] (ih23 x23 x24 hf)
                · intro J61 hJ61 hf
                  refine am_blk hX 18 5 (And.intro rfl (Exists.intro s3 (Exists.intro (some (.inl v21)) (And.intro (tX9_isBit l (d + 3) hcv21) (And.intro (fun hb => ?_) (fun hb => ?_))))))
                  · have hf := am_it hf hb
                    show X 51 [(0, .inr (.inr ((10, 0, 0), 215))), (1, .inl a1), (2, .inl a2), (3, .inr (.inl x4)), (5, .inl x5), (6, .inr (.inl x19)), (8, .inl x20)] [.inr (.inl x19)] s3
                    obtain ⟨g25, hf⟩ := am_g_of hf
                    refine am_blk hX 29 7 (And.intro rfl (And.intro rfl (And.intro g25 (?_))))
                    show X 61 [(0, .inr (.inr ((10, 0, 0), 215))), (1, .inl a1), (2, .inl a2), (3, .inr (.inl x4)), (5, .inl x5), (6, .inr (.inl x19)), (8, .inl x20)] [.inr (.inl (((10 : Int32) - (s3.1 222 ((3 : Int32).toNatClampNeg))).toInt64)), .inr (.inl x19)] s3
                    exact am_wk hX [0, 1, 2, 3, 4, 6] (hJ61 (((10 : Int32) - (s3.1 222 ((3 : Int32).toNatClampNeg))).toInt64) hf)
                  · have hf := am_if hf hb
                    show X 41 [(0, .inr (.inr ((10, 0, 0), 215))), (1, .inl a1), (2, .inl a2), (3, .inr (.inl x4)), (5, .inl x5), (6, .inr (.inl x19)), (8, .inl x20)] [.inr (.inl x19)] s3
                    obtain ⟨g26, hf⟩ := am_g_of hf
                    refine am_blk hX 23 6 (And.intro rfl (And.intro rfl (And.intro g26 (?_))))
                    show X 61 [(0, .inr (.inr ((10, 0, 0), 215))), (1, .inl a1), (2, .inl a2), (3, .inr (.inl x4)), (5, .inl x5), (6, .inr (.inl x19)), (8, .inl x20)] [.inr (.inl ((s3.1 222 ((3 : Int32).toNatClampNeg)).toInt64)), .inr (.inl x19)] s3
                    exact am_wk hX [0, 1, 2, 3, 4, 6] (hJ61 ((s3.1 222 ((3 : Int32).toNatClampNeg)).toInt64) hf)
          refine am_blk hX 11 4 (?_)
          show X 23 [(8, .inl (0 : Int32)), (6, .inr (.inl (1 : Int64))), (0, .inr (.inr ((10, 0, 0), 215))), (1, .inl a1), (2, .inl a2), (3, .inr (.inl x4)), (5, .inl x5)] [] s3
          exact am_wk hX [2, 3, 4, 5, 6, 1, 0] (hL23 am_fu (1 : Int64) (0 : Int32) hf)
  refine am_blk hX 0 6 (And.intro rfl (And.intro rfl (Exists.intro s2 (Exists.intro none (And.intro (tX9_lays l (d + 3) hcv1) (?_))))))
  show X 9 [(5, .inl (0 : Int32)), (3, .inr (.inl (0 : Int64))), (0, .inr (.inr ((10, 0, 0), 215))), (1, .inl a1), (2, .inl a2)] [] s2
  exact am_wk hX [2, 3, 4, 1, 0] (hL9 am_fu s2 (0 : Int64) (0 : Int32) hf)
def fX9_tens : Nat → Int32 → Option Int64
  | 0, _ => none
  | n0 + 1, a0 => am_let (fun (x1 : Int64) => some x1) (fun J18 => if a0 = 0 then (J18 (1 : Int64)) else (am_r (fX9_tens n0 (a0 - (1 : Int32))) (fun (v2 : Int64) => J18 ((10 : Int64) * v2))))
def kX9_tens : List (Nat × Instr × Nat) := [(0, .iload_n 0, 1), (1, .ifCond .ne 7, 3), (4, .lconst 1, 1), (5, .goto 13, 3), (8, .ldc2_w 408, 3), (11, .iload_n 0, 1), (12, .iconst 1, 1), (13, .isub, 1), (14, .invokestatic 410, 3), (17, .lmul, 1), (18, .lreturn, 1)]
theorem qX9_tens : ∀ q ∈ kX9_tens, decode mX9_tens.2.2.1 q.1 = .ok (q.2.1, q.2.2) ∧ am_iok mX9_tens.2.2.2.1 q.1 q.2.1 q.2.2 = true := by decide +kernel
set_option maxRecDepth 100000 in
theorem wX9_tens : Cond.code mX9_tens.2.1 mX9_tens.2.2.1 mX9_tens.2.2.2.1 mX9_tens.2.2.2.2.1 ∈ am_T := List.mem_filter.mpr ⟨List.mem_of_getElem? (i := 1939) rfl, rfl⟩
set_option maxHeartbeats 4000000 in
set_option maxRecDepth 100000 in
theorem tX9_tens_r (l : Launch) (d : Nat) : ∀ (n0 : Nat) {s0 : AS} {a0 : Int32} {rE : Int64} (hf : fX9_tens n0 a0 = some rE), am_Ct l (d + n0) mX9_tens [.inl a0] s0 s0 (some (.inr (.inl rE))) := by
  intro n0
  induction n0 with
  | zero => intro s0 a0 rE hf; exact am_no (show none = some _ from hf)
  | succ n0 ih0 =>
    intro s0 a0 rE hf
    refine am_sim l (d + n0) (code := kX9_tens) (by decide +kernel) wX9_tens qX9_tens (Nat.le_of_ble_eq_true rfl) ?_
    intro X hX
    show X 0 [(0, .inl a0)] [] s0
    refine am_jn hf (fun J18 => ∀ (x1 : Int64), J18 x1 = some rE → X 18 [] [.inr (.inl x1)] s0) ?_ ?_
    · intro x1 hf
      refine am_blk hX 10 1 (And.intro rfl (am_rpl hf))
    · intro J18 hJ18 hf
      refine am_blk hX 0 2 (And.intro (fun hb => ?_) (fun hb => ?_))
      · have hf := am_if hf hb
        show X 8 [(0, .inl a0)] [] s0
        obtain ⟨v2, hcv2, hf⟩ := am_r_of hf
        refine am_blk hX 4 6 (And.intro rfl (Exists.intro s0 (Exists.intro (some (.inr (.inl v2))) (And.intro (ih0 hcv2) (?_)))))
        show X 18 [(0, .inl a0)] [.inr (.inl ((10 : Int64) * v2))] s0
        exact am_wk hX [] (hJ18 ((10 : Int64) * v2) hf)
      · have hf := am_it hf hb
        show X 4 [(0, .inl a0)] [] s0
        refine am_blk hX 2 2 (?_)
        show X 18 [(0, .inl a0)] [.inr (.inl (1 : Int64))] s0
        exact am_wk hX [] (hJ18 (1 : Int64) hf)
theorem tX9_tens (l : Launch) (d : Nat) {s0 : AS} {a0 : Int32} {rE : Int64} (hf : fX9_tens 12 a0 = some rE) : am_Ct l (d + 12) mX9_tens [.inl a0] s0 s0 (some (.inr (.inl rE))) := tX9_tens_r l d 12 hf
def fX9_common : Nat → Int64 → Int64 → Option Int64
  | 0, _, _ => none
  | n0 + 1, a0, a2 => am_let (fun (x1 : Int64) => some x1) (fun J17 => if (lg_cmp a2 (0 : Int64)) = 0 then (J17 a0) else (am_g (¬ a2 = 0) (am_r (fX9_common n0 a2 (a0 - a0 / a2 * a2)) (fun (v3 : Int64) => J17 v3))))
def kX9_common : List (Nat × Instr × Nat) := [(0, .lload_n 2, 1), (1, .lconst 0, 1), (2, .lcmp, 1), (3, .ifCond .ne 7, 3), (6, .lload_n 0, 1), (7, .goto 10, 3), (10, .lload_n 2, 1), (11, .lload_n 0, 1), (12, .lload_n 2, 1), (13, .lrem, 1), (14, .invokestatic 404, 3), (17, .lreturn, 1)]
theorem qX9_common : ∀ q ∈ kX9_common, decode mX9_common.2.2.1 q.1 = .ok (q.2.1, q.2.2) ∧ am_iok mX9_common.2.2.2.1 q.1 q.2.1 q.2.2 = true := by decide +kernel
set_option maxRecDepth 100000 in
theorem wX9_common : Cond.code mX9_common.2.1 mX9_common.2.2.1 mX9_common.2.2.2.1 mX9_common.2.2.2.2.1 ∈ am_T := List.mem_filter.mpr ⟨List.mem_of_getElem? (i := 1943) rfl, rfl⟩
set_option maxHeartbeats 4000000 in
set_option maxRecDepth 100000 in
theorem tX9_common_r (l : Launch) (d : Nat) : ∀ (n0 : Nat) {s0 : AS} {a0 : Int64} {a2 : Int64} {rE : Int64} (hf : fX9_common n0 a0 a2 = some rE), am_Ct l (d + n0) mX9_common [.inr (.inl a0), .inr (.inl a2)] s0 s0 (some (.inr (.inl rE))) := by
  intro n0
  induction n0 with
  | zero => intro s0 a0 a2 rE hf; exact am_no (show none = some _ from hf)
  | succ n0 ih0 =>
    intro s0 a0 a2 rE hf
    refine am_sim l (d + n0) (code := kX9_common) (by decide +kernel) wX9_common qX9_common (Nat.le_of_ble_eq_true rfl) ?_
    intro X hX
    show X 0 [(0, .inr (.inl a0)), (2, .inr (.inl a2))] [] s0
    refine am_jn hf (fun J17 => ∀ (x1 : Int64), J17 x1 = some rE → X 17 [] [.inr (.inl x1)] s0) ?_ ?_
    · intro x1 hf
      refine am_blk hX 11 1 (And.intro rfl (am_rpl hf))
    · intro J17 hJ17 hf
      refine am_blk hX 0 4 (And.intro (fun hb => ?_) (fun hb => ?_))
      · have hf := am_if hf hb
        show X 10 [(0, .inr (.inl a0)), (2, .inr (.inl a2))] [] s0
        obtain ⟨g2, hf⟩ := am_g_of hf
        obtain ⟨v3, hcv3, hf⟩ := am_r_of hf
        refine am_blk hX 6 5 (And.intro g2 (And.intro rfl (Exists.intro s0 (Exists.intro (some (.inr (.inl v3))) (And.intro (ih0 hcv3) (?_))))))
        show X 17 [(0, .inr (.inl a0)), (2, .inr (.inl a2))] [.inr (.inl v3)] s0
        exact am_wk hX [] (hJ17 v3 hf)
      · have hf := am_it hf hb
        show X 6 [(0, .inr (.inl a0)), (2, .inr (.inl a2))] [] s0
        refine am_blk hX 4 2 (?_)
        show X 17 [(0, .inr (.inl a0)), (2, .inr (.inl a2))] [.inr (.inl a0)] s0
        exact am_wk hX [] (hJ17 a0 hf)
theorem tX9_common (l : Launch) (d : Nat) {s0 : AS} {a0 : Int64} {a2 : Int64} {rE : Int64} (hf : fX9_common 80 a0 a2 = some rE) : am_Ct l (d + 80) mX9_common [.inr (.inl a0), .inr (.inl a2)] s0 s0 (some (.inr (.inl rE))) := tX9_common_r l d 80 hf
def fX9_told (a1 : Int64) (a3 : Int32) (a4 : Int32) : Option Int64 :=
  am_r (fX9_tens 12 (a3 + (1 : Int32))) (fun (v1 : Int64) => am_let (fun (x2 : Int64) => am_r (fX9_common 80 a1 v1) (fun (v3 : Int64) => am_g (¬ v3 = 0) (some (x2 / v3)))) (fun J19 => if a4 = 0 then (J19 a1) else (J19 v1)))
def kX9_told : List (Nat × Instr × Nat) := [(0, .iload_n 3, 1), (1, .iconst 1, 1), (2, .iadd, 1), (3, .invokestatic 410, 3), (6, .lstore 5, 2), (8, .iload 4, 2), (10, .ifCond .ne 7, 3), (13, .lload_n 1, 1), (14, .goto 5, 3), (17, .lload 5, 2), (19, .lload_n 1, 1), (20, .lload 5, 2), (22, .invokestatic 404, 3), (25, .ldiv, 1), (26, .lreturn, 1)]
theorem qX9_told : ∀ q ∈ kX9_told, decode mX9_told.2.2.1 q.1 = .ok (q.2.1, q.2.2) ∧ am_iok mX9_told.2.2.2.1 q.1 q.2.1 q.2.2 = true := by decide +kernel
set_option maxRecDepth 100000 in
theorem wX9_told : Cond.code mX9_told.2.1 mX9_told.2.2.1 mX9_told.2.2.2.1 mX9_told.2.2.2.2.1 ∈ am_T := List.mem_filter.mpr ⟨List.mem_of_getElem? (i := 1936) rfl, rfl⟩
set_option maxHeartbeats 4000000 in
set_option maxRecDepth 100000 in
theorem tX9_told (l : Launch) (d : Nat) {s0 : AS} {a1 : Int64} {a3 : Int32} {a4 : Int32} {rE : Int64} (hf : fX9_told a1 a3 a4 = some rE) : am_Ct l (d + 81) mX9_told [.inr (.inr ((10, 0, 0), 215)), .inr (.inl a1), .inl a3, .inl a4] s0 s0 (some (.inr (.inl rE))) := by
  refine am_sim l (d + 80) (code := kX9_told) (by decide +kernel) wX9_told qX9_told (Nat.le_of_ble_eq_true rfl) ?_
  intro X hX
  show X 0 [(0, .inr (.inr ((10, 0, 0), 215))), (1, .inr (.inl a1)), (3, .inl a3), (4, .inl a4)] [] s0
  unfold fX9_told at hf
  obtain ⟨v1, hcv1, hf⟩ := am_r_of hf
  refine am_jn hf (fun J19 => ∀ (x2 : Int64), J19 x2 = some rE → X 19 [(1, .inr (.inl a1)), (5, .inr (.inl v1))] [.inr (.inl x2)] s0) ?_ ?_
  · intro x2 hf
    obtain ⟨v3, hcv3, hf⟩ := am_r_of hf
    obtain ⟨g4, hf⟩ := am_g_of hf
    refine am_blk hX 10 5 (And.intro rfl (Exists.intro s0 (Exists.intro (some (.inr (.inl v3))) (And.intro (tX9_common l (d + 0) hcv3) (And.intro g4 (And.intro rfl (am_rpl hf)))))))
  · intro J19 hJ19 hf
    refine am_blk hX 0 7 (And.intro rfl (Exists.intro s0 (Exists.intro (some (.inr (.inl v1))) (And.intro (tX9_tens l (d + 68) hcv1) (And.intro (fun hb => ?_) (fun hb => ?_))))))
    · have hf := am_if hf hb
      show X 17 [(5, .inr (.inl v1)), (0, .inr (.inr ((10, 0, 0), 215))), (1, .inr (.inl a1)), (3, .inl a3), (4, .inl a4)] [] s0
      refine am_blk hX 9 1 (?_)
      show X 19 [(5, .inr (.inl v1)), (0, .inr (.inr ((10, 0, 0), 215))), (1, .inr (.inl a1)), (3, .inl a3), (4, .inl a4)] [.inr (.inl v1)] s0
      exact am_wk hX [2, 0] (hJ19 v1 hf)
    · have hf := am_it hf hb
      show X 13 [(5, .inr (.inl v1)), (0, .inr (.inr ((10, 0, 0), 215))), (1, .inr (.inl a1)), (3, .inl a3), (4, .inl a4)] [] s0
      refine am_blk hX 7 2 (?_)
      show X 19 [(5, .inr (.inl v1)), (0, .inr (.inr ((10, 0, 0), 215))), (1, .inr (.inl a1)), (3, .inl a3), (4, .inl a4)] [.inr (.inl a1)] s0
      exact am_wk hX [2, 0] (hJ19 a1 hf)
def fX9_chance (s0 : AS) (a1 : Int32) (a2 : Int32) (a3 : Int32) : Option (AS × Int64) :=
  am_let (am_si s0 215 0 (0 : Int32)) (fun (s1 : AS) => am_r (fX9_isPlace s1 a1.toInt64) (fun (v2 : Int32) => am_let (fun (s3 : AS) (x4 : Int64) => some (s3, x4)) (fun J47 => am_let (J47 s1 (-2 : Int64)) (fun J44 => if v2 = 0 then (J44) else (am_r (fX9_isRain s1 a2) (fun (v5 : Int32) => if v5 = 0 then (J44) else (am_r (fX9_isHalf a3) (fun (v6 : Int32) => if v6 = 0 then (J44) else (am_c (fX9_rains s1 a2 a1) (fun (s8 : AS) (v7 : Int64) => am_r (fX9_told v7 a2 a3) (fun (v9 : Int64) => J47 s8 v9)))))))))))
def kX9_chance : List (Nat × Instr × Nat) := [(0, .aload_n 0, 1), (1, .iconst 0, 1), (2, .putfield 80, 3), (5, .aload_n 0, 1), (6, .iload_n 1, 1), (7, .i2l, 1), (8, .invokevirtual 349, 3), (11, .ifCond .eq 33, 3), (14, .aload_n 0, 1), (15, .iload_n 2, 1), (16, .invokevirtual 416, 3), (19, .ifCond .eq 25, 3), (22, .iload_n 3, 1), (23, .invokestatic 419, 3), (26, .ifCond .eq 18, 3), (29, .aload_n 0, 1), (30, .aload_n 0, 1), (31, .iload_n 2, 1), (32, .iload_n 1, 1), (33, .invokevirtual 422, 3), (36, .iload_n 2, 1), (37, .iload_n 3, 1), (38, .invokevirtual 426, 3), (41, .goto 6, 3), (44, .ldc2_w 430, 3), (47, .lreturn, 1)]
theorem qX9_chance : ∀ q ∈ kX9_chance, decode mX9_chance.2.2.1 q.1 = .ok (q.2.1, q.2.2) ∧ am_iok mX9_chance.2.2.2.1 q.1 q.2.1 q.2.2 = true := by decide +kernel
set_option maxRecDepth 100000 in
theorem wX9_chance : Cond.code mX9_chance.2.1 mX9_chance.2.2.1 mX9_chance.2.2.2.1 mX9_chance.2.2.2.2.1 ∈ am_T := List.mem_filter.mpr ⟨List.mem_of_getElem? (i := 1920) rfl, rfl⟩
set_option maxHeartbeats 4000000 in
set_option maxRecDepth 100000 in
theorem tX9_chance (l : Launch) (d : Nat) {s0 : AS} {a1 : Int32} {a2 : Int32} {a3 : Int32} {sE : AS} {rE : Int64} (hf : fX9_chance s0 a1 a2 a3 = some (sE, rE)) : am_Ct l (d + 82) mX9_chance [.inr (.inr ((10, 0, 0), 215)), .inl a1, .inl a2, .inl a3] s0 sE (some (.inr (.inl rE))) := by
  refine am_sim l (d + 81) (code := kX9_chance) (by decide +kernel) wX9_chance qX9_chance (Nat.le_of_ble_eq_true rfl) ?_
  intro X hX
  show X 0 [(0, .inr (.inr ((10, 0, 0), 215))), (1, .inl a1), (2, .inl a2), (3, .inl a3)] [] s0
  unfold fX9_chance at hf
  refine am_blk hX 0 3 (And.intro rfl (am_nl (Z := fun s1 => X 5 [(0, .inr (.inr ((10, 0, 0), 215))), (1, .inl a1), (2, .inl a2), (3, .inl a3)] [] s1) hf (fun s1 hf => ?_)))
  obtain ⟨v2, hcv2, hf⟩ := am_r_of hf
  refine am_jn hf (fun J47 => ∀ (s3 : AS) (x4 : Int64), J47 s3 x4 = some (sE, rE) → X 47 [] [.inr (.inl x4)] s3) ?_ ?_
  · intro s3 x4 hf
    refine am_blk hX 25 1 (And.intro rfl (am_rl hf))
  · intro J47 hJ47 hf
    refine am_jn hf (fun J44 => J44 = some (sE, rE) → X 44 [] [] s1) ?_ ?_
    · intro hf
      refine am_blk hX 24 1 (?_)
      show X 47 [] [.inr (.inl (-2 : Int64))] s1
      exact am_wk hX [] (hJ47 s1 (-2 : Int64) hf)
    · intro J44 hJ44 hf
      refine am_blk hX 3 5 (And.intro rfl (And.intro rfl (Exists.intro s1 (Exists.intro (some (.inl v2)) (And.intro (tX9_isPlace l (d + 79) hcv2) (And.intro (fun hb => ?_) (fun hb => ?_)))))))
      · have hf := am_it hf hb
        show X 44 [(0, .inr (.inr ((10, 0, 0), 215))), (1, .inl a1), (2, .inl a2), (3, .inl a3)] [] s1
        exact am_wk hX [] (hJ44 hf)
      · have hf := am_if hf hb
        show X 14 [(0, .inr (.inr ((10, 0, 0), 215))), (1, .inl a1), (2, .inl a2), (3, .inl a3)] [] s1
        obtain ⟨v5, hcv5, hf⟩ := am_r_of hf
        refine am_blk hX 8 4 (And.intro rfl (And.intro rfl (Exists.intro s1 (Exists.intro (some (.inl v5)) (And.intro (tX9_isRain l (d + 79) hcv5) (And.intro (fun hb => ?_) (fun hb => ?_)))))))
        · have hf := am_it hf hb
          show X 44 [(0, .inr (.inr ((10, 0, 0), 215))), (1, .inl a1), (2, .inl a2), (3, .inl a3)] [] s1
          exact am_wk hX [] (hJ44 hf)
        · have hf := am_if hf hb
          show X 22 [(0, .inr (.inr ((10, 0, 0), 215))), (1, .inl a1), (2, .inl a2), (3, .inl a3)] [] s1
          obtain ⟨v6, hcv6, hf⟩ := am_r_of hf
          refine am_blk hX 12 3 (And.intro rfl (Exists.intro s1 (Exists.intro (some (.inl v6)) (And.intro (tX9_isHalf l (d + 79) hcv6) (And.intro (fun hb => ?_) (fun hb => ?_))))))
          · have hf := am_it hf hb
            show X 44 [(0, .inr (.inr ((10, 0, 0), 215))), (1, .inl a1), (2, .inl a2), (3, .inl a3)] [] s1
            exact am_wk hX [] (hJ44 hf)
          · have hf := am_if hf hb
            show X 29 [(0, .inr (.inr ((10, 0, 0), 215))), (1, .inl a1), (2, .inl a2), (3, .inl a3)] [] s1
            obtain ⟨s8, v7, hcv7, hf⟩ := am_c_of hf
            obtain ⟨v9, hcv9, hf⟩ := am_r_of hf
            refine am_blk hX 15 9 (And.intro rfl (And.intro rfl (Exists.intro s8 (Exists.intro (some (.inr (.inl v7))) (And.intro (tX9_rains l (d + 76) hcv7) (And.intro rfl (And.intro rfl (Exists.intro s8 (Exists.intro (some (.inr (.inl v9))) (And.intro (tX9_told l (d + 0) hcv9) (?_)))))))))))
            show X 47 [(0, .inr (.inr ((10, 0, 0), 215))), (1, .inl a1), (2, .inl a2), (3, .inl a3)] [.inr (.inl v9)] s8
            exact am_wk hX [] (hJ47 s8 v9 hf)
def fX9_tells (s0 : AS) (a1 : Int32) (a2 : Int32) : Option (AS × Unit) :=
  am_g (¬ (((28 : Int32) + a1) < 0 ∨ 35 ≤ ((28 : Int32) + a1).toNatClampNeg)) (am_let (am_si s0 222 (((28 : Int32) + a1).toNatClampNeg) a2) (fun (s2 : AS) => some (s2, ())))
def kX9_tells : List (Nat × Instr × Nat) := [(0, .aload_n 0, 1), (1, .getfield 34, 3), (4, .bipush 28, 2), (6, .iload_n 1, 1), (7, .iadd, 1), (8, .iload_n 2, 1), (9, .iastore, 1), (10, .return_, 1)]
theorem qX9_tells : ∀ q ∈ kX9_tells, decode mX9_tells.2.2.1 q.1 = .ok (q.2.1, q.2.2) ∧ am_iok mX9_tells.2.2.2.1 q.1 q.2.1 q.2.2 = true := by decide +kernel
set_option maxRecDepth 100000 in
theorem wX9_tells : Cond.code mX9_tells.2.1 mX9_tells.2.2.1 mX9_tells.2.2.2.1 mX9_tells.2.2.2.2.1 ∈ am_T := List.mem_filter.mpr ⟨List.mem_of_getElem? (i := 1493) rfl, rfl⟩
set_option maxHeartbeats 4000000 in
set_option maxRecDepth 100000 in
theorem tX9_tells (l : Launch) (d : Nat) {s0 : AS} {a1 : Int32} {a2 : Int32} {sE : AS} {rE : Unit} (hf : fX9_tells s0 a1 a2 = some (sE, rE)) : am_Ct l (d + 1) mX9_tells [.inr (.inr ((10, 0, 0), 215)), .inl a1, .inl a2] s0 sE none := by
  refine am_sim l (d + 0) (code := kX9_tells) (by decide +kernel) wX9_tells qX9_tells (Nat.le_of_ble_eq_true rfl) ?_
  intro X hX
  show X 0 [(0, .inr (.inr ((10, 0, 0), 215))), (1, .inl a1), (2, .inl a2)] [] s0
  unfold fX9_tells at hf
  obtain ⟨g1, hf⟩ := am_g_of hf
  refine am_blk hX 0 7 (And.intro rfl (And.intro rfl (And.intro g1 (am_nl (Z := fun s2 => X 10 [(0, .inr (.inr ((10, 0, 0), 215))), (1, .inl a1), (2, .inl a2)] [] s2) hf (fun s2 hf => ?_)))))
  refine am_blk hX 7 1 (And.intro rfl (am_rv hf))
def fX9_clears_L29 : Nat → AS → Int32 → Option (AS × Unit)
  | 0, _, _ => none
  | n29 + 1, s4, x5 =>
    if (6 : Int32) ≤ x5 then (some (s4, ())) else (am_g (¬ (((24 : Int32) + x5) < 0 ∨ 30 ≤ ((24 : Int32) + x5).toNatClampNeg)) (am_let (am_si s4 225 (((24 : Int32) + x5).toNatClampNeg) (0 : Int32)) (fun (s7 : AS) => am_let (x5 + (1 : Int32)) (fun (x8 : Int32) => fX9_clears_L29 n29 s7 x8))))
def fX9_clears_L9 (J27 : AS → Option (AS × Unit)) : Nat → AS → Int32 → Option (AS × Unit)
  | 0, _, _ => none
  | n9 + 1, s9, x10 =>
    if (7 : Int32) ≤ x10 then (J27 s9) else (am_c (fX9_tells s9 x10 (0 : Int32)) (fun (s12 : AS) (v11 : Unit) => am_let (x10 + (1 : Int32)) (fun (x13 : Int32) => fX9_clears_L9 J27 n9 s12 x13)))
def fX9_clears (s0 : AS) : Option (AS × Unit) :=
  am_g (¬ ((4 : Int32) < 0 ∨ 5 ≤ (4 : Int32).toNatClampNeg)) (am_let (am_si s0 221 ((4 : Int32).toNatClampNeg) (0 : Int32)) (fun (s2 : AS) => am_let (fun (s3 : AS) => fX9_clears_L29 am_fu s3 (0 : Int32)) (fun J27 => fX9_clears_L9 J27 am_fu s2 (0 : Int32))))
def kX9_clears : List (Nat × Instr × Nat) := [(0, .aload_n 0, 1), (1, .getfield 31, 3), (4, .iconst 4, 1), (5, .iconst 0, 1), (6, .iastore, 1), (7, .iconst 0, 1), (8, .istore_n 1, 1), (9, .iload_n 1, 1), (10, .bipush 7, 2), (12, .if_icmp .ge 15, 3), (15, .aload_n 0, 1), (16, .iload_n 1, 1), (17, .iconst 0, 1), (18, .invokevirtual 177, 3), (21, .iinc 1 1, 3), (24, .goto (-15), 3), (27, .iconst 0, 1), (28, .istore_n 1, 1), (29, .iload_n 1, 1), (30, .bipush 6, 2), (32, .if_icmp .ge 19, 3), (35, .aload_n 0, 1), (36, .getfield 43, 3), (39, .bipush 24, 2), (41, .iload_n 1, 1), (42, .iadd, 1), (43, .iconst 0, 1), (44, .iastore, 1), (45, .iinc 1 1, 3), (48, .goto (-19), 3), (51, .return_, 1)]
theorem qX9_clears : ∀ q ∈ kX9_clears, decode mX9_clears.2.2.1 q.1 = .ok (q.2.1, q.2.2) ∧ am_iok mX9_clears.2.2.2.1 q.1 q.2.1 q.2.2 = true := by decide +kernel
set_option maxRecDepth 100000 in
theorem wX9_clears : Cond.code mX9_clears.2.1 mX9_clears.2.2.1 mX9_clears.2.2.2.1 mX9_clears.2.2.2.2.1 ∈ am_T := List.mem_filter.mpr ⟨List.mem_of_getElem? (i := 1489) rfl, rfl⟩
set_option maxHeartbeats 4000000 in
set_option maxRecDepth 100000 in
theorem tX9_clears (l : Launch) (d : Nat) {s0 : AS} {sE : AS} {rE : Unit} (hf : fX9_clears s0 = some (sE, rE)) : am_Ct l (d + 2) mX9_clears [.inr (.inr ((10, 0, 0), 215))] s0 sE none := by
  refine am_sim l (d + 1) (code := kX9_clears) (by decide +kernel) wX9_clears qX9_clears (Nat.le_of_ble_eq_true rfl) ?_
  intro X hX
  show X 0 [(0, .inr (.inr ((10, 0, 0), 215)))] [] s0
  unfold fX9_clears at hf
  obtain ⟨g1, hf⟩ := am_g_of hf
  refine am_blk hX 0 5 (And.intro rfl (And.intro rfl (And.intro g1 (am_nl (Z := fun s2 => X 7 [(0, .inr (.inr ((10, 0, 0), 215)))] [] s2) hf (fun s2 hf => ?_)))))
  refine am_jn hf (fun J27 => ∀ (s3 : AS), J27 s3 = some (sE, rE) → X 27 [(0, .inr (.inr ((10, 0, 0), 215)))] [] s3) ?_ ?_
  · intro s3 hf
    have hL29 : ∀ (n29 : Nat) (s4 : AS) (x5 : Int32), fX9_clears_L29 n29 s4 x5 = some (sE, rE) → X 29 [(0, .inr (.inr ((10, 0, 0), 215))), (1, .inl x5)] [] s4 := by
      intro n29
      induction n29 with
      | zero => intro s4 x5 hf; exact am_no (show none = some _ from hf)
      | succ n29 ih29 =>
        intro s4 x5 hf
        refine am_blk hX 18 3 (And.intro (fun hb => ?_) (fun hb => ?_))
        · have hf := am_it hf hb
          show X 51 [(0, .inr (.inr ((10, 0, 0), 215))), (1, .inl x5)] [] s4
          refine am_blk hX 30 1 (And.intro rfl (am_rv hf))
        · have hf := am_if hf hb
          show X 35 [(0, .inr (.inr ((10, 0, 0), 215))), (1, .inl x5)] [] s4
          obtain ⟨g6, hf⟩ := am_g_of hf
          refine am_blk hX 21 7 (And.intro rfl (And.intro rfl (And.intro g6 (am_nl (Z := fun s7 => X 45 [(0, .inr (.inr ((10, 0, 0), 215))), (1, .inl x5)] [] s7) hf (fun s7 hf => ?_)))))
          refine am_blk hX 28 1 (am_nl (Z := fun x8 => X 48 [(1, .inl x8), (0, .inr (.inr ((10, 0, 0), 215)))] [] s7) hf (fun x8 hf => ?_))
          refine am_blk hX 29 1 (?_)
          show X 29 [(1, .inl x8), (0, .inr (.inr ((10, 0, 0), 215)))] [] s7
          exact am_wk hX [1, 0] (ih29 s7 x8 hf)
    refine am_blk hX 16 2 (?_)
    show X 29 [(1, .inl (0 : Int32)), (0, .inr (.inr ((10, 0, 0), 215)))] [] s3
    exact am_wk hX [1, 0] (hL29 am_fu s3 (0 : Int32) hf)
  · intro J27 hJ27 hf
    have hL9 : ∀ (n9 : Nat) (s9 : AS) (x10 : Int32), fX9_clears_L9 J27 n9 s9 x10 = some (sE, rE) → X 9 [(0, .inr (.inr ((10, 0, 0), 215))), (1, .inl x10)] [] s9 := by
      intro n9
      induction n9 with
      | zero => intro s9 x10 hf; exact am_no (show none = some _ from hf)
      | succ n9 ih9 =>
        intro s9 x10 hf
        refine am_blk hX 7 3 (And.intro (fun hb => ?_) (fun hb => ?_))
        · have hf := am_it hf hb
          show X 27 [(0, .inr (.inr ((10, 0, 0), 215))), (1, .inl x10)] [] s9
          exact am_wk hX [0] (hJ27 s9 hf)
        · have hf := am_if hf hb
          show X 15 [(0, .inr (.inr ((10, 0, 0), 215))), (1, .inl x10)] [] s9
          obtain ⟨s12, v11, hcv11, hf⟩ := am_c_of hf
          refine am_blk hX 10 5 (And.intro rfl (And.intro rfl (Exists.intro s12 (Exists.intro none (And.intro (tX9_tells l (d + 0) hcv11) (am_nl (Z := fun x13 => X 24 [(1, .inl x13), (0, .inr (.inr ((10, 0, 0), 215)))] [] s12) hf (fun x13 hf => ?_)))))))
          refine am_blk hX 15 1 (?_)
          show X 9 [(1, .inl x13), (0, .inr (.inr ((10, 0, 0), 215)))] [] s12
          exact am_wk hX [1, 0] (ih9 s12 x13 hf)
    refine am_blk hX 5 2 (?_)
    show X 9 [(1, .inl (0 : Int32)), (0, .inr (.inr ((10, 0, 0), 215)))] [] s2
    exact am_wk hX [1, 0] (hL9 am_fu s2 (0 : Int32) hf)
def fX9_comes (s0 : AS) (a1 : Int32) : Option (AS × Int32) :=
  am_let (am_si s0 215 0 (0 : Int32)) (fun (s1 : AS) => am_r (fX9_isPlace s1 a1.toInt64) (fun (v2 : Int32) => if v2 = 0 then (some (s1, (-2 : Int32))) else (am_c (fX9_laysNow s1) (fun (s4 : AS) (v3 : Unit) => am_r (fX9_firstAt s4 a1 (0 : Int32)) (fun (v5 : Int32) => some (s4, v5))))))
def kX9_comes : List (Nat × Instr × Nat) := [(0, .aload_n 0, 1), (1, .iconst 0, 1), (2, .putfield 80, 3), (5, .aload_n 0, 1), (6, .iload_n 1, 1), (7, .i2l, 1), (8, .invokevirtual 349, 3), (11, .ifCond .ne 6, 3), (14, .bipush (-2), 2), (16, .ireturn, 1), (17, .aload_n 0, 1), (18, .invokevirtual 358, 3), (21, .aload_n 0, 1), (22, .iload_n 1, 1), (23, .iconst 0, 1), (24, .invokevirtual 361, 3), (27, .ireturn, 1)]
theorem qX9_comes : ∀ q ∈ kX9_comes, decode mX9_comes.2.2.1 q.1 = .ok (q.2.1, q.2.2) ∧ am_iok mX9_comes.2.2.2.1 q.1 q.2.1 q.2.2 = true := by decide +kernel
set_option maxRecDepth 100000 in
theorem wX9_comes : Cond.code mX9_comes.2.1 mX9_comes.2.2.1 mX9_comes.2.2.2.1 mX9_comes.2.2.2.2.1 ∈ am_T := List.mem_filter.mpr ⟨List.mem_of_getElem? (i := 1726) rfl, rfl⟩
set_option maxHeartbeats 4000000 in
set_option maxRecDepth 100000 in
theorem tX9_comes (l : Launch) (d : Nat) {s0 : AS} {a1 : Int32} {sE : AS} {rE : Int32} (hf : fX9_comes s0 a1 = some (sE, rE)) : am_Ct l (d + 6) mX9_comes [.inr (.inr ((10, 0, 0), 215)), .inl a1] s0 sE (some (.inl rE)) := by
  refine am_sim l (d + 5) (code := kX9_comes) (by decide +kernel) wX9_comes qX9_comes (Nat.le_of_ble_eq_true rfl) ?_
  intro X hX
  show X 0 [(0, .inr (.inr ((10, 0, 0), 215))), (1, .inl a1)] [] s0
  unfold fX9_comes at hf
  refine am_blk hX 0 3 (And.intro rfl (am_nl (Z := fun s1 => X 5 [(0, .inr (.inr ((10, 0, 0), 215))), (1, .inl a1)] [] s1) hf (fun s1 hf => ?_)))
  obtain ⟨v2, hcv2, hf⟩ := am_r_of hf
  refine am_blk hX 3 5 (And.intro rfl (And.intro rfl (Exists.intro s1 (Exists.intro (some (.inl v2)) (And.intro (tX9_isPlace l (d + 3) hcv2) (And.intro (fun hb => ?_) (fun hb => ?_)))))))
  · have hf := am_if hf hb
    show X 17 [(0, .inr (.inr ((10, 0, 0), 215))), (1, .inl a1)] [] s1
    obtain ⟨s4, v3, hcv3, hf⟩ := am_c_of hf
    obtain ⟨v5, hcv5, hf⟩ := am_r_of hf
    refine am_blk hX 10 7 (And.intro rfl (And.intro rfl (Exists.intro s4 (Exists.intro none (And.intro (tX9_laysNow l (d + 0) hcv3) (And.intro rfl (And.intro rfl (Exists.intro s4 (Exists.intro (some (.inl v5)) (And.intro (tX9_firstAt l (d + 4) hcv5) (am_ri hf)))))))))))
  · have hf := am_it hf hb
    show X 14 [(0, .inr (.inr ((10, 0, 0), 215))), (1, .inl a1)] [] s1
    refine am_blk hX 8 2 (am_ri hf)
def fX9_content (s0 : AS) (a1 : Int32) : Option (AS × Int32) :=
  am_let (am_si s0 215 0 (0 : Int32)) (fun (s1 : AS) => am_r (fX9_isMarch s1) (fun (v2 : Int32) => am_let (fun (x3 : Int32) => some (s1, x3)) (fun J34 => am_let (J34 (-2 : Int32)) (fun J32 => if v2 = 0 then (J32) else (am_r (fX9_in a1.toInt64 (0 : Int64) (63 : Int64)) (fun (v4 : Int32) => if v4 = 0 then (J32) else (am_r (fX9_contentOf s1 a1) (fun (v5 : Int32) => J34 v5))))))))
def kX9_content : List (Nat × Instr × Nat) := [(0, .aload_n 0, 1), (1, .iconst 0, 1), (2, .putfield 80, 3), (5, .aload_n 0, 1), (6, .invokevirtual 251, 3), (9, .ifCond .eq 23, 3), (12, .iload_n 1, 1), (13, .i2l, 1), (14, .lconst 0, 1), (15, .ldc2_w 382, 3), (18, .invokestatic 85, 3), (21, .ifCond .eq 11, 3), (24, .aload_n 0, 1), (25, .iload_n 1, 1), (26, .invokevirtual 384, 3), (29, .goto 5, 3), (32, .bipush (-2), 2), (34, .ireturn, 1)]
theorem qX9_content : ∀ q ∈ kX9_content, decode mX9_content.2.2.1 q.1 = .ok (q.2.1, q.2.2) ∧ am_iok mX9_content.2.2.2.1 q.1 q.2.1 q.2.2 = true := by decide +kernel
set_option maxRecDepth 100000 in
theorem wX9_content : Cond.code mX9_content.2.1 mX9_content.2.2.1 mX9_content.2.2.2.1 mX9_content.2.2.2.2.1 ∈ am_T := List.mem_filter.mpr ⟨List.mem_of_getElem? (i := 1854) rfl, rfl⟩
set_option maxHeartbeats 4000000 in
set_option maxRecDepth 100000 in
theorem tX9_content (l : Launch) (d : Nat) {s0 : AS} {a1 : Int32} {sE : AS} {rE : Int32} (hf : fX9_content s0 a1 = some (sE, rE)) : am_Ct l (d + 3) mX9_content [.inr (.inr ((10, 0, 0), 215)), .inl a1] s0 sE (some (.inl rE)) := by
  refine am_sim l (d + 2) (code := kX9_content) (by decide +kernel) wX9_content qX9_content (Nat.le_of_ble_eq_true rfl) ?_
  intro X hX
  show X 0 [(0, .inr (.inr ((10, 0, 0), 215))), (1, .inl a1)] [] s0
  unfold fX9_content at hf
  refine am_blk hX 0 3 (And.intro rfl (am_nl (Z := fun s1 => X 5 [(0, .inr (.inr ((10, 0, 0), 215))), (1, .inl a1)] [] s1) hf (fun s1 hf => ?_)))
  obtain ⟨v2, hcv2, hf⟩ := am_r_of hf
  refine am_jn hf (fun J34 => ∀ (x3 : Int32), J34 x3 = some (sE, rE) → X 34 [] [.inl x3] s1) ?_ ?_
  · intro x3 hf
    refine am_blk hX 17 1 (am_ri hf)
  · intro J34 hJ34 hf
    refine am_jn hf (fun J32 => J32 = some (sE, rE) → X 32 [] [] s1) ?_ ?_
    · intro hf
      refine am_blk hX 16 1 (?_)
      show X 34 [] [.inl (-2 : Int32)] s1
      exact am_wk hX [] (hJ34 (-2 : Int32) hf)
    · intro J32 hJ32 hf
      refine am_blk hX 3 3 (And.intro rfl (And.intro rfl (Exists.intro s1 (Exists.intro (some (.inl v2)) (And.intro (tX9_isMarch l (d + 1) hcv2) (And.intro (fun hb => ?_) (fun hb => ?_)))))))
      · have hf := am_it hf hb
        show X 32 [(0, .inr (.inr ((10, 0, 0), 215))), (1, .inl a1)] [] s1
        exact am_wk hX [] (hJ32 hf)
      · have hf := am_if hf hb
        show X 12 [(0, .inr (.inr ((10, 0, 0), 215))), (1, .inl a1)] [] s1
        obtain ⟨v4, hcv4, hf⟩ := am_r_of hf
        refine am_blk hX 6 6 (And.intro rfl (Exists.intro s1 (Exists.intro (some (.inl v4)) (And.intro (tX9_in l (d + 1) hcv4) (And.intro (fun hb => ?_) (fun hb => ?_))))))
        · have hf := am_it hf hb
          show X 32 [(0, .inr (.inr ((10, 0, 0), 215))), (1, .inl a1)] [] s1
          exact am_wk hX [] (hJ32 hf)
        · have hf := am_if hf hb
          show X 24 [(0, .inr (.inr ((10, 0, 0), 215))), (1, .inl a1)] [] s1
          obtain ⟨v5, hcv5, hf⟩ := am_r_of hf
          refine am_blk hX 12 4 (And.intro rfl (And.intro rfl (Exists.intro s1 (Exists.intro (some (.inl v5)) (And.intro (tX9_contentOf l (d + 0) hcv5) (?_))))))
          show X 34 [(0, .inr (.inr ((10, 0, 0), 215))), (1, .inl a1)] [.inl v5] s1
          exact am_wk hX [] (hJ34 v5 hf)
def fX9_costs (s0 : AS) : Option (AS × Int32) :=
  am_let (am_si s0 215 0 (0 : Int32)) (fun (s1 : AS) => am_r (fX9_isMarch s1) (fun (v2 : Int32) => if v2 = 0 then (some (s1, (-2 : Int32))) else (am_c (fX9_lays s1) (fun (s4 : AS) (v3 : Unit) => am_r (fX9_costOf s4 (s4.1 215 23)) (fun (v5 : Int32) => some (s4, v5))))))
def kX9_costs : List (Nat × Instr × Nat) := [(0, .aload_n 0, 1), (1, .iconst 0, 1), (2, .putfield 80, 3), (5, .aload_n 0, 1), (6, .invokevirtual 251, 3), (9, .ifCond .ne 6, 3), (12, .bipush (-2), 2), (14, .ireturn, 1), (15, .aload_n 0, 1), (16, .invokevirtual 336, 3), (19, .aload_n 0, 1), (20, .aload_n 0, 1), (21, .getfield 256, 3), (24, .invokevirtual 370, 3), (27, .ireturn, 1)]
theorem qX9_costs : ∀ q ∈ kX9_costs, decode mX9_costs.2.2.1 q.1 = .ok (q.2.1, q.2.2) ∧ am_iok mX9_costs.2.2.2.1 q.1 q.2.1 q.2.2 = true := by decide +kernel
set_option maxRecDepth 100000 in
theorem wX9_costs : Cond.code mX9_costs.2.1 mX9_costs.2.2.1 mX9_costs.2.2.2.1 mX9_costs.2.2.2.2.1 ∈ am_T := List.mem_filter.mpr ⟨List.mem_of_getElem? (i := 1995) rfl, rfl⟩
set_option maxHeartbeats 4000000 in
set_option maxRecDepth 100000 in
theorem tX9_costs (l : Launch) (d : Nat) {s0 : AS} {sE : AS} {rE : Int32} (hf : fX9_costs s0 = some (sE, rE)) : am_Ct l (d + 3) mX9_costs [.inr (.inr ((10, 0, 0), 215))] s0 sE (some (.inl rE)) := by
  refine am_sim l (d + 2) (code := kX9_costs) (by decide +kernel) wX9_costs qX9_costs (Nat.le_of_ble_eq_true rfl) ?_
  intro X hX
  show X 0 [(0, .inr (.inr ((10, 0, 0), 215)))] [] s0
  unfold fX9_costs at hf
  refine am_blk hX 0 3 (And.intro rfl (am_nl (Z := fun s1 => X 5 [(0, .inr (.inr ((10, 0, 0), 215)))] [] s1) hf (fun s1 hf => ?_)))
  obtain ⟨v2, hcv2, hf⟩ := am_r_of hf
  refine am_blk hX 3 3 (And.intro rfl (And.intro rfl (Exists.intro s1 (Exists.intro (some (.inl v2)) (And.intro (tX9_isMarch l (d + 1) hcv2) (And.intro (fun hb => ?_) (fun hb => ?_)))))))
  · have hf := am_if hf hb
    show X 15 [(0, .inr (.inr ((10, 0, 0), 215)))] [] s1
    obtain ⟨s4, v3, hcv3, hf⟩ := am_c_of hf
    obtain ⟨v5, hcv5, hf⟩ := am_r_of hf
    refine am_blk hX 8 7 (And.intro rfl (And.intro rfl (Exists.intro s4 (Exists.intro none (And.intro (tX9_lays l (d + 1) hcv3) (And.intro rfl (And.intro rfl (And.intro rfl (Exists.intro s4 (Exists.intro (some (.inl v5)) (And.intro (tX9_costOf l (d + 0) hcv5) (am_ri hf))))))))))))
  · have hf := am_it hf hb
    show X 12 [(0, .inr (.inr ((10, 0, 0), 215)))] [] s1
    refine am_blk hX 6 2 (am_ri hf)
def fX9_count_L66 (s1 : AS) : Nat → Int32 → Int32 → Option (AS × Int32)
  | 0, _, _ => none
  | n66 + 1, x4, x5 =>
    if (4 : Int32) ≤ x5 then (some (s1, x4)) else (am_g (¬ (x5 < 0 ∨ 4 ≤ x5.toNatClampNeg)) (am_let (fun (x7 : Int32) => am_let (x4 + x7) (fun (x8 : Int32) => am_let (x5 + (1 : Int32)) (fun (x9 : Int32) => fX9_count_L66 s1 n66 x8 x9))) (fun J87 => if (s1.1 216 x5.toNatClampNeg) = (-1 : Int32) then (J87 (0 : Int32)) else (J87 (1 : Int32)))))
def fX9_count (s0 : AS) (a1 : Int32) : Option (AS × Int32) :=
  am_let (am_si s0 215 0 (0 : Int32)) (fun (s1 : AS) => am_r (fX9_in a1.toInt64 (0 : Int64) (6 : Int64)) (fun (v2 : Int32) => if v2 = 0 then (if a1 = (7 : Int32) then (am_g (¬ ((0 : Int32) < 0 ∨ 5 ≤ (0 : Int32).toNatClampNeg)) (some (s1, s1.1 221 ((0 : Int32).toNatClampNeg)))) else (if a1 = (8 : Int32) then (some (s1, s1.1 215 6)) else (if a1 = (9 : Int32) then (fX9_count_L66 s1 am_fu (0 : Int32) (0 : Int32)) else (some (s1, (-1 : Int32)))))) else (am_g (¬ (a1 < 0 ∨ 35 ≤ a1.toNatClampNeg)) (some (s1, s1.1 222 a1.toNatClampNeg)))))
def kX9_count : List (Nat × Instr × Nat) := [(0, .aload_n 0, 1), (1, .iconst 0, 1), (2, .putfield 80, 3), (5, .iload_n 1, 1), (6, .i2l, 1), (7, .lconst 0, 1), (8, .ldc2_w 458, 3), (11, .invokestatic 85, 3), (14, .ifCond .eq 10, 3), (17, .aload_n 0, 1), (18, .getfield 34, 3), (21, .iload_n 1, 1), (22, .iaload, 1), (23, .ireturn, 1), (24, .iconst 0, 1), (25, .istore_n 2, 1), (26, .iload_n 1, 1), (27, .tableswitch 70 7 9 #[25, 32, 37], 25), (52, .aload_n 0, 1), (53, .getfield 31, 3), (56, .iconst 0, 1), (57, .iaload, 1), (58, .ireturn, 1), (59, .aload_n 0, 1), (60, .getfield 97, 3), (63, .ireturn, 1), (64, .iconst 0, 1), (65, .istore_n 3, 1), (66, .iload_n 3, 1), (67, .iconst 4, 1), (68, .if_icmp .ge 27, 3), (71, .iload_n 2, 1), (72, .aload_n 0, 1), (73, .getfield 7, 3), (76, .iload_n 3, 1), (77, .iaload, 1), (78, .iconst (-1), 1), (79, .if_icmp .ne 7, 3), (82, .iconst 0, 1), (83, .goto 4, 3), (86, .iconst 1, 1), (87, .iadd, 1), (88, .istore_n 2, 1), (89, .iinc 3 1, 3), (92, .goto (-26), 3), (95, .iload_n 2, 1), (96, .ireturn, 1), (97, .iconst (-1), 1), (98, .ireturn, 1)]
theorem qX9_count : ∀ q ∈ kX9_count, decode mX9_count.2.2.1 q.1 = .ok (q.2.1, q.2.2) ∧ am_iok mX9_count.2.2.2.1 q.1 q.2.1 q.2.2 = true := by decide +kernel
set_option maxRecDepth 100000 in
theorem wX9_count : Cond.code mX9_count.2.1 mX9_count.2.2.1 mX9_count.2.2.2.1 mX9_count.2.2.2.2.1 ∈ am_T := List.mem_filter.mpr ⟨List.mem_of_getElem? (i := 2012) rfl, rfl⟩
set_option maxHeartbeats 4000000 in
set_option maxRecDepth 100000 in
theorem tX9_count (l : Launch) (d : Nat) {s0 : AS} {a1 : Int32} {sE : AS} {rE : Int32} (hf : fX9_count s0 a1 = some (sE, rE)) : am_Ct l (d + 2) mX9_count [.inr (.inr ((10, 0, 0), 215)), .inl a1] s0 sE (some (.inl rE)) := by
  refine am_sim l (d + 1) (code := kX9_count) (by decide +kernel) wX9_count qX9_count (Nat.le_of_ble_eq_true rfl) ?_
  intro X hX
  show X 0 [(0, .inr (.inr ((10, 0, 0), 215))), (1, .inl a1)] [] s0
  unfold fX9_count at hf
  refine am_blk hX 0 3 (And.intro rfl (am_nl (Z := fun s1 => X 5 [(0, .inr (.inr ((10, 0, 0), 215))), (1, .inl a1)] [] s1) hf (fun s1 hf => ?_)))
  obtain ⟨v2, hcv2, hf⟩ := am_r_of hf
  refine am_blk hX 3 6 (And.intro rfl (Exists.intro s1 (Exists.intro (some (.inl v2)) (And.intro (tX9_in l (d + 0) hcv2) (And.intro (fun hb => ?_) (fun hb => ?_))))))
  · have hf := am_it hf hb
    show X 24 [(0, .inr (.inr ((10, 0, 0), 215))), (1, .inl a1)] [] s1
    refine am_blk hX 14 4 (And.intro (fun hb => ?_) (fun hq0 => And.intro (fun hb => ?_) (fun hq1 => And.intro (fun hb => ?_) (fun hq2 => ?_))))
    · have hf := am_it hf hb
      show X 52 [(2, .inl (0 : Int32)), (0, .inr (.inr ((10, 0, 0), 215))), (1, .inl a1)] [] s1
      obtain ⟨g3, hf⟩ := am_g_of hf
      refine am_blk hX 18 5 (And.intro rfl (And.intro rfl (And.intro g3 (am_ri hf))))
    · have hf := am_it (am_if hf hq0) hb
      show X 59 [(2, .inl (0 : Int32)), (0, .inr (.inr ((10, 0, 0), 215))), (1, .inl a1)] [] s1
      refine am_blk hX 23 3 (And.intro rfl (am_ri hf))
    · have hf := am_it (am_if (am_if hf hq0) hq1) hb
      show X 64 [(2, .inl (0 : Int32)), (0, .inr (.inr ((10, 0, 0), 215))), (1, .inl a1)] [] s1
      have hL66 : ∀ (n66 : Nat) (x4 : Int32) (x5 : Int32), fX9_count_L66 s1 n66 x4 x5 = some (sE, rE) → X 66 [(0, .inr (.inr ((10, 0, 0), 215))), (2, .inl x4), (3, .inl x5)] [] s1 := by
        intro n66
        induction n66 with
        | zero => intro x4 x5 hf; exact am_no (show none = some _ from hf)
        | succ n66 ih66 =>
          intro x4 x5 hf
          refine am_blk hX 28 3 (And.intro (fun hb => ?_) (fun hb => ?_))
          · have hf := am_it hf hb
            show X 95 [(0, .inr (.inr ((10, 0, 0), 215))), (2, .inl x4), (3, .inl x5)] [] s1
            refine am_blk hX 45 2 (am_ri hf)
          · have hf := am_if hf hb
            show X 71 [(0, .inr (.inr ((10, 0, 0), 215))), (2, .inl x4), (3, .inl x5)] [] s1
            obtain ⟨g6, hf⟩ := am_g_of hf
            refine am_jn hf (fun J87 => ∀ (x7 : Int32), J87 x7 = some (sE, rE) → X 87 [(0, .inr (.inr ((10, 0, 0), 215))), (3, .inl x5)] [.inl x7, .inl x4] s1) ?_ ?_
            · intro x7 hf
              refine am_blk hX 41 2 (am_nl (Z := fun x8 => X 89 [(2, .inl x8), (0, .inr (.inr ((10, 0, 0), 215))), (3, .inl x5)] [] s1) hf (fun x8 hf => ?_))
              refine am_blk hX 43 1 (am_nl (Z := fun x9 => X 92 [(3, .inl x9), (2, .inl x8), (0, .inr (.inr ((10, 0, 0), 215)))] [] s1) hf (fun x9 hf => ?_))
              refine am_blk hX 44 1 (?_)
              show X 66 [(3, .inl x9), (2, .inl x8), (0, .inr (.inr ((10, 0, 0), 215)))] [] s1
              exact am_wk hX [2, 1, 0] (ih66 x8 x9 hf)
            · intro J87 hJ87 hf
              refine am_blk hX 31 7 (And.intro rfl (And.intro rfl (And.intro g6 (And.intro (fun hb => ?_) (fun hb => ?_)))))
              · have hf := am_if hf hb
                show X 86 [(0, .inr (.inr ((10, 0, 0), 215))), (2, .inl x4), (3, .inl x5)] [.inl x4] s1
                refine am_blk hX 40 1 (?_)
                show X 87 [(0, .inr (.inr ((10, 0, 0), 215))), (2, .inl x4), (3, .inl x5)] [.inl (1 : Int32), .inl x4] s1
                exact am_wk hX [0, 2] (hJ87 (1 : Int32) hf)
              · have hf := am_it hf hb
                show X 82 [(0, .inr (.inr ((10, 0, 0), 215))), (2, .inl x4), (3, .inl x5)] [.inl x4] s1
                refine am_blk hX 38 2 (?_)
                show X 87 [(0, .inr (.inr ((10, 0, 0), 215))), (2, .inl x4), (3, .inl x5)] [.inl (0 : Int32), .inl x4] s1
                exact am_wk hX [0, 2] (hJ87 (0 : Int32) hf)
      refine am_blk hX 26 2 (?_)
      show X 66 [(3, .inl (0 : Int32)), (2, .inl (0 : Int32)), (0, .inr (.inr ((10, 0, 0), 215))), (1, .inl a1)] [] s1
      exact am_wk hX [2, 1, 0] (hL66 am_fu (0 : Int32) (0 : Int32) hf)
    · have hf := (am_if (am_if (am_if hf hq0) hq1) hq2)
      show X 97 [(2, .inl (0 : Int32)), (0, .inr (.inr ((10, 0, 0), 215))), (1, .inl a1)] [] s1
      refine am_blk hX 47 2 (am_ri hf)
  · have hf := am_if hf hb
    show X 17 [(0, .inr (.inr ((10, 0, 0), 215))), (1, .inl a1)] [] s1
    obtain ⟨g10, hf⟩ := am_g_of hf
    refine am_blk hX 9 5 (And.intro rfl (And.intro rfl (And.intro g10 (am_ri hf))))
def fX9_crew_L21 (a1 : Int32) (s1 : AS) : Nat → Int32 → Int32 → Option (AS × Int32)
  | 0, _, _ => none
  | n21 + 1, x3, x4 =>
    am_r (fX9_people s1) (fun (v5 : Int32) => if v5 ≤ x4 then (some (s1, x3)) else (am_g (¬ (((5 : Int32) * x4) < 0 ∨ 200 ≤ ((5 : Int32) * x4).toNatClampNeg)) (am_let (fun (x7 : Int32) => am_let (x3 ||| x7) (fun (x8 : Int32) => am_let (x4 + (1 : Int32)) (fun (x9 : Int32) => fX9_crew_L21 a1 s1 n21 x8 x9))) (fun J49 => if (s1.1 224 (((5 : Int32) * x4).toNatClampNeg)) = a1 then (J49 ((1 : Int32) <<< (x4 &&& 31))) else (J49 (0 : Int32))))))
def fX9_crew (s0 : AS) (a1 : Int32) : Option (AS × Int32) :=
  am_let (am_si s0 215 0 (0 : Int32)) (fun (s1 : AS) => am_r (fX9_isPlace s1 a1.toInt64) (fun (v2 : Int32) => if v2 = 0 then (some (s1, (-2 : Int32))) else (fX9_crew_L21 a1 s1 am_fu (0 : Int32) (0 : Int32))))
def kX9_crew : List (Nat × Instr × Nat) := [(0, .aload_n 0, 1), (1, .iconst 0, 1), (2, .putfield 80, 3), (5, .aload_n 0, 1), (6, .iload_n 1, 1), (7, .i2l, 1), (8, .invokevirtual 349, 3), (11, .ifCond .ne 6, 3), (14, .bipush (-2), 2), (16, .ireturn, 1), (17, .iconst 0, 1), (18, .istore_n 2, 1), (19, .iconst 0, 1), (20, .istore_n 3, 1), (21, .iload_n 3, 1), (22, .aload_n 0, 1), (23, .invokevirtual 248, 3), (26, .if_icmp .ge 31, 3), (29, .iload_n 2, 1), (30, .aload_n 0, 1), (31, .getfield 40, 3), (34, .iconst 5, 1), (35, .iload_n 3, 1), (36, .imul, 1), (37, .iaload, 1), (38, .iload_n 1, 1), (39, .if_icmp .ne 9, 3), (42, .iconst 1, 1), (43, .iload_n 3, 1), (44, .ishl, 1), (45, .goto 4, 3), (48, .iconst 0, 1), (49, .ior, 1), (50, .istore_n 2, 1), (51, .iinc 3 1, 3), (54, .goto (-33), 3), (57, .iload_n 2, 1), (58, .ireturn, 1)]
theorem qX9_crew : ∀ q ∈ kX9_crew, decode mX9_crew.2.2.1 q.1 = .ok (q.2.1, q.2.2) ∧ am_iok mX9_crew.2.2.2.1 q.1 q.2.1 q.2.2 = true := by decide +kernel
set_option maxRecDepth 100000 in
theorem wX9_crew : Cond.code mX9_crew.2.1 mX9_crew.2.2.1 mX9_crew.2.2.2.1 mX9_crew.2.2.2.2.1 ∈ am_T := List.mem_filter.mpr ⟨List.mem_of_getElem? (i := 1802) rfl, rfl⟩
set_option maxHeartbeats 4000000 in
set_option maxRecDepth 100000 in
theorem tX9_crew (l : Launch) (d : Nat) {s0 : AS} {a1 : Int32} {sE : AS} {rE : Int32} (hf : fX9_crew s0 a1 = some (sE, rE)) : am_Ct l (d + 3) mX9_crew [.inr (.inr ((10, 0, 0), 215)), .inl a1] s0 sE (some (.inl rE)) := by
  refine am_sim l (d + 2) (code := kX9_crew) (by decide +kernel) wX9_crew qX9_crew (Nat.le_of_ble_eq_true rfl) ?_
  intro X hX
  show X 0 [(0, .inr (.inr ((10, 0, 0), 215))), (1, .inl a1)] [] s0
  unfold fX9_crew at hf
  refine am_blk hX 0 3 (And.intro rfl (am_nl (Z := fun s1 => X 5 [(0, .inr (.inr ((10, 0, 0), 215))), (1, .inl a1)] [] s1) hf (fun s1 hf => ?_)))
  obtain ⟨v2, hcv2, hf⟩ := am_r_of hf
  refine am_blk hX 3 5 (And.intro rfl (And.intro rfl (Exists.intro s1 (Exists.intro (some (.inl v2)) (And.intro (tX9_isPlace l (d + 0) hcv2) (And.intro (fun hb => ?_) (fun hb => ?_)))))))
  · have hf := am_if hf hb
    show X 17 [(0, .inr (.inr ((10, 0, 0), 215))), (1, .inl a1)] [] s1
    have hL21 : ∀ (n21 : Nat) (x3 : Int32) (x4 : Int32), fX9_crew_L21 a1 s1 n21 x3 x4 = some (sE, rE) → X 21 [(0, .inr (.inr ((10, 0, 0), 215))), (1, .inl a1), (2, .inl x3), (3, .inl x4)] [] s1 := by
      intro n21
      induction n21 with
      | zero => intro x3 x4 hf; exact am_no (show none = some _ from hf)
      | succ n21 ih21 =>
        intro x3 x4 hf
        obtain ⟨v5, hcv5, hf⟩ := am_r_of hf
        refine am_blk hX 14 4 (And.intro rfl (And.intro rfl (Exists.intro s1 (Exists.intro (some (.inl v5)) (And.intro (tX9_people l (d + 1) hcv5) (And.intro (fun hb => ?_) (fun hb => ?_)))))))
        · have hf := am_it hf hb
          show X 57 [(0, .inr (.inr ((10, 0, 0), 215))), (1, .inl a1), (2, .inl x3), (3, .inl x4)] [] s1
          refine am_blk hX 36 2 (am_ri hf)
        · have hf := am_if hf hb
          show X 29 [(0, .inr (.inr ((10, 0, 0), 215))), (1, .inl a1), (2, .inl x3), (3, .inl x4)] [] s1
          obtain ⟨g6, hf⟩ := am_g_of hf
          refine am_jn hf (fun J49 => ∀ (x7 : Int32), J49 x7 = some (sE, rE) → X 49 [(0, .inr (.inr ((10, 0, 0), 215))), (1, .inl a1), (3, .inl x4)] [.inl x7, .inl x3] s1) ?_ ?_
          · intro x7 hf
            refine am_blk hX 32 2 (am_nl (Z := fun x8 => X 51 [(2, .inl x8), (0, .inr (.inr ((10, 0, 0), 215))), (1, .inl a1), (3, .inl x4)] [] s1) hf (fun x8 hf => ?_))
            refine am_blk hX 34 1 (am_nl (Z := fun x9 => X 54 [(3, .inl x9), (2, .inl x8), (0, .inr (.inr ((10, 0, 0), 215))), (1, .inl a1)] [] s1) hf (fun x9 hf => ?_))
            refine am_blk hX 35 1 (?_)
            show X 21 [(3, .inl x9), (2, .inl x8), (0, .inr (.inr ((10, 0, 0), 215))), (1, .inl a1)] [] s1
            exact am_wk hX [2, 3, 1, 0] (ih21 x8 x9 hf)
          · intro J49 hJ49 hf
            refine am_blk hX 18 9 (And.intro rfl (And.intro rfl (And.intro g6 (And.intro (fun hb => ?_) (fun hb => ?_)))))
            · have hf := am_if hf hb
              show X 48 [(0, .inr (.inr ((10, 0, 0), 215))), (1, .inl a1), (2, .inl x3), (3, .inl x4)] [.inl x3] s1
              refine am_blk hX 31 1 (?_)
              show X 49 [(0, .inr (.inr ((10, 0, 0), 215))), (1, .inl a1), (2, .inl x3), (3, .inl x4)] [.inl (0 : Int32), .inl x3] s1
              exact am_wk hX [0, 1, 3] (hJ49 (0 : Int32) hf)
            · have hf := am_it hf hb
              show X 42 [(0, .inr (.inr ((10, 0, 0), 215))), (1, .inl a1), (2, .inl x3), (3, .inl x4)] [.inl x3] s1
              refine am_blk hX 27 4 (?_)
              show X 49 [(0, .inr (.inr ((10, 0, 0), 215))), (1, .inl a1), (2, .inl x3), (3, .inl x4)] [.inl ((1 : Int32) <<< (x4 &&& 31)), .inl x3] s1
              exact am_wk hX [0, 1, 3] (hJ49 ((1 : Int32) <<< (x4 &&& 31)) hf)
    refine am_blk hX 10 4 (?_)
    show X 21 [(3, .inl (0 : Int32)), (2, .inl (0 : Int32)), (0, .inr (.inr ((10, 0, 0), 215))), (1, .inl a1)] [] s1
    exact am_wk hX [2, 3, 1, 0] (hL21 am_fu (0 : Int32) (0 : Int32) hf)
  · have hf := am_it hf hb
    show X 14 [(0, .inr (.inr ((10, 0, 0), 215))), (1, .inl a1)] [] s1
    refine am_blk hX 8 2 (am_ri hf)
def fX9_crowd (s0 : AS) (a1 : Int32) : Option (AS × Int32) :=
  am_let (am_si s0 215 0 (0 : Int32)) (fun (s1 : AS) => am_r (fX9_isStep s1 a1) (fun (v2 : Int32) => if v2 = 0 then (some (s1, (-2 : Int32))) else (am_c (fX9_laysNow s1) (fun (s4 : AS) (v3 : Unit) => am_g (¬ (a1 < 0 ∨ 61 ≤ a1.toNatClampNeg)) (some (s4, s4.1 230 a1.toNatClampNeg))))))
def kX9_crowd : List (Nat × Instr × Nat) := [(0, .aload_n 0, 1), (1, .iconst 0, 1), (2, .putfield 80, 3), (5, .aload_n 0, 1), (6, .iload_n 1, 1), (7, .invokevirtual 355, 3), (10, .ifCond .ne 6, 3), (13, .bipush (-2), 2), (15, .ireturn, 1), (16, .aload_n 0, 1), (17, .invokevirtual 358, 3), (20, .aload_n 0, 1), (21, .getfield 59, 3), (24, .iload_n 1, 1), (25, .iaload, 1), (26, .ireturn, 1)]
theorem qX9_crowd : ∀ q ∈ kX9_crowd, decode mX9_crowd.2.2.1 q.1 = .ok (q.2.1, q.2.2) ∧ am_iok mX9_crowd.2.2.2.1 q.1 q.2.1 q.2.2 = true := by decide +kernel
set_option maxRecDepth 100000 in
theorem wX9_crowd : Cond.code mX9_crowd.2.1 mX9_crowd.2.2.1 mX9_crowd.2.2.2.1 mX9_crowd.2.2.2.2.1 ∈ am_T := List.mem_filter.mpr ⟨List.mem_of_getElem? (i := 1702) rfl, rfl⟩
set_option maxHeartbeats 4000000 in
set_option maxRecDepth 100000 in
theorem tX9_crowd (l : Launch) (d : Nat) {s0 : AS} {a1 : Int32} {sE : AS} {rE : Int32} (hf : fX9_crowd s0 a1 = some (sE, rE)) : am_Ct l (d + 6) mX9_crowd [.inr (.inr ((10, 0, 0), 215)), .inl a1] s0 sE (some (.inl rE)) := by
  refine am_sim l (d + 5) (code := kX9_crowd) (by decide +kernel) wX9_crowd qX9_crowd (Nat.le_of_ble_eq_true rfl) ?_
  intro X hX
  show X 0 [(0, .inr (.inr ((10, 0, 0), 215))), (1, .inl a1)] [] s0
  unfold fX9_crowd at hf
  refine am_blk hX 0 3 (And.intro rfl (am_nl (Z := fun s1 => X 5 [(0, .inr (.inr ((10, 0, 0), 215))), (1, .inl a1)] [] s1) hf (fun s1 hf => ?_)))
  obtain ⟨v2, hcv2, hf⟩ := am_r_of hf
  refine am_blk hX 3 4 (And.intro rfl (And.intro rfl (Exists.intro s1 (Exists.intro (some (.inl v2)) (And.intro (tX9_isStep l (d + 3) hcv2) (And.intro (fun hb => ?_) (fun hb => ?_)))))))
  · have hf := am_if hf hb
    show X 16 [(0, .inr (.inr ((10, 0, 0), 215))), (1, .inl a1)] [] s1
    obtain ⟨s4, v3, hcv3, hf⟩ := am_c_of hf
    obtain ⟨g5, hf⟩ := am_g_of hf
    refine am_blk hX 9 7 (And.intro rfl (And.intro rfl (Exists.intro s4 (Exists.intro none (And.intro (tX9_laysNow l (d + 0) hcv3) (And.intro rfl (And.intro rfl (And.intro g5 (am_ri hf)))))))))
  · have hf := am_it hf hb
    show X 13 [(0, .inr (.inr ((10, 0, 0), 215))), (1, .inl a1)] [] s1
    refine am_blk hX 7 2 (am_ri hf)
def fX9_cut (a0 : Int64) (a2 : Int32) : Option Int64 :=
  am_let (fun (x1 : Int64) => some x1) (fun J35 => if a2 = 0 then (J35 a0.toInt32.toInt8.toInt32.toInt64) else (if a2 = (1 : Int32) then (J35 a0.toInt32.toInt16.toInt32.toInt64) else (if a2 = (2 : Int32) then (J35 a0.toInt32.toInt64) else (J35 a0))))
def kX9_cut : List (Nat × Instr × Nat) := [(0, .iload_n 2, 1), (1, .ifCond .ne 10, 3), (4, .lload_n 0, 1), (5, .l2i, 1), (6, .i2b, 1), (7, .i2l, 1), (8, .goto 27, 3), (11, .iload_n 2, 1), (12, .iconst 1, 1), (13, .if_icmp .ne 10, 3), (16, .lload_n 0, 1), (17, .l2i, 1), (18, .i2s, 1), (19, .i2l, 1), (20, .goto 15, 3), (23, .iload_n 2, 1), (24, .iconst 2, 1), (25, .if_icmp .ne 9, 3), (28, .lload_n 0, 1), (29, .l2i, 1), (30, .i2l, 1), (31, .goto 4, 3), (34, .lload_n 0, 1), (35, .lreturn, 1)]
theorem qX9_cut : ∀ q ∈ kX9_cut, decode mX9_cut.2.2.1 q.1 = .ok (q.2.1, q.2.2) ∧ am_iok mX9_cut.2.2.2.1 q.1 q.2.1 q.2.2 = true := by decide +kernel
set_option maxRecDepth 100000 in
theorem wX9_cut : Cond.code mX9_cut.2.1 mX9_cut.2.2.1 mX9_cut.2.2.2.1 mX9_cut.2.2.2.2.1 ∈ am_T := List.mem_filter.mpr ⟨List.mem_of_getElem? (i := 1461) rfl, rfl⟩
set_option maxHeartbeats 4000000 in
set_option maxRecDepth 100000 in
theorem tX9_cut (l : Launch) (d : Nat) {s0 : AS} {a0 : Int64} {a2 : Int32} {rE : Int64} (hf : fX9_cut a0 a2 = some rE) : am_Ct l (d + 1) mX9_cut [.inr (.inl a0), .inl a2] s0 s0 (some (.inr (.inl rE))) := by
  refine am_sim l (d + 0) (code := kX9_cut) (by decide +kernel) wX9_cut qX9_cut (Nat.le_of_ble_eq_true rfl) ?_
  intro X hX
  show X 0 [(0, .inr (.inl a0)), (2, .inl a2)] [] s0
  unfold fX9_cut at hf
  refine am_jn hf (fun J35 => ∀ (x1 : Int64), J35 x1 = some rE → X 35 [] [.inr (.inl x1)] s0) ?_ ?_
  · intro x1 hf
    refine am_blk hX 23 1 (And.intro rfl (am_rpl hf))
  · intro J35 hJ35 hf
    refine am_blk hX 0 2 (And.intro (fun hb => ?_) (fun hb => ?_))
    · have hf := am_if hf hb
      show X 11 [(0, .inr (.inl a0)), (2, .inl a2)] [] s0
      refine am_blk hX 7 3 (And.intro (fun hb => ?_) (fun hb => ?_))
      · have hf := am_if hf hb
        show X 23 [(0, .inr (.inl a0)), (2, .inl a2)] [] s0
        refine am_blk hX 15 3 (And.intro (fun hb => ?_) (fun hb => ?_))
        · have hf := am_if hf hb
          show X 34 [(0, .inr (.inl a0)), (2, .inl a2)] [] s0
          refine am_blk hX 22 1 (?_)
          show X 35 [(0, .inr (.inl a0)), (2, .inl a2)] [.inr (.inl a0)] s0
          exact am_wk hX [] (hJ35 a0 hf)
        · have hf := am_it hf hb
          show X 28 [(0, .inr (.inl a0)), (2, .inl a2)] [] s0
          refine am_blk hX 18 4 (?_)
          show X 35 [(0, .inr (.inl a0)), (2, .inl a2)] [.inr (.inl a0.toInt32.toInt64)] s0
          exact am_wk hX [] (hJ35 a0.toInt32.toInt64 hf)
      · have hf := am_it hf hb
        show X 16 [(0, .inr (.inl a0)), (2, .inl a2)] [] s0
        refine am_blk hX 10 5 (?_)
        show X 35 [(0, .inr (.inl a0)), (2, .inl a2)] [.inr (.inl a0.toInt32.toInt16.toInt32.toInt64)] s0
        exact am_wk hX [] (hJ35 a0.toInt32.toInt16.toInt32.toInt64 hf)
    · have hf := am_it hf hb
      show X 4 [(0, .inr (.inl a0)), (2, .inl a2)] [] s0
      refine am_blk hX 2 5 (?_)
      show X 35 [(0, .inr (.inl a0)), (2, .inl a2)] [.inr (.inl a0.toInt32.toInt8.toInt32.toInt64)] s0
      exact am_wk hX [] (hJ35 a0.toInt32.toInt8.toInt32.toInt64 hf)
