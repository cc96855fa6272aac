/-! METHODS, printed by gen.py. -/
def fX9_why (s0 : AS) : Option (AS × Int32) :=
  am_let (am_si s0 215 0 (0 : Int32)) (fun (s1 : AS) => am_r (fX9_isMarch s1) (fun (v2 : Int32) => if v2 = 0 then (some (s1, (-2 : Int32))) else (am_c (fX9_laysNow s1) (fun (s4 : AS) (v3 : Unit) => some (s4, s4.1 215 46)))))
def kX9_why : List (Nat × Instr × Nat) := [(0, .aload_n 0, 1), (1, .iconst 0, 1), (2, .putfield 80, 3), (5, .aload_n 0, 1), (6, .invokevirtual 251, 3), (9, .ifCond .ne 6, 3), (12, .bipush (-2), 2), (14, .ireturn, 1), (15, .aload_n 0, 1), (16, .invokevirtual 358, 3), (19, .aload_n 0, 1), (20, .getfield 312, 3), (23, .ireturn, 1)]
theorem qX9_why : ∀ q ∈ kX9_why, decode mX9_why.2.2.1 q.1 = .ok (q.2.1, q.2.2) ∧ am_iok mX9_why.2.2.2.1 q.1 q.2.1 q.2.2 = true := by decide +kernel
set_option maxRecDepth 100000 in
theorem wX9_why : Cond.code mX9_why.2.1 mX9_why.2.2.1 mX9_why.2.2.2.1 mX9_why.2.2.2.2.1 ∈ am_T := List.mem_filter.mpr ⟨List.mem_of_getElem? (i := 1717) rfl, rfl⟩
set_option maxHeartbeats 4000000 in
set_option maxRecDepth 100000 in
theorem tX9_why (l : Launch) (d : Nat) {s0 : AS} {sE : AS} {rE : Int32} (hf : fX9_why s0 = some (sE, rE)) : am_Ct l (d + 6) mX9_why [.inr (.inr ((10, 0, 0), 215))] s0 sE (some (.inl rE)) := by
  refine am_sim l (d + 5) (code := kX9_why) (by decide +kernel) wX9_why qX9_why (Nat.le_of_ble_eq_true rfl) ?_
  intro X hX
  show X 0 [(0, .inr (.inr ((10, 0, 0), 215)))] [] s0
  unfold fX9_why at hf
  refine am_blk hX 0 3 (And.intro rfl (am_nl (Z := fun s1 => X 5 [(0, .inr (.inr ((10, 0, 0), 215)))] [] s1) hf (fun s1 hf => ?_)))
  obtain ⟨v2, hcv2, hf⟩ := am_r_of hf
  refine am_blk hX 3 3 (And.intro rfl (And.intro rfl (Exists.intro s1 (Exists.intro (some (.inl v2)) (And.intro (tX9_isMarch l (d + 4) hcv2) (And.intro (fun hb => ?_) (fun hb => ?_)))))))
  · have hf := am_if hf hb
    show X 15 [(0, .inr (.inr ((10, 0, 0), 215)))] [] s1
    obtain ⟨s4, v3, hcv3, hf⟩ := am_c_of hf
    refine am_blk hX 8 5 (And.intro rfl (And.intro rfl (Exists.intro s4 (Exists.intro none (And.intro (tX9_laysNow l (d + 0) hcv3) (And.intro rfl (am_ri hf)))))))
  · have hf := am_it hf hb
    show X 12 [(0, .inr (.inr ((10, 0, 0), 215)))] [] s1
    refine am_blk hX 6 2 (am_ri hf)
def fX9_write (s0 : AS) (a1 : Int32) (a2 : Int32) (a3 : Int64) : Option (AS × Int32) :=
  am_let (am_si s0 215 0 (0 : Int32)) (fun (s1 : AS) => am_r (fX9_isSlot a1) (fun (v2 : Int32) => if v2 = 0 then (some (s1, (-2 : Int32))) else (am_g (¬ (a1 < 0 ∨ 4 ≤ a1.toNatClampNeg)) (if (s1.1 216 a1.toNatClampNeg) = (-1 : Int32) then (some (s1, (-6 : Int32))) else (am_g (¬ (a1 < 0 ∨ 4 ≤ a1.toNatClampNeg)) (am_r (fX9_in a2.toInt64 (0 : Int64) (((s1.1 217 a1.toNatClampNeg) - (1 : Int32)).toInt64)) (fun (v5 : Int32) => if v5 = 0 then (some (s1, (-7 : Int32))) else (am_g (¬ (a1 < 0 ∨ 4 ≤ a1.toNatClampNeg)) (am_r (fX9_cut a3 (s1.1 216 a1.toNatClampNeg)) (fun (v7 : Int64) => am_g (¬ ((((60 : Int32) * a1) + a2) < 0 ∨ 240 ≤ (((60 : Int32) * a1) + a2).toNatClampNeg)) (am_let (am_sj s1 218 ((((60 : Int32) * a1) + a2).toNatClampNeg) v7) (fun (s9 : AS) => some (s9, (0 : Int32))))))))))))))
def kX9_write : List (Nat × Instr × Nat) := [(0, .aload_n 0, 1), (1, .iconst 0, 1), (2, .putfield 80, 3), (5, .iload_n 1, 1), (6, .invokestatic 89, 3), (9, .ifCond .ne 6, 3), (12, .bipush (-2), 2), (14, .ireturn, 1), (15, .aload_n 0, 1), (16, .getfield 7, 3), (19, .iload_n 1, 1), (20, .iaload, 1), (21, .iconst (-1), 1), (22, .if_icmp .ne 6, 3), (25, .bipush (-6), 2), (27, .ireturn, 1), (28, .iload_n 2, 1), (29, .i2l, 1), (30, .lconst 0, 1), (31, .aload_n 0, 1), (32, .getfield 13, 3), (35, .iload_n 1, 1), (36, .iaload, 1), (37, .iconst 1, 1), (38, .isub, 1), (39, .i2l, 1), (40, .invokestatic 85, 3), (43, .ifCond .ne 6, 3), (46, .bipush (-7), 2), (48, .ireturn, 1), (49, .aload_n 0, 1), (50, .getfield 16, 3), (53, .bipush 60, 2), (55, .iload_n 1, 1), (56, .imul, 1), (57, .iload_n 2, 1), (58, .iadd, 1), (59, .lload_n 3, 1), (60, .aload_n 0, 1), (61, .getfield 7, 3), (64, .iload_n 1, 1), (65, .iaload, 1), (66, .invokestatic 93, 3), (69, .lastore, 1), (70, .iconst 0, 1), (71, .ireturn, 1)]
theorem qX9_write : ∀ q ∈ kX9_write, decode mX9_write.2.2.1 q.1 = .ok (q.2.1, q.2.2) ∧ am_iok mX9_write.2.2.2.1 q.1 q.2.1 q.2.2 = true := by decide +kernel
set_option maxRecDepth 100000 in
theorem wX9_write : Cond.code mX9_write.2.1 mX9_write.2.2.1 mX9_write.2.2.2.1 mX9_write.2.2.2.2.1 ∈ am_T := List.mem_filter.mpr ⟨List.mem_of_getElem? (i := 1453) rfl, rfl⟩
set_option maxHeartbeats 4000000 in
set_option maxRecDepth 100000 in
theorem tX9_write (l : Launch) (d : Nat) {s0 : AS} {a1 : Int32} {a2 : Int32} {a3 : Int64} {sE : AS} {rE : Int32} (hf : fX9_write s0 a1 a2 a3 = some (sE, rE)) : am_Ct l (d + 3) mX9_write [.inr (.inr ((10, 0, 0), 215)), .inl a1, .inl a2, .inr (.inl a3)] s0 sE (some (.inl rE)) := by
  refine am_sim l (d + 2) (code := kX9_write) (by decide +kernel) wX9_write qX9_write (Nat.le_of_ble_eq_true rfl) ?_
  intro X hX
  show X 0 [(0, .inr (.inr ((10, 0, 0), 215))), (1, .inl a1), (2, .inl a2), (3, .inr (.inl a3))] [] s0
  unfold fX9_write at hf
  refine am_blk hX 0 3 (And.intro rfl (am_nl (Z := fun s1 => X 5 [(0, .inr (.inr ((10, 0, 0), 215))), (1, .inl a1), (2, .inl a2), (3, .inr (.inl a3))] [] s1) hf (fun s1 hf => ?_)))
  obtain ⟨v2, hcv2, hf⟩ := am_r_of hf
  refine am_blk hX 3 3 (And.intro rfl (Exists.intro s1 (Exists.intro (some (.inl v2)) (And.intro (tX9_isSlot l (d + 0) hcv2) (And.intro (fun hb => ?_) (fun hb => ?_))))))
  · have hf := am_if hf hb
    show X 15 [(0, .inr (.inr ((10, 0, 0), 215))), (1, .inl a1), (2, .inl a2), (3, .inr (.inl a3))] [] s1
    obtain ⟨g3, hf⟩ := am_g_of hf
    refine am_blk hX 8 6 (And.intro rfl (And.intro rfl (And.intro g3 (And.intro (fun hb => ?_) (fun hb => ?_)))))
    · have hf := am_if hf hb
      show X 28 [(0, .inr (.inr ((10, 0, 0), 215))), (1, .inl a1), (2, .inl a2), (3, .inr (.inl a3))] [] s1
      obtain ⟨g4, hf⟩ := am_g_of hf
      obtain ⟨v5, hcv5, hf⟩ := am_r_of hf
      refine am_blk hX 16 12 (And.intro rfl (And.intro rfl (And.intro g4 (And.intro rfl (Exists.intro s1 (Exists.intro (some (.inl v5)) (And.intro (tX9_in l (d + 1) hcv5) (And.intro (fun hb => ?_) (fun hb => ?_)))))))))
      · have hf := am_if hf hb
        show X 49 [(0, .inr (.inr ((10, 0, 0), 215))), (1, .inl a1), (2, .inl a2), (3, .inr (.inl a3))] [] s1
        obtain ⟨g6, hf⟩ := am_g_of hf
        obtain ⟨v7, hcv7, hf⟩ := am_r_of hf
        obtain ⟨g8, hf⟩ := am_g_of hf
        refine am_blk hX 30 14 (And.intro rfl (And.intro rfl (And.intro rfl (And.intro g6 (And.intro rfl (Exists.intro s1 (Exists.intro (some (.inr (.inl v7))) (And.intro (tX9_cut l (d + 1) hcv7) (And.intro rfl (And.intro g8 (am_nl (Z := fun s9 => X 70 [(0, .inr (.inr ((10, 0, 0), 215))), (1, .inl a1), (2, .inl a2), (3, .inr (.inl a3))] [] s9) hf (fun s9 hf => ?_))))))))))))
        refine am_blk hX 44 2 (am_ri hf)
      · have hf := am_it hf hb
        show X 46 [(0, .inr (.inr ((10, 0, 0), 215))), (1, .inl a1), (2, .inl a2), (3, .inr (.inl a3))] [] s1
        refine am_blk hX 28 2 (am_ri hf)
    · have hf := am_it hf hb
      show X 25 [(0, .inr (.inr ((10, 0, 0), 215))), (1, .inl a1), (2, .inl a2), (3, .inr (.inl a3))] [] s1
      refine am_blk hX 14 2 (am_ri hf)
  · have hf := am_it hf hb
    show X 12 [(0, .inr (.inr ((10, 0, 0), 215))), (1, .inl a1), (2, .inl a2), (3, .inr (.inl a3))] [] s1
    refine am_blk hX 6 2 (am_ri hf)
