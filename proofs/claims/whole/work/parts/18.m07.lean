/-! METHODS, printed by gen.py. -/
def fX8_goneBetween_L5 (a2 : Int32) (s0 : AS) (J76 : Int32 → Option Int32) : Nat → Int32 → Int32 → Option Int32
  | 0, _, _ => none
  | n5 + 1, x2, x3 =>
    if a2 ≤ x3 then (J76 x2) else (if (60 : Int32) ≤ x3 then (J76 x2) else (am_g (¬ (x3 < 0 ∨ 61 ≤ x3.toNatClampNeg)) (am_let (s0.1 164 x3.toNatClampNeg) (fun (x5 : Int32) => am_g (¬ ((x3 + (1 : Int32)) < 0 ∨ 61 ≤ (x3 + (1 : Int32)).toNatClampNeg)) (am_let (s0.1 164 ((x3 + (1 : Int32)).toNatClampNeg)) (fun (x7 : Int32) => am_let (fun (x8 : Int32) => am_let (x3 + (1 : Int32)) (fun (x9 : Int32) => fX8_goneBetween_L5 a2 s0 J76 n5 x8 x9)) (fun J70 => if x5 = (-1 : Int32) then (J70 x2) else (if x7 = (-1 : Int32) then (J70 x2) else (am_r (fX7_besideBy s0 138 x5 x7) (fun (v10 : Int32) => am_let (x2 + v10) (fun (x11 : Int32) => J70 x11)))))))))))
def fX8_goneBetween (s0 : AS) (a1 : Int32) (a2 : Int32) : Option Int32 :=
  am_let (fun (x1 : Int32) => some x1) (fun J76 => fX8_goneBetween_L5 a2 s0 J76 am_fu (0 : Int32) a1)
def kX8_goneBetween : List (Nat × Instr × Nat) := [(0, .iconst 0, 1), (1, .istore_n 3, 1), (2, .iload_n 1, 1), (3, .istore 4, 2), (5, .iload 4, 2), (7, .iload_n 2, 1), (8, .if_icmp .ge 68, 3), (11, .iload 4, 2), (13, .bipush 60, 2), (15, .if_icmp .ge 61, 3), (18, .aload_n 0, 1), (19, .getfield 61, 3), (22, .getfield 212, 3), (25, .iload 4, 2), (27, .iaload, 1), (28, .istore 5, 2), (30, .aload_n 0, 1), (31, .getfield 61, 3), (34, .getfield 212, 3), (37, .iload 4, 2), (39, .iconst 1, 1), (40, .iadd, 1), (41, .iaload, 1), (42, .istore 6, 2), (44, .iload 5, 2), (46, .iconst (-1), 1), (47, .if_icmp .eq 23, 3), (50, .iload 6, 2), (52, .iconst (-1), 1), (53, .if_icmp .eq 17, 3), (56, .iload_n 3, 1), (57, .aload_n 0, 1), (58, .getfield 54, 3), (61, .iload 5, 2), (63, .iload 6, 2), (65, .invokevirtual 246, 3), (68, .iadd, 1), (69, .istore_n 3, 1), (70, .iinc 4 1, 3), (73, .goto (-68), 3), (76, .iload_n 3, 1), (77, .ireturn, 1)]
theorem qX8_goneBetween : ∀ q ∈ kX8_goneBetween, decode mX8_goneBetween.2.2.1 q.1 = .ok (q.2.1, q.2.2) ∧ am_iok mX8_goneBetween.2.2.2.1 q.1 q.2.1 q.2.2 = true := by decide +kernel
set_option maxRecDepth 100000 in
theorem wX8_goneBetween : Cond.code mX8_goneBetween.2.1 mX8_goneBetween.2.2.1 mX8_goneBetween.2.2.2.1 mX8_goneBetween.2.2.2.2.1 ∈ am_T := List.mem_filter.mpr ⟨List.mem_of_getElem? (i := 905) rfl, rfl⟩
set_option maxHeartbeats 4000000 in
set_option maxRecDepth 100000 in
theorem tX8_goneBetween (l : Launch) (d : Nat) {s0 : AS} {a1 : Int32} {a2 : Int32} {rE : Int32} (hf : fX8_goneBetween s0 a1 a2 = some rE) : am_Ct l (d + 4) mX8_goneBetween [.inr (.inr ((9, 0, 0), 0)), .inl a1, .inl a2] s0 s0 (some (.inl rE)) := by
  refine am_sim l (d + 3) (code := kX8_goneBetween) (by decide +kernel) wX8_goneBetween qX8_goneBetween (Nat.le_of_ble_eq_true rfl) ?_
  intro X hX
  show X 0 [(0, .inr (.inr ((9, 0, 0), 0))), (1, .inl a1), (2, .inl a2)] [] s0
  unfold fX8_goneBetween at hf
  refine am_jn hf (fun J76 => ∀ (x1 : Int32), J76 x1 = some rE → X 76 [(3, .inl x1)] [] s0) ?_ ?_
  · intro x1 hf
    refine am_blk hX 40 2 (am_rpi hf)
  · intro J76 hJ76 hf
    have hL5 : ∀ (n5 : Nat) (x2 : Int32) (x3 : Int32), fX8_goneBetween_L5 a2 s0 J76 n5 x2 x3 = some rE → X 5 [(0, .inr (.inr ((9, 0, 0), 0))), (2, .inl a2), (3, .inl x2), (4, .inl x3)] [] s0 := by
      intro n5
      induction n5 with
      | zero => intro x2 x3 hf; exact am_no (show none = some _ from hf)
      | succ n5 ih5 =>
        intro x2 x3 hf
        refine am_blk hX 4 3 (And.intro (fun hb => ?_) (fun hb => ?_))
        · have hf := am_it hf hb
          show X 76 [(0, .inr (.inr ((9, 0, 0), 0))), (2, .inl a2), (3, .inl x2), (4, .inl x3)] [] s0
          exact am_wk hX [2] (hJ76 x2 hf)
        · have hf := am_if hf hb
          show X 11 [(0, .inr (.inr ((9, 0, 0), 0))), (2, .inl a2), (3, .inl x2), (4, .inl x3)] [] s0
          refine am_blk hX 7 3 (And.intro (fun hb => ?_) (fun hb => ?_))
          · have hf := am_it hf hb
            show X 76 [(0, .inr (.inr ((9, 0, 0), 0))), (2, .inl a2), (3, .inl x2), (4, .inl x3)] [] s0
            exact am_wk hX [2] (hJ76 x2 hf)
          · have hf := am_if hf hb
            show X 18 [(0, .inr (.inr ((9, 0, 0), 0))), (2, .inl a2), (3, .inl x2), (4, .inl x3)] [] s0
            obtain ⟨g4, hf⟩ := am_g_of hf
            refine am_blk hX 10 6 (And.intro rfl (And.intro rfl (And.intro rfl (And.intro g4 (am_nl (Z := fun x5 => X 30 [(5, .inl x5), (0, .inr (.inr ((9, 0, 0), 0))), (2, .inl a2), (3, .inl x2), (4, .inl x3)] [] s0) hf (fun x5 hf => ?_))))))
            obtain ⟨g6, hf⟩ := am_g_of hf
            refine am_blk hX 16 8 (And.intro rfl (And.intro rfl (And.intro rfl (And.intro g6 (am_nl (Z := fun x7 => X 44 [(6, .inl x7), (5, .inl x5), (0, .inr (.inr ((9, 0, 0), 0))), (2, .inl a2), (3, .inl x2), (4, .inl x3)] [] s0) hf (fun x7 hf => ?_))))))
            refine am_jn hf (fun J70 => ∀ (x8 : Int32), J70 x8 = some rE → X 70 [(0, .inr (.inr ((9, 0, 0), 0))), (2, .inl a2), (3, .inl x8), (4, .inl x3)] [] s0) ?_ ?_
            · intro x8 hf
              refine am_blk hX 38 1 (am_nl (Z := fun x9 => X 73 [(4, .inl x9), (0, .inr (.inr ((9, 0, 0), 0))), (2, .inl a2), (3, .inl x8)] [] s0) hf (fun x9 hf => ?_))
              refine am_blk hX 39 1 (?_)
              show X 5 [(4, .inl x9), (0, .inr (.inr ((9, 0, 0), 0))), (2, .inl a2), (3, .inl x8)] [] s0
              exact am_wk hX [1, 2, 3, 0] (ih5 x8 x9 hf)
            · intro J70 hJ70 hf
              refine am_blk hX 24 3 (And.intro (fun hb => ?_) (fun hb => ?_))
              · have hf := am_it hf hb
                show X 70 [(6, .inl x7), (5, .inl x5), (0, .inr (.inr ((9, 0, 0), 0))), (2, .inl a2), (3, .inl x2), (4, .inl x3)] [] s0
                exact am_wk hX [2, 3, 4, 5] (hJ70 x2 hf)
              · have hf := am_if hf hb
                show X 50 [(6, .inl x7), (5, .inl x5), (0, .inr (.inr ((9, 0, 0), 0))), (2, .inl a2), (3, .inl x2), (4, .inl x3)] [] s0
                refine am_blk hX 27 3 (And.intro (fun hb => ?_) (fun hb => ?_))
                · have hf := am_it hf hb
                  show X 70 [(6, .inl x7), (5, .inl x5), (0, .inr (.inr ((9, 0, 0), 0))), (2, .inl a2), (3, .inl x2), (4, .inl x3)] [] s0
                  exact am_wk hX [2, 3, 4, 5] (hJ70 x2 hf)
                · have hf := am_if hf hb
                  show X 56 [(6, .inl x7), (5, .inl x5), (0, .inr (.inr ((9, 0, 0), 0))), (2, .inl a2), (3, .inl x2), (4, .inl x3)] [] s0
                  obtain ⟨v10, hcv10, hf⟩ := am_r_of hf
                  refine am_blk hX 30 8 (And.intro rfl (And.intro rfl (And.intro rfl (Exists.intro s0 (Exists.intro (some (.inl v10)) (And.intro (tX7_besideBy l (d + 0) hcv10) (am_nl (Z := fun x11 => X 70 [(3, .inl x11), (6, .inl x7), (5, .inl x5), (0, .inr (.inr ((9, 0, 0), 0))), (2, .inl a2), (4, .inl x3)] [] s0) hf (fun x11 hf => ?_))))))))
                  exact am_wk hX [3, 4, 0, 5] (hJ70 x11 hf)
    refine am_blk hX 0 4 (?_)
    show X 5 [(4, .inl a1), (3, .inl (0 : Int32)), (0, .inr (.inr ((9, 0, 0), 0))), (1, .inl a1), (2, .inl a2)] [] s0
    exact am_wk hX [2, 4, 1, 0] (hL5 am_fu (0 : Int32) a1 hf)
def fX8_image (s0 : AS) (a1 : Int32) : Option (AS × Int32) :=
  am_let (some (s0, (-2 : Int32))) (fun J9 => if a1 < 0 then (J9) else (if a1 < (3 : Int32) then (am_g (¬ (a1 < 0 ∨ 3 ≤ a1.toNatClampNeg)) (am_let (am_si s0 (51 + 26 * a1.toNatClampNeg) 0 (1 : Int32)) (fun (s2 : AS) => am_g (¬ (a1 < 0 ∨ 3 ≤ a1.toNatClampNeg)) (am_c (fX3_take s2 (51 + 26 * a1.toNatClampNeg + 1) 25) (fun (s5 : AS) (v4 : Unit) => am_g (¬ (a1 < 0 ∨ 3 ≤ a1.toNatClampNeg)) (am_c (fX0_take s5 (51 + 26 * a1.toNatClampNeg + 23) 47) (fun (s8 : AS) (v7 : Unit) => some (s8, (0 : Int32))))))))) else (J9)))
def kX8_image : List (Nat × Instr × Nat) := [(0, .iload_n 1, 1), (1, .ifCond .lt 8, 3), (4, .iload_n 1, 1), (5, .iconst 3, 1), (6, .if_icmp .lt 6, 3), (9, .bipush (-2), 2), (11, .ireturn, 1), (12, .aload_n 0, 1), (13, .getfield 41, 3), (16, .iload_n 1, 1), (17, .aaload, 1), (18, .iconst 1, 1), (19, .putfield 443, 3), (22, .aload_n 0, 1), (23, .getfield 41, 3), (26, .iload_n 1, 1), (27, .aaload, 1), (28, .getfield 444, 3), (31, .aload_n 0, 1), (32, .getfield 29, 3), (35, .invokevirtual 100, 3), (38, .aload_n 0, 1), (39, .getfield 41, 3), (42, .iload_n 1, 1), (43, .aaload, 1), (44, .getfield 445, 3), (47, .aload_n 0, 1), (48, .getfield 35, 3), (51, .invokevirtual 446, 3), (54, .iconst 0, 1), (55, .ireturn, 1)]
theorem qX8_image : ∀ q ∈ kX8_image, decode mX8_image.2.2.1 q.1 = .ok (q.2.1, q.2.2) ∧ am_iok mX8_image.2.2.2.1 q.1 q.2.1 q.2.2 = true := by decide +kernel
set_option maxRecDepth 100000 in
theorem wX8_image : Cond.code mX8_image.2.1 mX8_image.2.2.1 mX8_image.2.2.2.1 mX8_image.2.2.2.2.1 ∈ am_T := List.mem_filter.mpr ⟨List.mem_of_getElem? (i := 1252) rfl, rfl⟩
set_option maxHeartbeats 4000000 in
set_option maxRecDepth 100000 in
theorem tX8_image (l : Launch) (d : Nat) {s0 : AS} {a1 : Int32} {sE : AS} {rE : Int32} (hf : fX8_image s0 a1 = some (sE, rE)) : am_Ct l (d + 2) mX8_image [.inr (.inr ((9, 0, 0), 0)), .inl a1] s0 sE (some (.inl rE)) := by
  refine am_sim l (d + 1) (code := kX8_image) (by decide +kernel) wX8_image qX8_image (Nat.le_of_ble_eq_true rfl) ?_
  intro X hX
  show X 0 [(0, .inr (.inr ((9, 0, 0), 0))), (1, .inl a1)] [] s0
  unfold fX8_image at hf
  refine am_jn hf (fun J9 => J9 = some (sE, rE) → X 9 [] [] s0) ?_ ?_
  · intro hf
    refine am_blk hX 5 2 (am_ri hf)
  · intro J9 hJ9 hf
    refine am_blk hX 0 2 (And.intro (fun hb => ?_) (fun hb => ?_))
    · have hf := am_it hf hb
      show X 9 [(0, .inr (.inr ((9, 0, 0), 0))), (1, .inl a1)] [] s0
      exact am_wk hX [] (hJ9 hf)
    · have hf := am_if hf hb
      show X 4 [(0, .inr (.inr ((9, 0, 0), 0))), (1, .inl a1)] [] s0
      refine am_blk hX 2 3 (And.intro (fun hb => ?_) (fun hb => ?_))
      · have hf := am_it hf hb
        show X 12 [(0, .inr (.inr ((9, 0, 0), 0))), (1, .inl a1)] [] s0
        obtain ⟨g1, hf⟩ := am_g_of hf
        refine am_blk hX 7 6 (And.intro rfl (And.intro g1 (And.intro rfl (And.intro (Or.inr rfl) (am_nl (Z := fun s2 => X 22 [(0, .inr (.inr ((9, 0, 0), 0))), (1, .inl a1)] [] s2) hf (fun s2 hf => ?_))))))
        obtain ⟨g3, hf⟩ := am_g_of hf
        obtain ⟨s5, v4, hcv4, hf⟩ := am_c_of hf
        obtain ⟨g6, hf⟩ := am_g_of hf
        obtain ⟨s8, v7, hcv7, hf⟩ := am_c_of hf
        refine am_blk hX 13 18 (And.intro rfl (And.intro g3 (And.intro rfl (And.intro rfl (And.intro rfl (And.intro rfl (Exists.intro s5 (Exists.intro none (And.intro (tX3_take l (d + 0) hcv4) (And.intro rfl (And.intro g6 (And.intro rfl (And.intro rfl (And.intro rfl (And.intro rfl (Exists.intro s8 (Exists.intro none (And.intro (tX0_take l (d + 0) hcv7) (am_ri hf)))))))))))))))))))
      · have hf := am_if hf hb
        show X 9 [(0, .inr (.inr ((9, 0, 0), 0))), (1, .inl a1)] [] s0
        exact am_wk hX [] (hJ9 hf)
def fX8_joins (s0 : AS) (a1 : Int32) : Option (AS × Int32) :=
  am_r (fX8_isPerson s0 a1) (fun (v1 : Int32) => if v1 = 0 then (some (s0, (-2 : Int32))) else (am_c (fX8_tell s0) (fun (s3 : AS) (v2 : Unit) => am_g (¬ (a1 < 0 ∨ 8 ≤ a1.toNatClampNeg)) (some (s3, s3.1 167 a1.toNatClampNeg)))))
def kX8_joins : List (Nat × Instr × Nat) := [(0, .aload_n 0, 1), (1, .iload_n 1, 1), (2, .invokevirtual 137, 3), (5, .ifCond .ne 6, 3), (8, .bipush (-2), 2), (10, .ireturn, 1), (11, .aload_n 0, 1), (12, .invokevirtual 165, 3), (15, .aload_n 0, 1), (16, .getfield 61, 3), (19, .getfield 228, 3), (22, .iload_n 1, 1), (23, .iaload, 1), (24, .ireturn, 1)]
theorem qX8_joins : ∀ q ∈ kX8_joins, decode mX8_joins.2.2.1 q.1 = .ok (q.2.1, q.2.2) ∧ am_iok mX8_joins.2.2.2.1 q.1 q.2.1 q.2.2 = true := by decide +kernel
set_option maxRecDepth 100000 in
theorem wX8_joins : Cond.code mX8_joins.2.1 mX8_joins.2.2.1 mX8_joins.2.2.2.1 mX8_joins.2.2.2.2.1 ∈ am_T := List.mem_filter.mpr ⟨List.mem_of_getElem? (i := 870) rfl, rfl⟩
set_option maxHeartbeats 4000000 in
set_option maxRecDepth 100000 in
theorem tX8_joins (l : Launch) (d : Nat) {s0 : AS} {a1 : Int32} {sE : AS} {rE : Int32} (hf : fX8_joins s0 a1 = some (sE, rE)) : am_Ct l (d + 6) mX8_joins [.inr (.inr ((9, 0, 0), 0)), .inl a1] s0 sE (some (.inl rE)) := by
  refine am_sim l (d + 5) (code := kX8_joins) (by decide +kernel) wX8_joins qX8_joins (Nat.le_of_ble_eq_true rfl) ?_
  intro X hX
  show X 0 [(0, .inr (.inr ((9, 0, 0), 0))), (1, .inl a1)] [] s0
  unfold fX8_joins at hf
  obtain ⟨v1, hcv1, hf⟩ := am_r_of hf
  refine am_blk hX 0 4 (And.intro rfl (And.intro rfl (Exists.intro s0 (Exists.intro (some (.inl v1)) (And.intro (tX8_isPerson l (d + 4) hcv1) (And.intro (fun hb => ?_) (fun hb => ?_)))))))
  · have hf := am_if hf hb
    show X 11 [(0, .inr (.inr ((9, 0, 0), 0))), (1, .inl a1)] [] s0
    obtain ⟨s3, v2, hcv2, hf⟩ := am_c_of hf
    obtain ⟨g4, hf⟩ := am_g_of hf
    refine am_blk hX 6 8 (And.intro rfl (And.intro rfl (Exists.intro s3 (Exists.intro none (And.intro (tX8_tell l (d + 0) hcv2) (And.intro rfl (And.intro rfl (And.intro rfl (And.intro g4 (am_ri hf))))))))))
  · have hf := am_it hf hb
    show X 8 [(0, .inr (.inr ((9, 0, 0), 0))), (1, .inl a1)] [] s0
    refine am_blk hX 4 2 (am_ri hf)
def fX8_lastFall_L4 (s0 : AS) : Nat → Int32 → Int32 → Option Int32
  | 0, _, _ => none
  | n4 + 1, x1, x2 =>
    if (s0.1 25 6) ≤ x2 then (some x1) else (am_g (¬ (x2 < 0 ∨ 8 ≤ x2.toNatClampNeg)) (am_let (if x1 < s0.1 167 x2.toNatClampNeg then s0.1 167 x2.toNatClampNeg else x1) (fun (x4 : Int32) => am_let (x2 + (1 : Int32)) (fun (x5 : Int32) => fX8_lastFall_L4 s0 n4 x4 x5))))
def fX8_lastFall (s0 : AS) : Option Int32 :=
  fX8_lastFall_L4 s0 am_fu (-1 : Int32) (0 : Int32)
def kX8_lastFall : List (Nat × Instr × Nat) := [(0, .iconst (-1), 1), (1, .istore_n 1, 1), (2, .iconst 0, 1), (3, .istore_n 2, 1), (4, .iload_n 2, 1), (5, .aload_n 0, 1), (6, .getfield 29, 3), (9, .getfield 123, 3), (12, .if_icmp .ge 23, 3), (15, .iload_n 1, 1), (16, .aload_n 0, 1), (17, .getfield 61, 3), (20, .getfield 228, 3), (23, .iload_n 2, 1), (24, .iaload, 1), (25, .invokestatic 269, 3), (28, .istore_n 1, 1), (29, .iinc 2 1, 3), (32, .goto (-28), 3), (35, .iload_n 1, 1), (36, .ireturn, 1)]
theorem qX8_lastFall : ∀ q ∈ kX8_lastFall, decode mX8_lastFall.2.2.1 q.1 = .ok (q.2.1, q.2.2) ∧ am_iok mX8_lastFall.2.2.2.1 q.1 q.2.1 q.2.2 = true := by decide +kernel
set_option maxRecDepth 100000 in
theorem wX8_lastFall : Cond.code mX8_lastFall.2.1 mX8_lastFall.2.2.1 mX8_lastFall.2.2.2.1 mX8_lastFall.2.2.2.2.1 ∈ am_T := List.mem_filter.mpr ⟨List.mem_of_getElem? (i := 978) rfl, rfl⟩
set_option maxHeartbeats 4000000 in
set_option maxRecDepth 100000 in
theorem tX8_lastFall (l : Launch) (d : Nat) {s0 : AS} {rE : Int32} (hf : fX8_lastFall s0 = some rE) : am_Ct l (d + 1) mX8_lastFall [.inr (.inr ((9, 0, 0), 0))] s0 s0 (some (.inl rE)) := by
  refine am_sim l (d + 0) (code := kX8_lastFall) (by decide +kernel) wX8_lastFall qX8_lastFall (Nat.le_of_ble_eq_true rfl) ?_
  intro X hX
  show X 0 [(0, .inr (.inr ((9, 0, 0), 0)))] [] s0
  unfold fX8_lastFall at hf
  have hL4 : ∀ (n4 : Nat) (x1 : Int32) (x2 : Int32), fX8_lastFall_L4 s0 n4 x1 x2 = some rE → X 4 [(0, .inr (.inr ((9, 0, 0), 0))), (1, .inl x1), (2, .inl x2)] [] s0 := by
    intro n4
    induction n4 with
    | zero => intro x1 x2 hf; exact am_no (show none = some _ from hf)
    | succ n4 ih4 =>
      intro x1 x2 hf
      refine am_blk hX 4 5 (And.intro rfl (And.intro rfl (And.intro (fun hb => ?_) (fun hb => ?_))))
      · have hf := am_it hf hb
        show X 35 [(0, .inr (.inr ((9, 0, 0), 0))), (1, .inl x1), (2, .inl x2)] [] s0
        refine am_blk hX 19 2 (am_rpi hf)
      · have hf := am_if hf hb
        show X 15 [(0, .inr (.inr ((9, 0, 0), 0))), (1, .inl x1), (2, .inl x2)] [] s0
        obtain ⟨g3, hf⟩ := am_g_of hf
        refine am_blk hX 9 8 (And.intro rfl (And.intro rfl (And.intro rfl (And.intro g3 (And.intro rfl (am_nl (Z := fun x4 => X 29 [(1, .inl x4), (0, .inr (.inr ((9, 0, 0), 0))), (2, .inl x2)] [] s0) hf (fun x4 hf => ?_)))))))
        refine am_blk hX 17 1 (am_nl (Z := fun x5 => X 32 [(2, .inl x5), (1, .inl x4), (0, .inr (.inr ((9, 0, 0), 0)))] [] s0) hf (fun x5 hf => ?_))
        refine am_blk hX 18 1 (?_)
        show X 4 [(2, .inl x5), (1, .inl x4), (0, .inr (.inr ((9, 0, 0), 0)))] [] s0
        exact am_wk hX [2, 1, 0] (ih4 x4 x5 hf)
  refine am_blk hX 0 4 (?_)
  show X 4 [(2, .inl (0 : Int32)), (1, .inl (-1 : Int32)), (0, .inr (.inr ((9, 0, 0), 0)))] [] s0
  exact am_wk hX [2, 1, 0] (hL4 am_fu (-1 : Int32) (0 : Int32) hf)
def fX8_leaves (s0 : AS) (a1 : Int32) : Option (AS × Int32) :=
  am_r (fX8_isPerson s0 a1) (fun (v1 : Int32) => if v1 = 0 then (some (s0, (-2 : Int32))) else (am_c (fX8_tell s0) (fun (s3 : AS) (v2 : Unit) => am_g (¬ (a1 < 0 ∨ 8 ≤ a1.toNatClampNeg)) (some (s3, s3.1 168 a1.toNatClampNeg)))))
def kX8_leaves : List (Nat × Instr × Nat) := [(0, .aload_n 0, 1), (1, .iload_n 1, 1), (2, .invokevirtual 137, 3), (5, .ifCond .ne 6, 3), (8, .bipush (-2), 2), (10, .ireturn, 1), (11, .aload_n 0, 1), (12, .invokevirtual 165, 3), (15, .aload_n 0, 1), (16, .getfield 61, 3), (19, .getfield 231, 3), (22, .iload_n 1, 1), (23, .iaload, 1), (24, .ireturn, 1)]
theorem qX8_leaves : ∀ q ∈ kX8_leaves, decode mX8_leaves.2.2.1 q.1 = .ok (q.2.1, q.2.2) ∧ am_iok mX8_leaves.2.2.2.1 q.1 q.2.1 q.2.2 = true := by decide +kernel
set_option maxRecDepth 100000 in
theorem wX8_leaves : Cond.code mX8_leaves.2.1 mX8_leaves.2.2.1 mX8_leaves.2.2.2.1 mX8_leaves.2.2.2.2.1 ∈ am_T := List.mem_filter.mpr ⟨List.mem_of_getElem? (i := 874) rfl, rfl⟩
set_option maxHeartbeats 4000000 in
set_option maxRecDepth 100000 in
theorem tX8_leaves (l : Launch) (d : Nat) {s0 : AS} {a1 : Int32} {sE : AS} {rE : Int32} (hf : fX8_leaves s0 a1 = some (sE, rE)) : am_Ct l (d + 6) mX8_leaves [.inr (.inr ((9, 0, 0), 0)), .inl a1] s0 sE (some (.inl rE)) := by
  refine am_sim l (d + 5) (code := kX8_leaves) (by decide +kernel) wX8_leaves qX8_leaves (Nat.le_of_ble_eq_true rfl) ?_
  intro X hX
  show X 0 [(0, .inr (.inr ((9, 0, 0), 0))), (1, .inl a1)] [] s0
  unfold fX8_leaves at hf
  obtain ⟨v1, hcv1, hf⟩ := am_r_of hf
  refine am_blk hX 0 4 (And.intro rfl (And.intro rfl (Exists.intro s0 (Exists.intro (some (.inl v1)) (And.intro (tX8_isPerson l (d + 4) hcv1) (And.intro (fun hb => ?_) (fun hb => ?_)))))))
  · have hf := am_if hf hb
    show X 11 [(0, .inr (.inr ((9, 0, 0), 0))), (1, .inl a1)] [] s0
    obtain ⟨s3, v2, hcv2, hf⟩ := am_c_of hf
    obtain ⟨g4, hf⟩ := am_g_of hf
    refine am_blk hX 6 8 (And.intro rfl (And.intro rfl (Exists.intro s3 (Exists.intro none (And.intro (tX8_tell l (d + 0) hcv2) (And.intro rfl (And.intro rfl (And.intro rfl (And.intro g4 (am_ri hf))))))))))
  · have hf := am_it hf hb
    show X 8 [(0, .inr (.inr ((9, 0, 0), 0))), (1, .inl a1)] [] s0
    refine am_blk hX 4 2 (am_ri hf)
def fX8_loop_L29 (s3 : AS) : Nat → Int32 → Option (AS × Int32)
  | 0, _ => none
  | n29 + 1, x4 =>
    if (60 : Int32) < x4 then (some (s3, (-1 : Int32))) else (am_let ((60 : Int32) - x4) (fun (x5 : Int32) => am_g (¬ (x5 < 0 ∨ 61 ≤ x5.toNatClampNeg)) (am_g (¬ ((60 : Int32) < 0 ∨ 61 ≤ (60 : Int32).toNatClampNeg)) (am_let (fun (x8 : Int32) => am_let (am_let (x4 + (1 : Int32)) (fun (x9 : Int32) => fX8_loop_L29 s3 n29 x9)) (fun J104 => if x8 = 0 then (J104) else (am_r (fX8_lastFall s3) (fun (v10 : Int32) => if x5 < v10 then (J104) else (some (s3, x4)))))) (fun J89 => am_let (J89 (0 : Int32)) (fun J88 => if (s3.1 164 x5.toNatClampNeg) = (s3.1 164 ((60 : Int32).toNatClampNeg)) then (am_g (¬ (x5 < 0 ∨ 61 ≤ x5.toNatClampNeg)) (am_g (¬ ((60 : Int32) < 0 ∨ 61 ≤ (60 : Int32).toNatClampNeg)) (if (s3.1 165 x5.toNatClampNeg) = (s3.1 165 ((60 : Int32).toNatClampNeg)) then (J89 (1 : Int32)) else (J88)))) else (J88)))))))
def fX8_loop (s0 : AS) : Option (AS × Int32) :=
  am_r (fX8_isMarch s0) (fun (v1 : Int32) => if v1 = 0 then (some (s0, (-2 : Int32))) else (am_c (fX8_tell s0) (fun (s3 : AS) (v2 : Unit) => if (s3.1 163 6) = (-1 : Int32) then (fX8_loop_L29 s3 am_fu (1 : Int32)) else (some (s3, (-1 : Int32))))))
def kX8_loop : List (Nat × Instr × Nat) := [(0, .aload_n 0, 1), (1, .invokevirtual 126, 3), (4, .ifCond .ne 6, 3), (7, .bipush (-2), 2), (9, .ireturn, 1), (10, .aload_n 0, 1), (11, .invokevirtual 165, 3), (14, .aload_n 0, 1), (15, .getfield 61, 3), (18, .getfield 234, 3), (21, .iconst (-1), 1), (22, .if_icmp .eq 5, 3), (25, .iconst (-1), 1), (26, .ireturn, 1), (27, .iconst 1, 1), (28, .istore_n 1, 1), (29, .iload_n 1, 1), (30, .bipush 60, 2), (32, .if_icmp .gt 78, 3), (35, .bipush 60, 2), (37, .iload_n 1, 1), (38, .isub, 1), (39, .istore_n 2, 1), (40, .aload_n 0, 1), (41, .getfield 61, 3), (44, .getfield 212, 3), (47, .iload_n 2, 1), (48, .iaload, 1), (49, .aload_n 0, 1), (50, .getfield 61, 3), (53, .getfield 212, 3), (56, .bipush 60, 2), (58, .iaload, 1), (59, .if_icmp .ne 29, 3), (62, .aload_n 0, 1), (63, .getfield 61, 3), (66, .getfield 216, 3), (69, .iload_n 2, 1), (70, .iaload, 1), (71, .aload_n 0, 1), (72, .getfield 61, 3), (75, .getfield 216, 3), (78, .bipush 60, 2), (80, .iaload, 1), (81, .if_icmp .ne 7, 3), (84, .iconst 1, 1), (85, .goto 4, 3), (88, .iconst 0, 1), (89, .istore_n 3, 1), (90, .iload_n 3, 1), (91, .ifCond .eq 13, 3), (94, .aload_n 0, 1), (95, .invokevirtual 266, 3), (98, .iload_n 2, 1), (99, .if_icmp .gt 5, 3), (102, .iload_n 1, 1), (103, .ireturn, 1), (104, .iinc 1 1, 3), (107, .goto (-78), 3), (110, .iconst (-1), 1), (111, .ireturn, 1)]
theorem qX8_loop : ∀ q ∈ kX8_loop, decode mX8_loop.2.2.1 q.1 = .ok (q.2.1, q.2.2) ∧ am_iok mX8_loop.2.2.2.1 q.1 q.2.1 q.2.2 = true := by decide +kernel
set_option maxRecDepth 100000 in
theorem wX8_loop : Cond.code mX8_loop.2.1 mX8_loop.2.2.1 mX8_loop.2.2.2.1 mX8_loop.2.2.2.2.1 ∈ am_T := List.mem_filter.mpr ⟨List.mem_of_getElem? (i := 974) rfl, rfl⟩
set_option maxHeartbeats 4000000 in
set_option maxRecDepth 100000 in
theorem tX8_loop (l : Launch) (d : Nat) {s0 : AS} {sE : AS} {rE : Int32} (hf : fX8_loop s0 = some (sE, rE)) : am_Ct l (d + 6) mX8_loop [.inr (.inr ((9, 0, 0), 0))] s0 sE (some (.inl rE)) := by
  refine am_sim l (d + 5) (code := kX8_loop) (by decide +kernel) wX8_loop qX8_loop (Nat.le_of_ble_eq_true rfl) ?_
  intro X hX
  show X 0 [(0, .inr (.inr ((9, 0, 0), 0)))] [] s0
  unfold fX8_loop at hf
  obtain ⟨v1, hcv1, hf⟩ := am_r_of hf
  refine am_blk hX 0 3 (And.intro rfl (And.intro rfl (Exists.intro s0 (Exists.intro (some (.inl v1)) (And.intro (tX8_isMarch l (d + 4) hcv1) (And.intro (fun hb => ?_) (fun hb => ?_)))))))
  · have hf := am_if hf hb
    show X 10 [(0, .inr (.inr ((9, 0, 0), 0)))] [] s0
    obtain ⟨s3, v2, hcv2, hf⟩ := am_c_of hf
    refine am_blk hX 5 7 (And.intro rfl (And.intro rfl (Exists.intro s3 (Exists.intro none (And.intro (tX8_tell l (d + 0) hcv2) (And.intro rfl (And.intro rfl (And.intro (fun hb => ?_) (fun hb => ?_)))))))))
    · have hf := am_it hf hb
      show X 27 [(0, .inr (.inr ((9, 0, 0), 0)))] [] s3
      have hL29 : ∀ (n29 : Nat) (x4 : Int32), fX8_loop_L29 s3 n29 x4 = some (sE, rE) → X 29 [(0, .inr (.inr ((9, 0, 0), 0))), (1, .inl x4)] [] s3 := by
        intro n29
        induction n29 with
        | zero => intro x4 hf; exact am_no (show none = some _ from hf)
        | succ n29 ih29 =>
          intro x4 hf
          refine am_blk hX 16 3 (And.intro (fun hb => ?_) (fun hb => ?_))
          · have hf := am_it hf hb
            show X 110 [(0, .inr (.inr ((9, 0, 0), 0))), (1, .inl x4)] [] s3
            refine am_blk hX 59 2 (am_ri hf)
          · have hf := am_if hf hb
            show X 35 [(0, .inr (.inr ((9, 0, 0), 0))), (1, .inl x4)] [] s3
            refine am_blk hX 19 4 (am_nl (Z := fun x5 => X 40 [(2, .inl x5), (0, .inr (.inr ((9, 0, 0), 0))), (1, .inl x4)] [] s3) hf (fun x5 hf => ?_))
            obtain ⟨g6, hf⟩ := am_g_of hf
            obtain ⟨g7, hf⟩ := am_g_of hf
            refine am_jn hf (fun J89 => ∀ (x8 : Int32), J89 x8 = some (sE, rE) → X 89 [(0, .inr (.inr ((9, 0, 0), 0))), (1, .inl x4), (2, .inl x5)] [.inl x8] s3) ?_ ?_
            · intro x8 hf
              refine am_jn hf (fun J104 => J104 = some (sE, rE) → X 104 [(0, .inr (.inr ((9, 0, 0), 0))), (1, .inl x4)] [] s3) ?_ ?_
              · intro hf
                refine am_blk hX 57 1 (am_nl (Z := fun x9 => X 107 [(1, .inl x9), (0, .inr (.inr ((9, 0, 0), 0)))] [] s3) hf (fun x9 hf => ?_))
                refine am_blk hX 58 1 (?_)
                show X 29 [(1, .inl x9), (0, .inr (.inr ((9, 0, 0), 0)))] [] s3
                exact am_wk hX [1, 0] (ih29 x9 hf)
              · intro J104 hJ104 hf
                refine am_blk hX 48 3 (And.intro (fun hb => ?_) (fun hb => ?_))
                · have hf := am_it hf hb
                  show X 104 [(3, .inl x8), (0, .inr (.inr ((9, 0, 0), 0))), (1, .inl x4), (2, .inl x5)] [] s3
                  exact am_wk hX [1, 2] (hJ104 hf)
                · have hf := am_if hf hb
                  show X 94 [(3, .inl x8), (0, .inr (.inr ((9, 0, 0), 0))), (1, .inl x4), (2, .inl x5)] [] s3
                  obtain ⟨v10, hcv10, hf⟩ := am_r_of hf
                  refine am_blk hX 51 4 (And.intro rfl (And.intro rfl (Exists.intro s3 (Exists.intro (some (.inl v10)) (And.intro (tX8_lastFall l (d + 4) hcv10) (And.intro (fun hb => ?_) (fun hb => ?_)))))))
                  · have hf := am_it hf hb
                    show X 104 [(3, .inl x8), (0, .inr (.inr ((9, 0, 0), 0))), (1, .inl x4), (2, .inl x5)] [] s3
                    exact am_wk hX [1, 2] (hJ104 hf)
                  · have hf := am_if hf hb
                    show X 102 [(3, .inl x8), (0, .inr (.inr ((9, 0, 0), 0))), (1, .inl x4), (2, .inl x5)] [] s3
                    refine am_blk hX 55 2 (am_ri hf)
            · intro J89 hJ89 hf
              refine am_jn hf (fun J88 => J88 = some (sE, rE) → X 88 [(0, .inr (.inr ((9, 0, 0), 0))), (1, .inl x4), (2, .inl x5)] [] s3) ?_ ?_
              · intro hf
                refine am_blk hX 47 1 (?_)
                show X 89 [(0, .inr (.inr ((9, 0, 0), 0))), (1, .inl x4), (2, .inl x5)] [.inl (0 : Int32)] s3
                exact am_wk hX [0, 1, 2] (hJ89 (0 : Int32) hf)
              · intro J88 hJ88 hf
                refine am_blk hX 23 11 (And.intro rfl (And.intro rfl (And.intro rfl (And.intro g6 (And.intro rfl (And.intro rfl (And.intro rfl (And.intro g7 (And.intro (fun hb => ?_) (fun hb => ?_))))))))))
                · have hf := am_if hf hb
                  show X 88 [(2, .inl x5), (0, .inr (.inr ((9, 0, 0), 0))), (1, .inl x4)] [] s3
                  exact am_wk hX [1, 2, 0] (hJ88 hf)
                · have hf := am_it hf hb
                  show X 62 [(2, .inl x5), (0, .inr (.inr ((9, 0, 0), 0))), (1, .inl x4)] [] s3
                  obtain ⟨g11, hf⟩ := am_g_of hf
                  obtain ⟨g12, hf⟩ := am_g_of hf
                  refine am_blk hX 34 11 (And.intro rfl (And.intro rfl (And.intro rfl (And.intro g11 (And.intro rfl (And.intro rfl (And.intro rfl (And.intro g12 (And.intro (fun hb => ?_) (fun hb => ?_))))))))))
                  · have hf := am_if hf hb
                    show X 88 [(2, .inl x5), (0, .inr (.inr ((9, 0, 0), 0))), (1, .inl x4)] [] s3
                    exact am_wk hX [1, 2, 0] (hJ88 hf)
                  · have hf := am_it hf hb
                    show X 84 [(2, .inl x5), (0, .inr (.inr ((9, 0, 0), 0))), (1, .inl x4)] [] s3
                    refine am_blk hX 45 2 (?_)
                    show X 89 [(2, .inl x5), (0, .inr (.inr ((9, 0, 0), 0))), (1, .inl x4)] [.inl (1 : Int32)] s3
                    exact am_wk hX [1, 2, 0] (hJ89 (1 : Int32) hf)
      refine am_blk hX 14 2 (?_)
      show X 29 [(1, .inl (1 : Int32)), (0, .inr (.inr ((9, 0, 0), 0)))] [] s3
      exact am_wk hX [1, 0] (hL29 am_fu (1 : Int32) hf)
    · have hf := am_if hf hb
      show X 25 [(0, .inr (.inr ((9, 0, 0), 0)))] [] s3
      refine am_blk hX 12 2 (am_ri hf)
  · have hf := am_it hf hb
    show X 7 [(0, .inr (.inr ((9, 0, 0), 0)))] [] s0
    refine am_blk hX 3 2 (am_ri hf)
def fX8_luck_L43 (a1 : Int32) (a2 : Int32) (a3 : Int32) : Nat → AS → Int32 → Int32 → Option (AS × Int32)
  | 0, _, _, _ => none
  | n43 + 1, s4, x5, x6 =>
    if a2 ≤ x6 then (some (s4, x5)) else (am_r (fX8_rainFrom s4 (a1.toInt64 + x6.toInt64)) (fun (v7 : Int64) => am_c (fX8_goInRain s4 v7 (60 : Int32)) (fun (s9 : AS) (v8 : Unit) => am_r (fX8_holds (s9.1 198 8) a3) (fun (v10 : Int32) => am_let (fun (x11 : Int32) => am_let (x6 + (1 : Int32)) (fun (x12 : Int32) => fX8_luck_L43 a1 a2 a3 n43 s9 x11 x12)) (fun J82 => if v10 = 0 then (J82 x5) else (am_let (x5 + (1 : Int32)) (fun (x13 : Int32) => J82 x13)))))))
def fX8_luck (s0 : AS) (a1 : Int32) (a2 : Int32) (a3 : Int32) : Option (AS × Int32) :=
  am_r (fX8_isPlace s0 a3) (fun (v1 : Int32) => am_let (some (s0, (-2 : Int32))) (fun J30 => if v1 = 0 then (J30) else (if a1 < 0 then (J30) else (if (2000000000 : Int32) < a1 then (J30) else (if a2 < (1 : Int32) then (J30) else (if a2 ≤ (20 : Int32) then (am_c (fX8_tell s0) (fun (s3 : AS) (v2 : Unit) => fX8_luck_L43 a1 a2 a3 am_fu s3 (0 : Int32) (0 : Int32))) else (J30)))))))
def kX8_luck : List (Nat × Instr × Nat) := [(0, .aload_n 0, 1), (1, .iload_n 3, 1), (2, .invokevirtual 162, 3), (5, .ifCond .eq 25, 3), (8, .iload_n 1, 1), (9, .ifCond .lt 21, 3), (12, .iload_n 1, 1), (13, .ldc_w 418, 3), (16, .if_icmp .gt 14, 3), (19, .iload_n 2, 1), (20, .iconst 1, 1), (21, .if_icmp .lt 9, 3), (24, .iload_n 2, 1), (25, .bipush 20, 2), (27, .if_icmp .le 6, 3), (30, .bipush (-2), 2), (32, .ireturn, 1), (33, .aload_n 0, 1), (34, .invokevirtual 165, 3), (37, .iconst 0, 1), (38, .istore 4, 2), (40, .iconst 0, 1), (41, .istore 5, 2), (43, .iload 5, 2), (45, .iload_n 2, 1), (46, .if_icmp .ge 42, 3), (49, .aload_n 0, 1), (50, .aload_n 0, 1), (51, .iload_n 1, 1), (52, .i2l, 1), (53, .iload 5, 2), (55, .i2l, 1), (56, .ladd, 1), (57, .invokevirtual 419, 3), (60, .bipush 60, 2), (62, .invokevirtual 393, 3), (65, .aload_n 0, 1), (66, .getfield 75, 3), (69, .getfield 272, 3), (72, .iload_n 3, 1), (73, .invokestatic 175, 3), (76, .ifCond .eq 6, 3), (79, .iinc 4 1, 3), (82, .iinc 5 1, 3), (85, .goto (-42), 3), (88, .iload 4, 2), (90, .ireturn, 1)]
theorem qX8_luck : ∀ q ∈ kX8_luck, decode mX8_luck.2.2.1 q.1 = .ok (q.2.1, q.2.2) ∧ am_iok mX8_luck.2.2.2.1 q.1 q.2.1 q.2.2 = true := by decide +kernel
set_option maxRecDepth 100000 in
theorem wX8_luck : Cond.code mX8_luck.2.1 mX8_luck.2.2.1 mX8_luck.2.2.2.1 mX8_luck.2.2.2.2.1 ∈ am_T := List.mem_filter.mpr ⟨List.mem_of_getElem? (i := 1204) rfl, rfl⟩
set_option maxHeartbeats 4000000 in
set_option maxRecDepth 100000 in
theorem tX8_luck (l : Launch) (d : Nat) {s0 : AS} {a1 : Int32} {a2 : Int32} {a3 : Int32} {sE : AS} {rE : Int32} (hf : fX8_luck s0 a1 a2 a3 = some (sE, rE)) : am_Ct l (d + 6) mX8_luck [.inr (.inr ((9, 0, 0), 0)), .inl a1, .inl a2, .inl a3] s0 sE (some (.inl rE)) := by
  refine am_sim l (d + 5) (code := kX8_luck) (by decide +kernel) wX8_luck qX8_luck (Nat.le_of_ble_eq_true rfl) ?_
  intro X hX
  show X 0 [(0, .inr (.inr ((9, 0, 0), 0))), (1, .inl a1), (2, .inl a2), (3, .inl a3)] [] s0
  unfold fX8_luck at hf
  obtain ⟨v1, hcv1, hf⟩ := am_r_of hf
  refine am_jn hf (fun J30 => J30 = some (sE, rE) → X 30 [] [] s0) ?_ ?_
  · intro hf
    refine am_blk hX 15 2 (am_ri hf)
  · intro J30 hJ30 hf
    refine am_blk hX 0 4 (And.intro rfl (And.intro rfl (Exists.intro s0 (Exists.intro (some (.inl v1)) (And.intro (tX8_isPlace l (d + 4) hcv1) (And.intro (fun hb => ?_) (fun hb => ?_)))))))
    · have hf := am_it hf hb
      show X 30 [(0, .inr (.inr ((9, 0, 0), 0))), (1, .inl a1), (2, .inl a2), (3, .inl a3)] [] s0
      exact am_wk hX [] (hJ30 hf)
    · have hf := am_if hf hb
      show X 8 [(0, .inr (.inr ((9, 0, 0), 0))), (1, .inl a1), (2, .inl a2), (3, .inl a3)] [] s0
      refine am_blk hX 4 2 (And.intro (fun hb => ?_) (fun hb => ?_))
      · have hf := am_it hf hb
        show X 30 [(0, .inr (.inr ((9, 0, 0), 0))), (1, .inl a1), (2, .inl a2), (3, .inl a3)] [] s0
        exact am_wk hX [] (hJ30 hf)
      · have hf := am_if hf hb
        show X 12 [(0, .inr (.inr ((9, 0, 0), 0))), (1, .inl a1), (2, .inl a2), (3, .inl a3)] [] s0
        refine am_blk hX 6 3 (And.intro (fun hb => ?_) (fun hb => ?_))
        · have hf := am_it hf hb
          show X 30 [(0, .inr (.inr ((9, 0, 0), 0))), (1, .inl a1), (2, .inl a2), (3, .inl a3)] [] s0
          exact am_wk hX [] (hJ30 hf)
        · have hf := am_if hf hb
          show X 19 [(0, .inr (.inr ((9, 0, 0), 0))), (1, .inl a1), (2, .inl a2), (3, .inl a3)] [] s0
          refine am_blk hX 9 3 (And.intro (fun hb => ?_) (fun hb => ?_))
          · have hf := am_it hf hb
            show X 30 [(0, .inr (.inr ((9, 0, 0), 0))), (1, .inl a1), (2, .inl a2), (3, .inl a3)] [] s0
            exact am_wk hX [] (hJ30 hf)
          · have hf := am_if hf hb
            show X 24 [(0, .inr (.inr ((9, 0, 0), 0))), (1, .inl a1), (2, .inl a2), (3, .inl a3)] [] s0
            refine am_blk hX 12 3 (And.intro (fun hb => ?_) (fun hb => ?_))
            · have hf := am_it hf hb
              show X 33 [(0, .inr (.inr ((9, 0, 0), 0))), (1, .inl a1), (2, .inl a2), (3, .inl a3)] [] s0
              obtain ⟨s3, v2, hcv2, hf⟩ := am_c_of hf
              have hL43 : ∀ (n43 : Nat) (s4 : AS) (x5 : Int32) (x6 : Int32), fX8_luck_L43 a1 a2 a3 n43 s4 x5 x6 = some (sE, rE) → X 43 [(0, .inr (.inr ((9, 0, 0), 0))), (1, .inl a1), (2, .inl a2), (3, .inl a3), (4, .inl x5), (5, .inl x6)] [] s4 := by
                intro n43
                induction n43 with
                | zero => intro s4 x5 x6 hf; exact am_no (show none = some _ from hf)
                | succ n43 ih43 =>
                  intro s4 x5 x6 hf
                  refine am_blk hX 23 3 (And.intro (fun hb => ?_) (fun hb => ?_))
                  · have hf := am_it hf hb
                    show X 88 [(0, .inr (.inr ((9, 0, 0), 0))), (1, .inl a1), (2, .inl a2), (3, .inl a3), (4, .inl x5), (5, .inl x6)] [] s4
                    refine am_blk hX 45 2 (am_ri hf)
                  · have hf := am_if hf hb
                    show X 49 [(0, .inr (.inr ((9, 0, 0), 0))), (1, .inl a1), (2, .inl a2), (3, .inl a3), (4, .inl x5), (5, .inl x6)] [] s4
                    obtain ⟨v7, hcv7, hf⟩ := am_r_of hf
                    obtain ⟨s9, v8, hcv8, hf⟩ := am_c_of hf
                    obtain ⟨v10, hcv10, hf⟩ := am_r_of hf
                    refine am_jn hf (fun J82 => ∀ (x11 : Int32), J82 x11 = some (sE, rE) → X 82 [(0, .inr (.inr ((9, 0, 0), 0))), (1, .inl a1), (2, .inl a2), (3, .inl a3), (4, .inl x11), (5, .inl x6)] [] s9) ?_ ?_
                    · intro x11 hf
                      refine am_blk hX 43 1 (am_nl (Z := fun x12 => X 85 [(5, .inl x12), (0, .inr (.inr ((9, 0, 0), 0))), (1, .inl a1), (2, .inl a2), (3, .inl a3), (4, .inl x11)] [] s9) hf (fun x12 hf => ?_))
                      refine am_blk hX 44 1 (?_)
                      show X 43 [(5, .inl x12), (0, .inr (.inr ((9, 0, 0), 0))), (1, .inl a1), (2, .inl a2), (3, .inl a3), (4, .inl x11)] [] s9
                      exact am_wk hX [1, 2, 3, 4, 5, 0] (ih43 s9 x11 x12 hf)
                    · intro J82 hJ82 hf
                      refine am_blk hX 26 16 (And.intro rfl (And.intro rfl (Exists.intro s4 (Exists.intro (some (.inr (.inl v7))) (And.intro (tX8_rainFrom l (d + 4) hcv7) (And.intro rfl (And.intro rfl (Exists.intro s9 (Exists.intro none (And.intro (tX8_goInRain l (d + 0) hcv8) (And.intro rfl (And.intro rfl (And.intro rfl (Exists.intro s9 (Exists.intro (some (.inl v10)) (And.intro (tX8_holds l (d + 4) hcv10) (And.intro (fun hb => ?_) (fun hb => ?_))))))))))))))))))
                      · have hf := am_it hf hb
                        show X 82 [(0, .inr (.inr ((9, 0, 0), 0))), (1, .inl a1), (2, .inl a2), (3, .inl a3), (4, .inl x5), (5, .inl x6)] [] s9
                        exact am_wk hX [0, 1, 2, 3, 4, 5] (hJ82 x5 hf)
                      · have hf := am_if hf hb
                        show X 79 [(0, .inr (.inr ((9, 0, 0), 0))), (1, .inl a1), (2, .inl a2), (3, .inl a3), (4, .inl x5), (5, .inl x6)] [] s9
                        refine am_blk hX 42 1 (am_nl (Z := fun x13 => X 82 [(4, .inl x13), (0, .inr (.inr ((9, 0, 0), 0))), (1, .inl a1), (2, .inl a2), (3, .inl a3), (5, .inl x6)] [] s9) hf (fun x13 hf => ?_))
                        exact am_wk hX [1, 2, 3, 4, 0, 5] (hJ82 x13 hf)
              refine am_blk hX 17 6 (And.intro rfl (And.intro rfl (Exists.intro s3 (Exists.intro none (And.intro (tX8_tell l (d + 0) hcv2) (?_))))))
              show X 43 [(5, .inl (0 : Int32)), (4, .inl (0 : Int32)), (0, .inr (.inr ((9, 0, 0), 0))), (1, .inl a1), (2, .inl a2), (3, .inl a3)] [] s3
              exact am_wk hX [2, 3, 4, 5, 1, 0] (hL43 am_fu s3 (0 : Int32) (0 : Int32) hf)
            · have hf := am_if hf hb
              show X 30 [(0, .inr (.inr ((9, 0, 0), 0))), (1, .inl a1), (2, .inl a2), (3, .inl a3)] [] s0
              exact am_wk hX [] (hJ30 hf)
def fX8_march (s0 : AS) : Option (AS × Int32) :=
  am_c (fX4_read s0 1 (s0.1 0 1) 3) (fun (s2 : AS) (v1 : Unit) => am_let (am_si s2 0 1 (0 : Int32)) (fun (s3 : AS) => if (s3.1 1 0) = 0 then (am_c (fX3_take s3 25 3) (fun (s5 : AS) (v4 : Unit) => am_c (fX0_clear s5 47) (fun (s7 : AS) (v6 : Unit) => am_let (am_si s7 0 8 (0 : Int32)) (fun (s8 : AS) => some (s8, s8.1 25 0))))) else (some (s3, (-4 : Int32)))))
def kX8_march : List (Nat × Instr × Nat) := [(0, .aload_n 0, 1), (1, .getfield 18, 3), (4, .aload_n 0, 1), (5, .getfield 85, 3), (8, .aload_n 0, 1), (9, .getfield 25, 3), (12, .invokevirtual 93, 3), (15, .aload_n 0, 1), (16, .iconst 0, 1), (17, .putfield 85, 3), (20, .aload_n 0, 1), (21, .getfield 18, 3), (24, .getfield 97, 3), (27, .ifCond .eq 6, 3), (30, .bipush (-4), 2), (32, .ireturn, 1), (33, .aload_n 0, 1), (34, .getfield 29, 3), (37, .aload_n 0, 1), (38, .getfield 25, 3), (41, .invokevirtual 100, 3), (44, .aload_n 0, 1), (45, .getfield 35, 3), (48, .invokevirtual 104, 3), (51, .aload_n 0, 1), (52, .iconst 0, 1), (53, .putfield 107, 3), (56, .aload_n 0, 1), (57, .getfield 29, 3), (60, .getfield 111, 3), (63, .ireturn, 1)]
theorem qX8_march : ∀ q ∈ kX8_march, decode mX8_march.2.2.1 q.1 = .ok (q.2.1, q.2.2) ∧ am_iok mX8_march.2.2.2.1 q.1 q.2.1 q.2.2 = true := by decide +kernel
set_option maxRecDepth 100000 in
theorem wX8_march : Cond.code mX8_march.2.1 mX8_march.2.2.1 mX8_march.2.2.2.1 mX8_march.2.2.2.2.1 ∈ am_T := List.mem_filter.mpr ⟨List.mem_of_getElem? (i := 523) rfl, rfl⟩
set_option maxHeartbeats 4000000 in
set_option maxRecDepth 100000 in
theorem tX8_march (l : Launch) (d : Nat) {s0 : AS} {sE : AS} {rE : Int32} (hf : fX8_march s0 = some (sE, rE)) : am_Ct l (d + 12) mX8_march [.inr (.inr ((9, 0, 0), 0))] s0 sE (some (.inl rE)) := by
  refine am_sim l (d + 11) (code := kX8_march) (by decide +kernel) wX8_march qX8_march (Nat.le_of_ble_eq_true rfl) ?_
  intro X hX
  show X 0 [(0, .inr (.inr ((9, 0, 0), 0)))] [] s0
  unfold fX8_march at hf
  obtain ⟨s2, v1, hcv1, hf⟩ := am_c_of hf
  refine am_blk hX 0 10 (And.intro rfl (And.intro rfl (And.intro rfl (And.intro rfl (And.intro rfl (Exists.intro s2 (Exists.intro none (And.intro (tX4_read l (d + 0) hcv1) (And.intro rfl (am_nl (Z := fun s3 => X 20 [(0, .inr (.inr ((9, 0, 0), 0)))] [] s3) hf (fun s3 hf => ?_)))))))))))
  refine am_blk hX 10 4 (And.intro rfl (And.intro rfl (And.intro (fun hb => ?_) (fun hb => ?_))))
  · have hf := am_it hf hb
    show X 33 [(0, .inr (.inr ((9, 0, 0), 0)))] [] s3
    obtain ⟨s5, v4, hcv4, hf⟩ := am_c_of hf
    obtain ⟨s7, v6, hcv6, hf⟩ := am_c_of hf
    refine am_blk hX 16 11 (And.intro rfl (And.intro rfl (And.intro rfl (And.intro rfl (Exists.intro s5 (Exists.intro none (And.intro (tX3_take l (d + 10) hcv4) (And.intro rfl (And.intro rfl (And.intro rfl (Exists.intro s7 (Exists.intro none (And.intro (tX0_clear l (d + 10) hcv6) (And.intro rfl (And.intro (Or.inl rfl) (am_nl (Z := fun s8 => X 56 [(0, .inr (.inr ((9, 0, 0), 0)))] [] s8) hf (fun s8 hf => ?_)))))))))))))))))
    refine am_blk hX 27 4 (And.intro rfl (And.intro rfl (am_ri hf)))
  · have hf := am_if hf hb
    show X 30 [(0, .inr (.inr ((9, 0, 0), 0)))] [] s3
    refine am_blk hX 14 2 (am_ri hf)
def fX8_mean_L29 (a1 : Int32) (a2 : Int32) : Nat → AS → Int64 → Int32 → Option (AS × Int64)
  | 0, _, _, _ => none
  | n29 + 1, s5, x6, x7 =>
    if ((1 : Int32) <<< ((a1 + (1 : Int32)) &&& 31)) ≤ x7 then (am_r (fX8_tens (a1 + (1 : Int32))) (fun (v8 : Int64) => am_r (fX8_partOf x6 v8 a2) (fun (v9 : Int64) => some (s5, v9)))) else (am_r (fX8_weightOf s5 x7 (a1 + (1 : Int32))) (fun (v10 : Int64) => am_let (fun (s11 : AS) (x12 : Int64) => am_let (x7 + (1 : Int32)) (fun (x13 : Int32) => fX8_mean_L29 a1 a2 n29 s11 x12 x13)) (fun J84 => if (lg_cmp v10 (0 : Int64)) ≤ 0 then (J84 s5 x6) else (am_c (fX8_goInRain s5 x7.toInt64 a1) (fun (s15 : AS) (v14 : Unit) => am_g (¬ (a1 < 0 ∨ 61 ≤ a1.toNatClampNeg)) (am_r (fJ6_bitCount_0f7a4 (s15.1 200 a1.toNatClampNeg)) (fun (v17 : Int32) => am_let (x6 + (v10 * v17.toInt64)) (fun (x18 : Int64) => J84 s15 x18))))))))
def fX8_mean (s0 : AS) (a1 : Int32) (a2 : Int32) : Option (AS × Int64) :=
  am_r (fX8_isRainyStep s0 a1) (fun (v1 : Int32) => am_let (some (s0, (-2 : Int64))) (fun J16 => if v1 = 0 then (J16) else (am_r (fX8_isPartOfFraction a2) (fun (v2 : Int32) => if v2 = 0 then (J16) else (am_c (fX8_tell s0) (fun (s4 : AS) (v3 : Unit) => fX8_mean_L29 a1 a2 am_fu s4 (0 : Int64) (0 : Int32)))))))
def kX8_mean : List (Nat × Instr × Nat) := [(0, .aload_n 0, 1), (1, .iload_n 1, 1), (2, .invokevirtual 381, 3), (5, .ifCond .eq 11, 3), (8, .aload_n 0, 1), (9, .iload_n 2, 1), (10, .invokevirtual 384, 3), (13, .ifCond .ne 7, 3), (16, .ldc2_w 387, 3), (19, .lreturn, 1), (20, .aload_n 0, 1), (21, .invokevirtual 165, 3), (24, .lconst 0, 1), (25, .lstore_n 3, 1), (26, .iconst 0, 1), (27, .istore 5, 2), (29, .iload 5, 2), (31, .iconst 1, 1), (32, .iload_n 1, 1), (33, .iconst 1, 1), (34, .iadd, 1), (35, .ishl, 1), (36, .if_icmp .ge 54, 3), (39, .aload_n 0, 1), (40, .iload 5, 2), (42, .iload_n 1, 1), (43, .iconst 1, 1), (44, .iadd, 1), (45, .invokevirtual 389, 3), (48, .lstore 6, 2), (50, .lload 6, 2), (52, .lconst 0, 1), (53, .lcmp, 1), (54, .ifCond .le 30, 3), (57, .aload_n 0, 1), (58, .iload 5, 2), (60, .i2l, 1), (61, .iload_n 1, 1), (62, .invokevirtual 393, 3), (65, .lload_n 3, 1), (66, .lload 6, 2), (68, .aload_n 0, 1), (69, .getfield 75, 3), (72, .getfield 216, 3), (75, .iload_n 1, 1), (76, .iaload, 1), (77, .invokestatic 252, 3), (80, .i2l, 1), (81, .lmul, 1), (82, .ladd, 1), (83, .lstore_n 3, 1), (84, .iinc 5 1, 3), (87, .goto (-58), 3), (90, .lload_n 3, 1), (91, .iload_n 1, 1), (92, .iconst 1, 1), (93, .iadd, 1), (94, .invokestatic 397, 3), (97, .iload_n 2, 1), (98, .invokestatic 401, 3), (101, .lreturn, 1)]
theorem qX8_mean : ∀ q ∈ kX8_mean, decode mX8_mean.2.2.1 q.1 = .ok (q.2.1, q.2.2) ∧ am_iok mX8_mean.2.2.2.1 q.1 q.2.1 q.2.2 = true := by decide +kernel
set_option maxRecDepth 100000 in
theorem wX8_mean : Cond.code mX8_mean.2.1 mX8_mean.2.2.1 mX8_mean.2.2.2.1 mX8_mean.2.2.2.2.1 ∈ am_T := List.mem_filter.mpr ⟨List.mem_of_getElem? (i := 1187) rfl, rfl⟩
set_option maxHeartbeats 4000000 in
set_option maxRecDepth 100000 in
theorem tX8_mean (l : Launch) (d : Nat) {s0 : AS} {a1 : Int32} {a2 : Int32} {sE : AS} {rE : Int64} (hf : fX8_mean s0 a1 a2 = some (sE, rE)) : am_Ct l (d + 6) mX8_mean [.inr (.inr ((9, 0, 0), 0)), .inl a1, .inl a2] s0 sE (some (.inr (.inl rE))) := by
  refine am_sim l (d + 5) (code := kX8_mean) (by decide +kernel) wX8_mean qX8_mean (Nat.le_of_ble_eq_true rfl) ?_
  intro X hX
  show X 0 [(0, .inr (.inr ((9, 0, 0), 0))), (1, .inl a1), (2, .inl a2)] [] s0
  unfold fX8_mean at hf
  obtain ⟨v1, hcv1, hf⟩ := am_r_of hf
  refine am_jn hf (fun J16 => J16 = some (sE, rE) → X 16 [] [] s0) ?_ ?_
  · intro hf
    refine am_blk hX 8 2 (And.intro rfl (am_rl hf))
  · intro J16 hJ16 hf
    refine am_blk hX 0 4 (And.intro rfl (And.intro rfl (Exists.intro s0 (Exists.intro (some (.inl v1)) (And.intro (tX8_isRainyStep l (d + 3) hcv1) (And.intro (fun hb => ?_) (fun hb => ?_)))))))
    · have hf := am_it hf hb
      show X 16 [(0, .inr (.inr ((9, 0, 0), 0))), (1, .inl a1), (2, .inl a2)] [] s0
      exact am_wk hX [] (hJ16 hf)
    · have hf := am_if hf hb
      show X 8 [(0, .inr (.inr ((9, 0, 0), 0))), (1, .inl a1), (2, .inl a2)] [] s0
      obtain ⟨v2, hcv2, hf⟩ := am_r_of hf
      refine am_blk hX 4 4 (And.intro rfl (And.intro rfl (Exists.intro s0 (Exists.intro (some (.inl v2)) (And.intro (tX8_isPartOfFraction l (d + 4) hcv2) (And.intro (fun hb => ?_) (fun hb => ?_)))))))
      · have hf := am_if hf hb
        show X 20 [(0, .inr (.inr ((9, 0, 0), 0))), (1, .inl a1), (2, .inl a2)] [] s0
        obtain ⟨s4, v3, hcv3, hf⟩ := am_c_of hf
        have hL29 : ∀ (n29 : Nat) (s5 : AS) (x6 : Int64) (x7 : Int32), fX8_mean_L29 a1 a2 n29 s5 x6 x7 = some (sE, rE) → X 29 [(0, .inr (.inr ((9, 0, 0), 0))), (1, .inl a1), (2, .inl a2), (3, .inr (.inl x6)), (5, .inl x7)] [] s5 := by
          intro n29
          induction n29 with
          | zero => intro s5 x6 x7 hf; exact am_no (show none = some _ from hf)
          | succ n29 ih29 =>
            intro s5 x6 x7 hf
            refine am_blk hX 16 7 (And.intro (fun hb => ?_) (fun hb => ?_))
            · have hf := am_it hf hb
              show X 90 [(0, .inr (.inr ((9, 0, 0), 0))), (1, .inl a1), (2, .inl a2), (3, .inr (.inl x6)), (5, .inl x7)] [] s5
              obtain ⟨v8, hcv8, hf⟩ := am_r_of hf
              obtain ⟨v9, hcv9, hf⟩ := am_r_of hf
              refine am_blk hX 53 8 (And.intro rfl (Exists.intro s5 (Exists.intro (some (.inr (.inl v8))) (And.intro (tX8_tens l (d + 4) hcv8) (And.intro rfl (Exists.intro s5 (Exists.intro (some (.inr (.inl v9))) (And.intro (tX8_partOf l (d + 3) hcv9) (And.intro rfl (am_rl hf))))))))))
            · have hf := am_if hf hb
              show X 39 [(0, .inr (.inr ((9, 0, 0), 0))), (1, .inl a1), (2, .inl a2), (3, .inr (.inl x6)), (5, .inl x7)] [] s5
              obtain ⟨v10, hcv10, hf⟩ := am_r_of hf
              refine am_jn hf (fun J84 => ∀ (s11 : AS) (x12 : Int64), J84 s11 x12 = some (sE, rE) → X 84 [(0, .inr (.inr ((9, 0, 0), 0))), (1, .inl a1), (2, .inl a2), (3, .inr (.inl x12)), (5, .inl x7)] [] s11) ?_ ?_
              · intro s11 x12 hf
                refine am_blk hX 51 1 (am_nl (Z := fun x13 => X 87 [(5, .inl x13), (0, .inr (.inr ((9, 0, 0), 0))), (1, .inl a1), (2, .inl a2), (3, .inr (.inl x12))] [] s11) hf (fun x13 hf => ?_))
                refine am_blk hX 52 1 (?_)
                show X 29 [(5, .inl x13), (0, .inr (.inr ((9, 0, 0), 0))), (1, .inl a1), (2, .inl a2), (3, .inr (.inl x12))] [] s11
                exact am_wk hX [1, 2, 3, 4, 0] (ih29 s11 x12 x13 hf)
              · intro J84 hJ84 hf
                refine am_blk hX 23 11 (And.intro rfl (And.intro rfl (Exists.intro s5 (Exists.intro (some (.inr (.inl v10))) (And.intro (tX8_weightOf l (d + 3) hcv10) (And.intro (fun hb => ?_) (fun hb => ?_)))))))
                · have hf := am_it hf hb
                  show X 84 [(6, .inr (.inl v10)), (0, .inr (.inr ((9, 0, 0), 0))), (1, .inl a1), (2, .inl a2), (3, .inr (.inl x6)), (5, .inl x7)] [] s5
                  exact am_wk hX [1, 2, 3, 4, 5] (hJ84 s5 x6 hf)
                · have hf := am_if hf hb
                  show X 57 [(6, .inr (.inl v10)), (0, .inr (.inr ((9, 0, 0), 0))), (1, .inl a1), (2, .inl a2), (3, .inr (.inl x6)), (5, .inl x7)] [] s5
                  obtain ⟨s15, v14, hcv14, hf⟩ := am_c_of hf
                  obtain ⟨g16, hf⟩ := am_g_of hf
                  obtain ⟨v17, hcv17, hf⟩ := am_r_of hf
                  refine am_blk hX 34 17 (And.intro rfl (And.intro rfl (Exists.intro s15 (Exists.intro none (And.intro (tX8_goInRain l (d + 0) hcv14) (And.intro rfl (And.intro rfl (And.intro rfl (And.intro g16 (And.intro rfl (Exists.intro s15 (Exists.intro (some (.inl v17)) (And.intro (tJ6_bitCount_0f7a4 l (d + 4) hcv17) (am_nl (Z := fun x18 => X 84 [(3, .inr (.inl x18)), (6, .inr (.inl v10)), (0, .inr (.inr ((9, 0, 0), 0))), (1, .inl a1), (2, .inl a2), (5, .inl x7)] [] s15) hf (fun x18 hf => ?_)))))))))))))))
                  exact am_wk hX [2, 3, 4, 0, 5] (hJ84 s15 x18 hf)
        refine am_blk hX 10 6 (And.intro rfl (And.intro rfl (Exists.intro s4 (Exists.intro none (And.intro (tX8_tell l (d + 0) hcv3) (?_))))))
        show X 29 [(5, .inl (0 : Int32)), (3, .inr (.inl (0 : Int64))), (0, .inr (.inr ((9, 0, 0), 0))), (1, .inl a1), (2, .inl a2)] [] s4
        exact am_wk hX [2, 3, 4, 1, 0] (hL29 am_fu s4 (0 : Int64) (0 : Int32) hf)
      · have hf := am_it hf hb
        show X 16 [(0, .inr (.inr ((9, 0, 0), 0))), (1, .inl a1), (2, .inl a2)] [] s0
        exact am_wk hX [] (hJ16 hf)
def fX8_missed_L18 (s3 : AS) : Nat → Int32 → Int32 → Option (AS × Int32)
  | 0, _, _ => none
  | n18 + 1, x4, x5 =>
    if (s3.1 25 6) ≤ x5 then (some (s3, x4)) else (am_g (¬ (x5 < 0 ∨ 8 ≤ x5.toNatClampNeg)) (am_let (fun (x7 : Int32) => am_let (x5 + (1 : Int32)) (fun (x8 : Int32) => fX8_missed_L18 s3 n18 x7 x8)) (fun J72 => if (s3.1 167 x5.toNatClampNeg) = (-1 : Int32) then (am_g (¬ (x5 < 0 ∨ 8 ≤ x5.toNatClampNeg)) (am_g (¬ ((0 : Int32) < 0 ∨ 5 ≤ (0 : Int32).toNatClampNeg)) (am_r (fX8_holds (s3.1 163 8) (s3.1 (38 + x5.toNatClampNeg) ((0 : Int32).toNatClampNeg))) (fun (v11 : Int32) => if v11 = 0 then (J72 x4) else (am_let (x4 ||| ((1 : Int32) <<< (x5 &&& 31))) (fun (x12 : Int32) => J72 x12)))))) else (J72 x4))))
def fX8_missed (s0 : AS) : Option (AS × Int32) :=
  am_r (fX8_isMarch s0) (fun (v1 : Int32) => if v1 = 0 then (some (s0, (-2 : Int32))) else (am_c (fX8_tell s0) (fun (s3 : AS) (v2 : Unit) => fX8_missed_L18 s3 am_fu (0 : Int32) (0 : Int32))))
def kX8_missed : List (Nat × Instr × Nat) := [(0, .aload_n 0, 1), (1, .invokevirtual 126, 3), (4, .ifCond .ne 6, 3), (7, .bipush (-2), 2), (9, .ireturn, 1), (10, .aload_n 0, 1), (11, .invokevirtual 165, 3), (14, .iconst 0, 1), (15, .istore_n 1, 1), (16, .iconst 0, 1), (17, .istore_n 2, 1), (18, .iload_n 2, 1), (19, .aload_n 0, 1), (20, .getfield 29, 3), (23, .getfield 123, 3), (26, .if_icmp .ge 52, 3), (29, .aload_n 0, 1), (30, .getfield 61, 3), (33, .getfield 228, 3), (36, .iload_n 2, 1), (37, .iaload, 1), (38, .iconst (-1), 1), (39, .if_icmp .ne 33, 3), (42, .aload_n 0, 1), (43, .getfield 61, 3), (46, .getfield 272, 3), (49, .aload_n 0, 1), (50, .getfield 29, 3), (53, .getfield 140, 3), (56, .iload_n 2, 1), (57, .aaload, 1), (58, .iconst 0, 1), (59, .iaload, 1), (60, .invokestatic 175, 3), (63, .ifCond .eq 9, 3), (66, .iload_n 1, 1), (67, .iconst 1, 1), (68, .iload_n 2, 1), (69, .ishl, 1), (70, .ior, 1), (71, .istore_n 1, 1), (72, .iinc 2 1, 3), (75, .goto (-57), 3), (78, .iload_n 1, 1), (79, .ireturn, 1)]
theorem qX8_missed : ∀ q ∈ kX8_missed, decode mX8_missed.2.2.1 q.1 = .ok (q.2.1, q.2.2) ∧ am_iok mX8_missed.2.2.2.1 q.1 q.2.1 q.2.2 = true := by decide +kernel
set_option maxRecDepth 100000 in
theorem wX8_missed : Cond.code mX8_missed.2.1 mX8_missed.2.2.1 mX8_missed.2.2.2.1 mX8_missed.2.2.2.2.1 ∈ am_T := List.mem_filter.mpr ⟨List.mem_of_getElem? (i := 991) rfl, rfl⟩
set_option maxHeartbeats 4000000 in
set_option maxRecDepth 100000 in
theorem tX8_missed (l : Launch) (d : Nat) {s0 : AS} {sE : AS} {rE : Int32} (hf : fX8_missed s0 = some (sE, rE)) : am_Ct l (d + 6) mX8_missed [.inr (.inr ((9, 0, 0), 0))] s0 sE (some (.inl rE)) := by
  refine am_sim l (d + 5) (code := kX8_missed) (by decide +kernel) wX8_missed qX8_missed (Nat.le_of_ble_eq_true rfl) ?_
  intro X hX
  show X 0 [(0, .inr (.inr ((9, 0, 0), 0)))] [] s0
  unfold fX8_missed at hf
  obtain ⟨v1, hcv1, hf⟩ := am_r_of hf
  refine am_blk hX 0 3 (And.intro rfl (And.intro rfl (Exists.intro s0 (Exists.intro (some (.inl v1)) (And.intro (tX8_isMarch l (d + 4) hcv1) (And.intro (fun hb => ?_) (fun hb => ?_)))))))
  · have hf := am_if hf hb
    show X 10 [(0, .inr (.inr ((9, 0, 0), 0)))] [] s0
    obtain ⟨s3, v2, hcv2, hf⟩ := am_c_of hf
    have hL18 : ∀ (n18 : Nat) (x4 : Int32) (x5 : Int32), fX8_missed_L18 s3 n18 x4 x5 = some (sE, rE) → X 18 [(0, .inr (.inr ((9, 0, 0), 0))), (1, .inl x4), (2, .inl x5)] [] s3 := by
      intro n18
      induction n18 with
      | zero => intro x4 x5 hf; exact am_no (show none = some _ from hf)
      | succ n18 ih18 =>
        intro x4 x5 hf
        refine am_blk hX 11 5 (And.intro rfl (And.intro rfl (And.intro (fun hb => ?_) (fun hb => ?_))))
        · have hf := am_it hf hb
          show X 78 [(0, .inr (.inr ((9, 0, 0), 0))), (1, .inl x4), (2, .inl x5)] [] s3
          refine am_blk hX 43 2 (am_ri hf)
        · have hf := am_if hf hb
          show X 29 [(0, .inr (.inr ((9, 0, 0), 0))), (1, .inl x4), (2, .inl x5)] [] s3
          obtain ⟨g6, hf⟩ := am_g_of hf
          refine am_jn hf (fun J72 => ∀ (x7 : Int32), J72 x7 = some (sE, rE) → X 72 [(0, .inr (.inr ((9, 0, 0), 0))), (1, .inl x7), (2, .inl x5)] [] s3) ?_ ?_
          · intro x7 hf
            refine am_blk hX 41 1 (am_nl (Z := fun x8 => X 75 [(2, .inl x8), (0, .inr (.inr ((9, 0, 0), 0))), (1, .inl x7)] [] s3) hf (fun x8 hf => ?_))
            refine am_blk hX 42 1 (?_)
            show X 18 [(2, .inl x8), (0, .inr (.inr ((9, 0, 0), 0))), (1, .inl x7)] [] s3
            exact am_wk hX [1, 2, 0] (ih18 x7 x8 hf)
          · intro J72 hJ72 hf
            refine am_blk hX 16 7 (And.intro rfl (And.intro rfl (And.intro rfl (And.intro g6 (And.intro (fun hb => ?_) (fun hb => ?_))))))
            · have hf := am_if hf hb
              show X 72 [(0, .inr (.inr ((9, 0, 0), 0))), (1, .inl x4), (2, .inl x5)] [] s3
              exact am_wk hX [0, 1, 2] (hJ72 x4 hf)
            · have hf := am_it hf hb
              show X 42 [(0, .inr (.inr ((9, 0, 0), 0))), (1, .inl x4), (2, .inl x5)] [] s3
              obtain ⟨g9, hf⟩ := am_g_of hf
              obtain ⟨g10, hf⟩ := am_g_of hf
              obtain ⟨v11, hcv11, hf⟩ := am_r_of hf
              refine am_blk hX 23 12 (And.intro rfl (And.intro rfl (And.intro rfl (And.intro rfl (And.intro g9 (And.intro rfl (And.intro g10 (And.intro rfl (Exists.intro s3 (Exists.intro (some (.inl v11)) (And.intro (tX8_holds l (d + 4) hcv11) (And.intro (fun hb => ?_) (fun hb => ?_)))))))))))))
              · have hf := am_it hf hb
                show X 72 [(0, .inr (.inr ((9, 0, 0), 0))), (1, .inl x4), (2, .inl x5)] [] s3
                exact am_wk hX [0, 1, 2] (hJ72 x4 hf)
              · have hf := am_if hf hb
                show X 66 [(0, .inr (.inr ((9, 0, 0), 0))), (1, .inl x4), (2, .inl x5)] [] s3
                refine am_blk hX 35 6 (am_nl (Z := fun x12 => X 72 [(1, .inl x12), (0, .inr (.inr ((9, 0, 0), 0))), (2, .inl x5)] [] s3) hf (fun x12 hf => ?_))
                exact am_wk hX [1, 0, 2] (hJ72 x12 hf)
    refine am_blk hX 5 6 (And.intro rfl (And.intro rfl (Exists.intro s3 (Exists.intro none (And.intro (tX8_tell l (d + 0) hcv2) (?_))))))
    show X 18 [(2, .inl (0 : Int32)), (1, .inl (0 : Int32)), (0, .inr (.inr ((9, 0, 0), 0)))] [] s3
    exact am_wk hX [2, 1, 0] (hL18 am_fu (0 : Int32) (0 : Int32) hf)
  · have hf := am_it hf hb
    show X 7 [(0, .inr (.inr ((9, 0, 0), 0)))] [] s0
    refine am_blk hX 3 2 (am_ri hf)
def fX8_most (s0 : AS) : Option (AS × Int32) :=
  am_r (fX8_isMarch s0) (fun (v1 : Int32) => if v1 = 0 then (some (s0, (-2 : Int32))) else (am_c (fX8_tell s0) (fun (s3 : AS) (v2 : Unit) => am_r (fX8_fullestStep s3) (fun (v4 : Int32) => am_g (¬ (v4 < 0 ∨ 61 ≤ v4.toNatClampNeg)) (am_r (fJ6_bitCount_0f7a4 (s3.1 165 v4.toNatClampNeg)) (fun (v6 : Int32) => some (s3, v6)))))))
def kX8_most : List (Nat × Instr × Nat) := [(0, .aload_n 0, 1), (1, .invokevirtual 126, 3), (4, .ifCond .ne 6, 3), (7, .bipush (-2), 2), (9, .ireturn, 1), (10, .aload_n 0, 1), (11, .invokevirtual 165, 3), (14, .aload_n 0, 1), (15, .getfield 61, 3), (18, .getfield 216, 3), (21, .aload_n 0, 1), (22, .invokevirtual 249, 3), (25, .iaload, 1), (26, .invokestatic 252, 3), (29, .ireturn, 1)]
theorem qX8_most : ∀ q ∈ kX8_most, decode mX8_most.2.2.1 q.1 = .ok (q.2.1, q.2.2) ∧ am_iok mX8_most.2.2.2.1 q.1 q.2.1 q.2.2 = true := by decide +kernel
set_option maxRecDepth 100000 in
theorem wX8_most : Cond.code mX8_most.2.1 mX8_most.2.2.1 mX8_most.2.2.2.1 mX8_most.2.2.2.2.1 ∈ am_T := List.mem_filter.mpr ⟨List.mem_of_getElem? (i := 917) rfl, rfl⟩
set_option maxHeartbeats 4000000 in
set_option maxRecDepth 100000 in
theorem tX8_most (l : Launch) (d : Nat) {s0 : AS} {sE : AS} {rE : Int32} (hf : fX8_most s0 = some (sE, rE)) : am_Ct l (d + 6) mX8_most [.inr (.inr ((9, 0, 0), 0))] s0 sE (some (.inl rE)) := by
  refine am_sim l (d + 5) (code := kX8_most) (by decide +kernel) wX8_most qX8_most (Nat.le_of_ble_eq_true rfl) ?_
  intro X hX
  show X 0 [(0, .inr (.inr ((9, 0, 0), 0)))] [] s0
  unfold fX8_most at hf
  obtain ⟨v1, hcv1, hf⟩ := am_r_of hf
  refine am_blk hX 0 3 (And.intro rfl (And.intro rfl (Exists.intro s0 (Exists.intro (some (.inl v1)) (And.intro (tX8_isMarch l (d + 4) hcv1) (And.intro (fun hb => ?_) (fun hb => ?_)))))))
  · have hf := am_if hf hb
    show X 10 [(0, .inr (.inr ((9, 0, 0), 0)))] [] s0
    obtain ⟨s3, v2, hcv2, hf⟩ := am_c_of hf
    obtain ⟨v4, hcv4, hf⟩ := am_r_of hf
    obtain ⟨g5, hf⟩ := am_g_of hf
    obtain ⟨v6, hcv6, hf⟩ := am_r_of hf
    refine am_blk hX 5 10 (And.intro rfl (And.intro rfl (Exists.intro s3 (Exists.intro none (And.intro (tX8_tell l (d + 0) hcv2) (And.intro rfl (And.intro rfl (And.intro rfl (And.intro rfl (Exists.intro s3 (Exists.intro (some (.inl v4)) (And.intro (tX8_fullestStep l (d + 3) hcv4) (And.intro rfl (And.intro g5 (And.intro rfl (Exists.intro s3 (Exists.intro (some (.inl v6)) (And.intro (tJ6_bitCount_0f7a4 l (d + 4) hcv6) (am_ri hf)))))))))))))))))))
  · have hf := am_it hf hb
    show X 7 [(0, .inr (.inr ((9, 0, 0), 0)))] [] s0
    refine am_blk hX 3 2 (am_ri hf)
def fX8_need (s0 : AS) (a1 : Int32) (a2 : Int32) : Option (AS × Int32) :=
  am_r (fX8_isPerson s0 a1) (fun (v1 : Int32) => am_let (some (s0, (-2 : Int32))) (fun J18 => if v1 = 0 then (J18) else (if a2 < 0 then (J18) else (if a2 ≤ (9 : Int32) then (if (s0.1 47 0) ≤ 0 then (am_g (¬ (a1 < 0 ∨ 8 ≤ a1.toNatClampNeg)) (am_g (¬ ((3 : Int32) < 0 ∨ 5 ≤ (3 : Int32).toNatClampNeg)) (am_let (s0.1 (38 + a1.toNatClampNeg) ((3 : Int32).toNatClampNeg)) (fun (x4 : Int32) => am_g (¬ (a1 < 0 ∨ 8 ≤ a1.toNatClampNeg)) (am_g (¬ ((3 : Int32) < 0 ∨ 5 ≤ (3 : Int32).toNatClampNeg)) (am_let (am_si s0 (38 + a1.toNatClampNeg) ((3 : Int32).toNatClampNeg) a2) (fun (s7 : AS) => am_let (am_si s7 0 8 (0 : Int32)) (fun (s8 : AS) => some (s8, x4))))))))) else (some (s0, (-5 : Int32)))) else (J18)))))
def kX8_need : List (Nat × Instr × Nat) := [(0, .aload_n 0, 1), (1, .iload_n 1, 1), (2, .invokevirtual 137, 3), (5, .ifCond .eq 13, 3), (8, .iload_n 2, 1), (9, .ifCond .lt 9, 3), (12, .iload_n 2, 1), (13, .bipush 9, 2), (15, .if_icmp .le 6, 3), (18, .bipush (-2), 2), (20, .ireturn, 1), (21, .aload_n 0, 1), (22, .getfield 35, 3), (25, .getfield 152, 3), (28, .ifCond .le 6, 3), (31, .bipush (-5), 2), (33, .ireturn, 1), (34, .aload_n 0, 1), (35, .getfield 29, 3), (38, .getfield 140, 3), (41, .iload_n 1, 1), (42, .aaload, 1), (43, .iconst 3, 1), (44, .iaload, 1), (45, .istore_n 3, 1), (46, .aload_n 0, 1), (47, .getfield 29, 3), (50, .getfield 140, 3), (53, .iload_n 1, 1), (54, .aaload, 1), (55, .iconst 3, 1), (56, .iload_n 2, 1), (57, .iastore, 1), (58, .aload_n 0, 1), (59, .iconst 0, 1), (60, .putfield 107, 3), (63, .iload_n 3, 1), (64, .ireturn, 1)]
theorem qX8_need : ∀ q ∈ kX8_need, decode mX8_need.2.2.1 q.1 = .ok (q.2.1, q.2.2) ∧ am_iok mX8_need.2.2.2.1 q.1 q.2.1 q.2.2 = true := by decide +kernel
set_option maxRecDepth 100000 in
theorem wX8_need : Cond.code mX8_need.2.1 mX8_need.2.2.1 mX8_need.2.2.2.1 mX8_need.2.2.2.2.1 ∈ am_T := List.mem_filter.mpr ⟨List.mem_of_getElem? (i := 1248) rfl, rfl⟩
set_option maxHeartbeats 4000000 in
set_option maxRecDepth 100000 in
theorem tX8_need (l : Launch) (d : Nat) {s0 : AS} {a1 : Int32} {a2 : Int32} {sE : AS} {rE : Int32} (hf : fX8_need s0 a1 a2 = some (sE, rE)) : am_Ct l (d + 2) mX8_need [.inr (.inr ((9, 0, 0), 0)), .inl a1, .inl a2] s0 sE (some (.inl rE)) := by
  refine am_sim l (d + 1) (code := kX8_need) (by decide +kernel) wX8_need qX8_need (Nat.le_of_ble_eq_true rfl) ?_
  intro X hX
  show X 0 [(0, .inr (.inr ((9, 0, 0), 0))), (1, .inl a1), (2, .inl a2)] [] s0
  unfold fX8_need at hf
  obtain ⟨v1, hcv1, hf⟩ := am_r_of hf
  refine am_jn hf (fun J18 => J18 = some (sE, rE) → X 18 [] [] s0) ?_ ?_
  · intro hf
    refine am_blk hX 9 2 (am_ri hf)
  · intro J18 hJ18 hf
    refine am_blk hX 0 4 (And.intro rfl (And.intro rfl (Exists.intro s0 (Exists.intro (some (.inl v1)) (And.intro (tX8_isPerson l (d + 0) hcv1) (And.intro (fun hb => ?_) (fun hb => ?_)))))))
    · have hf := am_it hf hb
      show X 18 [(0, .inr (.inr ((9, 0, 0), 0))), (1, .inl a1), (2, .inl a2)] [] s0
      exact am_wk hX [] (hJ18 hf)
    · have hf := am_if hf hb
      show X 8 [(0, .inr (.inr ((9, 0, 0), 0))), (1, .inl a1), (2, .inl a2)] [] s0
      refine am_blk hX 4 2 (And.intro (fun hb => ?_) (fun hb => ?_))
      · have hf := am_it hf hb
        show X 18 [(0, .inr (.inr ((9, 0, 0), 0))), (1, .inl a1), (2, .inl a2)] [] s0
        exact am_wk hX [] (hJ18 hf)
      · have hf := am_if hf hb
        show X 12 [(0, .inr (.inr ((9, 0, 0), 0))), (1, .inl a1), (2, .inl a2)] [] s0
        refine am_blk hX 6 3 (And.intro (fun hb => ?_) (fun hb => ?_))
        · have hf := am_it hf hb
          show X 21 [(0, .inr (.inr ((9, 0, 0), 0))), (1, .inl a1), (2, .inl a2)] [] s0
          refine am_blk hX 11 4 (And.intro rfl (And.intro rfl (And.intro (fun hb => ?_) (fun hb => ?_))))
          · have hf := am_it hf hb
            show X 34 [(0, .inr (.inr ((9, 0, 0), 0))), (1, .inl a1), (2, .inl a2)] [] s0
            obtain ⟨g2, hf⟩ := am_g_of hf
            obtain ⟨g3, hf⟩ := am_g_of hf
            refine am_blk hX 17 8 (And.intro rfl (And.intro rfl (And.intro g2 (And.intro rfl (And.intro g3 (am_nl (Z := fun x4 => X 46 [(3, .inl x4), (0, .inr (.inr ((9, 0, 0), 0))), (1, .inl a1), (2, .inl a2)] [] s0) hf (fun x4 hf => ?_)))))))
            obtain ⟨g5, hf⟩ := am_g_of hf
            obtain ⟨g6, hf⟩ := am_g_of hf
            refine am_blk hX 25 8 (And.intro rfl (And.intro rfl (And.intro g5 (And.intro rfl (And.intro g6 (am_nl (Z := fun s7 => X 58 [(3, .inl x4), (0, .inr (.inr ((9, 0, 0), 0))), (1, .inl a1), (2, .inl a2)] [] s7) hf (fun s7 hf => ?_)))))))
            refine am_blk hX 33 3 (And.intro rfl (And.intro (Or.inl rfl) (am_nl (Z := fun s8 => X 63 [(3, .inl x4), (0, .inr (.inr ((9, 0, 0), 0))), (1, .inl a1), (2, .inl a2)] [] s8) hf (fun s8 hf => ?_))))
            refine am_blk hX 36 2 (am_ri hf)
          · have hf := am_if hf hb
            show X 31 [(0, .inr (.inr ((9, 0, 0), 0))), (1, .inl a1), (2, .inl a2)] [] s0
            refine am_blk hX 15 2 (am_ri hf)
        · have hf := am_if hf hb
          show X 18 [(0, .inr (.inr ((9, 0, 0), 0))), (1, .inl a1), (2, .inl a2)] [] s0
          exact am_wk hX [] (hJ18 hf)
def fX8_needed_L34 (a1 : Int32) : Nat → AS → Int32 → Int32 → Option (AS × Int32)
  | 0, _, _, _ => none
  | n34 + 1, s5, x6, x7 =>
    if (s5.1 25 6) ≤ x7 then (some (s5, x6)) else (am_let (fun (s8 : AS) (x9 : Int32) => am_let (x7 + (1 : Int32)) (fun (x10 : Int32) => fX8_needed_L34 a1 n34 s8 x9 x10)) (fun J65 => if x7 = a1 then (J65 s5 x6) else (am_c (fX8_fallsInWithout s5 a1 x7) (fun (s12 : AS) (v11 : Int32) => if v11 = 0 then (am_let (x6 ||| ((1 : Int32) <<< (x7 &&& 31))) (fun (x13 : Int32) => J65 s12 x13)) else (J65 s12 x6)))))
def fX8_needed (s0 : AS) (a1 : Int32) : Option (AS × Int32) :=
  am_r (fX8_isPerson s0 a1) (fun (v1 : Int32) => if v1 = 0 then (some (s0, (-2 : Int32))) else (am_c (fX8_tell s0) (fun (s3 : AS) (v2 : Unit) => am_g (¬ (a1 < 0 ∨ 8 ≤ a1.toNatClampNeg)) (if (s3.1 167 a1.toNatClampNeg) = (-1 : Int32) then (some (s3, (0 : Int32))) else (fX8_needed_L34 a1 am_fu s3 (0 : Int32) (0 : Int32))))))
def kX8_needed : List (Nat × Instr × Nat) := [(0, .aload_n 0, 1), (1, .iload_n 1, 1), (2, .invokevirtual 137, 3), (5, .ifCond .ne 6, 3), (8, .bipush (-2), 2), (10, .ireturn, 1), (11, .aload_n 0, 1), (12, .invokevirtual 165, 3), (15, .aload_n 0, 1), (16, .getfield 61, 3), (19, .getfield 228, 3), (22, .iload_n 1, 1), (23, .iaload, 1), (24, .iconst (-1), 1), (25, .if_icmp .ne 5, 3), (28, .iconst 0, 1), (29, .ireturn, 1), (30, .iconst 0, 1), (31, .istore_n 2, 1), (32, .iconst 0, 1), (33, .istore_n 3, 1), (34, .iload_n 3, 1), (35, .aload_n 0, 1), (36, .getfield 29, 3), (39, .getfield 123, 3), (42, .if_icmp .ge 29, 3), (45, .iload_n 3, 1), (46, .iload_n 1, 1), (47, .if_icmp .eq 18, 3), (50, .aload_n 0, 1), (51, .iload_n 1, 1), (52, .iload_n 3, 1), (53, .invokevirtual 275, 3), (56, .ifCond .ne 9, 3), (59, .iload_n 2, 1), (60, .iconst 1, 1), (61, .iload_n 3, 1), (62, .ishl, 1), (63, .ior, 1), (64, .istore_n 2, 1), (65, .iinc 3 1, 3), (68, .goto (-34), 3), (71, .iload_n 2, 1), (72, .ireturn, 1)]
theorem qX8_needed : ∀ q ∈ kX8_needed, decode mX8_needed.2.2.1 q.1 = .ok (q.2.1, q.2.2) ∧ am_iok mX8_needed.2.2.2.1 q.1 q.2.1 q.2.2 = true := by decide +kernel
set_option maxRecDepth 100000 in
theorem wX8_needed : Cond.code mX8_needed.2.1 mX8_needed.2.2.1 mX8_needed.2.2.2.1 mX8_needed.2.2.2.2.1 ∈ am_T := List.mem_filter.mpr ⟨List.mem_of_getElem? (i := 995) rfl, rfl⟩
set_option maxHeartbeats 4000000 in
set_option maxRecDepth 100000 in
theorem tX8_needed (l : Launch) (d : Nat) {s0 : AS} {a1 : Int32} {sE : AS} {rE : Int32} (hf : fX8_needed s0 a1 = some (sE, rE)) : am_Ct l (d + 6) mX8_needed [.inr (.inr ((9, 0, 0), 0)), .inl a1] s0 sE (some (.inl rE)) := by
  refine am_sim l (d + 5) (code := kX8_needed) (by decide +kernel) wX8_needed qX8_needed (Nat.le_of_ble_eq_true rfl) ?_
  intro X hX
  show X 0 [(0, .inr (.inr ((9, 0, 0), 0))), (1, .inl a1)] [] s0
  unfold fX8_needed at hf
  obtain ⟨v1, hcv1, hf⟩ := am_r_of hf
  refine am_blk hX 0 4 (And.intro rfl (And.intro rfl (Exists.intro s0 (Exists.intro (some (.inl v1)) (And.intro (tX8_isPerson l (d + 4) hcv1) (And.intro (fun hb => ?_) (fun hb => ?_)))))))
  · have hf := am_if hf hb
    show X 11 [(0, .inr (.inr ((9, 0, 0), 0))), (1, .inl a1)] [] s0
    obtain ⟨s3, v2, hcv2, hf⟩ := am_c_of hf
    obtain ⟨g4, hf⟩ := am_g_of hf
    refine am_blk hX 6 9 (And.intro rfl (And.intro rfl (Exists.intro s3 (Exists.intro none (And.intro (tX8_tell l (d + 0) hcv2) (And.intro rfl (And.intro rfl (And.intro rfl (And.intro g4 (And.intro (fun hb => ?_) (fun hb => ?_)))))))))))
    · have hf := am_if hf hb
      show X 30 [(0, .inr (.inr ((9, 0, 0), 0))), (1, .inl a1)] [] s3
      have hL34 : ∀ (n34 : Nat) (s5 : AS) (x6 : Int32) (x7 : Int32), fX8_needed_L34 a1 n34 s5 x6 x7 = some (sE, rE) → X 34 [(0, .inr (.inr ((9, 0, 0), 0))), (1, .inl a1), (2, .inl x6), (3, .inl x7)] [] s5 := by
        intro n34
        induction n34 with
        | zero => intro s5 x6 x7 hf; exact am_no (show none = some _ from hf)
        | succ n34 ih34 =>
          intro s5 x6 x7 hf
          refine am_blk hX 21 5 (And.intro rfl (And.intro rfl (And.intro (fun hb => ?_) (fun hb => ?_))))
          · have hf := am_it hf hb
            show X 71 [(0, .inr (.inr ((9, 0, 0), 0))), (1, .inl a1), (2, .inl x6), (3, .inl x7)] [] s5
            refine am_blk hX 42 2 (am_ri hf)
          · have hf := am_if hf hb
            show X 45 [(0, .inr (.inr ((9, 0, 0), 0))), (1, .inl a1), (2, .inl x6), (3, .inl x7)] [] s5
            refine am_jn hf (fun J65 => ∀ (s8 : AS) (x9 : Int32), J65 s8 x9 = some (sE, rE) → X 65 [(0, .inr (.inr ((9, 0, 0), 0))), (1, .inl a1), (2, .inl x9), (3, .inl x7)] [] s8) ?_ ?_
            · intro s8 x9 hf
              refine am_blk hX 40 1 (am_nl (Z := fun x10 => X 68 [(3, .inl x10), (0, .inr (.inr ((9, 0, 0), 0))), (1, .inl a1), (2, .inl x9)] [] s8) hf (fun x10 hf => ?_))
              refine am_blk hX 41 1 (?_)
              show X 34 [(3, .inl x10), (0, .inr (.inr ((9, 0, 0), 0))), (1, .inl a1), (2, .inl x9)] [] s8
              exact am_wk hX [1, 2, 3, 0] (ih34 s8 x9 x10 hf)
            · intro J65 hJ65 hf
              refine am_blk hX 26 3 (And.intro (fun hb => ?_) (fun hb => ?_))
              · have hf := am_it hf hb
                show X 65 [(0, .inr (.inr ((9, 0, 0), 0))), (1, .inl a1), (2, .inl x6), (3, .inl x7)] [] s5
                exact am_wk hX [0, 1, 2, 3] (hJ65 s5 x6 hf)
              · have hf := am_if hf hb
                show X 50 [(0, .inr (.inr ((9, 0, 0), 0))), (1, .inl a1), (2, .inl x6), (3, .inl x7)] [] s5
                obtain ⟨s12, v11, hcv11, hf⟩ := am_c_of hf
                refine am_blk hX 29 5 (And.intro rfl (And.intro rfl (Exists.intro s12 (Exists.intro (some (.inl v11)) (And.intro (tX8_fallsInWithout l (d + 0) hcv11) (And.intro (fun hb => ?_) (fun hb => ?_)))))))
                · have hf := am_if hf hb
                  show X 65 [(0, .inr (.inr ((9, 0, 0), 0))), (1, .inl a1), (2, .inl x6), (3, .inl x7)] [] s12
                  exact am_wk hX [0, 1, 2, 3] (hJ65 s12 x6 hf)
                · have hf := am_it hf hb
                  show X 59 [(0, .inr (.inr ((9, 0, 0), 0))), (1, .inl a1), (2, .inl x6), (3, .inl x7)] [] s12
                  refine am_blk hX 34 6 (am_nl (Z := fun x13 => X 65 [(2, .inl x13), (0, .inr (.inr ((9, 0, 0), 0))), (1, .inl a1), (3, .inl x7)] [] s12) hf (fun x13 hf => ?_))
                  exact am_wk hX [1, 2, 0, 3] (hJ65 s12 x13 hf)
      refine am_blk hX 17 4 (?_)
      show X 34 [(3, .inl (0 : Int32)), (2, .inl (0 : Int32)), (0, .inr (.inr ((9, 0, 0), 0))), (1, .inl a1)] [] s3
      exact am_wk hX [2, 3, 1, 0] (hL34 am_fu s3 (0 : Int32) (0 : Int32) hf)
    · have hf := am_it hf hb
      show X 28 [(0, .inr (.inr ((9, 0, 0), 0))), (1, .inl a1)] [] s3
      refine am_blk hX 15 2 (am_ri hf)
  · have hf := am_it hf hb
    show X 8 [(0, .inr (.inr ((9, 0, 0), 0))), (1, .inl a1)] [] s0
    refine am_blk hX 4 2 (am_ri hf)
def fX8_next (s0 : AS) (a1 : Int32) (a2 : Int32) : Option (AS × Int32) :=
  am_r (fX8_isPlace s0 a1) (fun (v1 : Int32) => am_let (some (s0, (-2 : Int32))) (fun J16 => if v1 = 0 then (J16) else (am_r (fX8_isPlace s0 a2) (fun (v2 : Int32) => if v2 = 0 then (J16) else (am_c (fX8_tell s0) (fun (s4 : AS) (v3 : Unit) => am_r (fX7_nextOf s4 138 a1 a2) (fun (v5 : Int32) => some (s4, v5))))))))
def kX8_next : List (Nat × Instr × Nat) := [(0, .aload_n 0, 1), (1, .iload_n 1, 1), (2, .invokevirtual 162, 3), (5, .ifCond .eq 11, 3), (8, .aload_n 0, 1), (9, .iload_n 2, 1), (10, .invokevirtual 162, 3), (13, .ifCond .ne 6, 3), (16, .bipush (-2), 2), (18, .ireturn, 1), (19, .aload_n 0, 1), (20, .invokevirtual 165, 3), (23, .aload_n 0, 1), (24, .getfield 54, 3), (27, .iload_n 1, 1), (28, .iload_n 2, 1), (29, .invokevirtual 172, 3), (32, .ireturn, 1)]
theorem qX8_next : ∀ q ∈ kX8_next, decode mX8_next.2.2.1 q.1 = .ok (q.2.1, q.2.2) ∧ am_iok mX8_next.2.2.2.1 q.1 q.2.1 q.2.2 = true := by decide +kernel
set_option maxRecDepth 100000 in
theorem wX8_next : Cond.code mX8_next.2.1 mX8_next.2.2.1 mX8_next.2.2.2.1 mX8_next.2.2.2.2.1 ∈ am_T := List.mem_filter.mpr ⟨List.mem_of_getElem? (i := 819) rfl, rfl⟩
set_option maxHeartbeats 4000000 in
set_option maxRecDepth 100000 in
theorem tX8_next (l : Launch) (d : Nat) {s0 : AS} {a1 : Int32} {a2 : Int32} {sE : AS} {rE : Int32} (hf : fX8_next s0 a1 a2 = some (sE, rE)) : am_Ct l (d + 6) mX8_next [.inr (.inr ((9, 0, 0), 0)), .inl a1, .inl a2] s0 sE (some (.inl rE)) := by
  refine am_sim l (d + 5) (code := kX8_next) (by decide +kernel) wX8_next qX8_next (Nat.le_of_ble_eq_true rfl) ?_
  intro X hX
  show X 0 [(0, .inr (.inr ((9, 0, 0), 0))), (1, .inl a1), (2, .inl a2)] [] s0
  unfold fX8_next at hf
  obtain ⟨v1, hcv1, hf⟩ := am_r_of hf
  refine am_jn hf (fun J16 => J16 = some (sE, rE) → X 16 [] [] s0) ?_ ?_
  · intro hf
    refine am_blk hX 8 2 (am_ri hf)
  · intro J16 hJ16 hf
    refine am_blk hX 0 4 (And.intro rfl (And.intro rfl (Exists.intro s0 (Exists.intro (some (.inl v1)) (And.intro (tX8_isPlace l (d + 4) hcv1) (And.intro (fun hb => ?_) (fun hb => ?_)))))))
    · have hf := am_it hf hb
      show X 16 [(0, .inr (.inr ((9, 0, 0), 0))), (1, .inl a1), (2, .inl a2)] [] s0
      exact am_wk hX [] (hJ16 hf)
    · have hf := am_if hf hb
      show X 8 [(0, .inr (.inr ((9, 0, 0), 0))), (1, .inl a1), (2, .inl a2)] [] s0
      obtain ⟨v2, hcv2, hf⟩ := am_r_of hf
      refine am_blk hX 4 4 (And.intro rfl (And.intro rfl (Exists.intro s0 (Exists.intro (some (.inl v2)) (And.intro (tX8_isPlace l (d + 4) hcv2) (And.intro (fun hb => ?_) (fun hb => ?_)))))))
      · have hf := am_if hf hb
        show X 19 [(0, .inr (.inr ((9, 0, 0), 0))), (1, .inl a1), (2, .inl a2)] [] s0
        obtain ⟨s4, v3, hcv3, hf⟩ := am_c_of hf
        obtain ⟨v5, hcv5, hf⟩ := am_r_of hf
        refine am_blk hX 10 8 (And.intro rfl (And.intro rfl (Exists.intro s4 (Exists.intro none (And.intro (tX8_tell l (d + 0) hcv3) (And.intro rfl (And.intro rfl (And.intro rfl (Exists.intro s4 (Exists.intro (some (.inl v5)) (And.intro (tX7_nextOf l (d + 3) hcv5) (am_ri hf))))))))))))
      · have hf := am_it hf hb
        show X 16 [(0, .inr (.inr ((9, 0, 0), 0))), (1, .inl a1), (2, .inl a2)] [] s0
        exact am_wk hX [] (hJ16 hf)
def fX8_often_L19 (a1 : Int32) (s3 : AS) : Nat → Int32 → Int32 → Option (AS × Int32)
  | 0, _, _ => none
  | n19 + 1, x4, x5 =>
    if (61 : Int32) ≤ x5 then (some (s3, x4)) else (am_g (¬ (x5 < 0 ∨ 61 ≤ x5.toNatClampNeg)) (am_let (fun (x7 : Int32) => am_let (x5 + (1 : Int32)) (fun (x8 : Int32) => fX8_often_L19 a1 s3 n19 x7 x8)) (fun J41 => if (s3.1 164 x5.toNatClampNeg) = a1 then (am_let (x4 + (1 : Int32)) (fun (x9 : Int32) => J41 x9)) else (J41 x4))))
def fX8_often (s0 : AS) (a1 : Int32) : Option (AS × Int32) :=
  am_r (fX8_isPlace s0 a1) (fun (v1 : Int32) => if v1 = 0 then (some (s0, (-2 : Int32))) else (am_c (fX8_tell s0) (fun (s3 : AS) (v2 : Unit) => fX8_often_L19 a1 s3 am_fu (0 : Int32) (0 : Int32))))
def kX8_often : List (Nat × Instr × Nat) := [(0, .aload_n 0, 1), (1, .iload_n 1, 1), (2, .invokevirtual 162, 3), (5, .ifCond .ne 6, 3), (8, .bipush (-2), 2), (10, .ireturn, 1), (11, .aload_n 0, 1), (12, .invokevirtual 165, 3), (15, .iconst 0, 1), (16, .istore_n 2, 1), (17, .iconst 0, 1), (18, .istore_n 3, 1), (19, .iload_n 3, 1), (20, .bipush 61, 2), (22, .if_icmp .ge 25, 3), (25, .aload_n 0, 1), (26, .getfield 61, 3), (29, .getfield 212, 3), (32, .iload_n 3, 1), (33, .iaload, 1), (34, .iload_n 1, 1), (35, .if_icmp .ne 6, 3), (38, .iinc 2 1, 3), (41, .iinc 3 1, 3), (44, .goto (-25), 3), (47, .iload_n 2, 1), (48, .ireturn, 1)]
theorem qX8_often : ∀ q ∈ kX8_often, decode mX8_often.2.2.1 q.1 = .ok (q.2.1, q.2.2) ∧ am_iok mX8_often.2.2.2.1 q.1 q.2.1 q.2.2 = true := by decide +kernel
set_option maxRecDepth 100000 in
theorem wX8_often : Cond.code mX8_often.2.1 mX8_often.2.2.1 mX8_often.2.2.2.1 mX8_often.2.2.2.2.1 ∈ am_T := List.mem_filter.mpr ⟨List.mem_of_getElem? (i := 897) rfl, rfl⟩
set_option maxHeartbeats 4000000 in
set_option maxRecDepth 100000 in
theorem tX8_often (l : Launch) (d : Nat) {s0 : AS} {a1 : Int32} {sE : AS} {rE : Int32} (hf : fX8_often s0 a1 = some (sE, rE)) : am_Ct l (d + 6) mX8_often [.inr (.inr ((9, 0, 0), 0)), .inl a1] s0 sE (some (.inl rE)) := by
  refine am_sim l (d + 5) (code := kX8_often) (by decide +kernel) wX8_often qX8_often (Nat.le_of_ble_eq_true rfl) ?_
  intro X hX
  show X 0 [(0, .inr (.inr ((9, 0, 0), 0))), (1, .inl a1)] [] s0
  unfold fX8_often at hf
  obtain ⟨v1, hcv1, hf⟩ := am_r_of hf
  refine am_blk hX 0 4 (And.intro rfl (And.intro rfl (Exists.intro s0 (Exists.intro (some (.inl v1)) (And.intro (tX8_isPlace l (d + 4) hcv1) (And.intro (fun hb => ?_) (fun hb => ?_)))))))
  · have hf := am_if hf hb
    show X 11 [(0, .inr (.inr ((9, 0, 0), 0))), (1, .inl a1)] [] s0
    obtain ⟨s3, v2, hcv2, hf⟩ := am_c_of hf
    have hL19 : ∀ (n19 : Nat) (x4 : Int32) (x5 : Int32), fX8_often_L19 a1 s3 n19 x4 x5 = some (sE, rE) → X 19 [(0, .inr (.inr ((9, 0, 0), 0))), (1, .inl a1), (2, .inl x4), (3, .inl x5)] [] s3 := by
      intro n19
      induction n19 with
      | zero => intro x4 x5 hf; exact am_no (show none = some _ from hf)
      | succ n19 ih19 =>
        intro x4 x5 hf
        refine am_blk hX 12 3 (And.intro (fun hb => ?_) (fun hb => ?_))
        · have hf := am_it hf hb
          show X 47 [(0, .inr (.inr ((9, 0, 0), 0))), (1, .inl a1), (2, .inl x4), (3, .inl x5)] [] s3
          refine am_blk hX 25 2 (am_ri hf)
        · have hf := am_if hf hb
          show X 25 [(0, .inr (.inr ((9, 0, 0), 0))), (1, .inl a1), (2, .inl x4), (3, .inl x5)] [] s3
          obtain ⟨g6, hf⟩ := am_g_of hf
          refine am_jn hf (fun J41 => ∀ (x7 : Int32), J41 x7 = some (sE, rE) → X 41 [(0, .inr (.inr ((9, 0, 0), 0))), (1, .inl a1), (2, .inl x7), (3, .inl x5)] [] s3) ?_ ?_
          · intro x7 hf
            refine am_blk hX 23 1 (am_nl (Z := fun x8 => X 44 [(3, .inl x8), (0, .inr (.inr ((9, 0, 0), 0))), (1, .inl a1), (2, .inl x7)] [] s3) hf (fun x8 hf => ?_))
            refine am_blk hX 24 1 (?_)
            show X 19 [(3, .inl x8), (0, .inr (.inr ((9, 0, 0), 0))), (1, .inl a1), (2, .inl x7)] [] s3
            exact am_wk hX [1, 2, 3, 0] (ih19 x7 x8 hf)
          · intro J41 hJ41 hf
            refine am_blk hX 15 7 (And.intro rfl (And.intro rfl (And.intro rfl (And.intro g6 (And.intro (fun hb => ?_) (fun hb => ?_))))))
            · have hf := am_if hf hb
              show X 41 [(0, .inr (.inr ((9, 0, 0), 0))), (1, .inl a1), (2, .inl x4), (3, .inl x5)] [] s3
              exact am_wk hX [0, 1, 2, 3] (hJ41 x4 hf)
            · have hf := am_it hf hb
              show X 38 [(0, .inr (.inr ((9, 0, 0), 0))), (1, .inl a1), (2, .inl x4), (3, .inl x5)] [] s3
              refine am_blk hX 22 1 (am_nl (Z := fun x9 => X 41 [(2, .inl x9), (0, .inr (.inr ((9, 0, 0), 0))), (1, .inl a1), (3, .inl x5)] [] s3) hf (fun x9 hf => ?_))
              exact am_wk hX [1, 2, 0, 3] (hJ41 x9 hf)
    refine am_blk hX 6 6 (And.intro rfl (And.intro rfl (Exists.intro s3 (Exists.intro none (And.intro (tX8_tell l (d + 0) hcv2) (?_))))))
    show X 19 [(3, .inl (0 : Int32)), (2, .inl (0 : Int32)), (0, .inr (.inr ((9, 0, 0), 0))), (1, .inl a1)] [] s3
    exact am_wk hX [2, 3, 1, 0] (hL19 am_fu (0 : Int32) (0 : Int32) hf)
  · have hf := am_it hf hb
    show X 8 [(0, .inr (.inr ((9, 0, 0), 0))), (1, .inl a1)] [] s0
    refine am_blk hX 4 2 (am_ri hf)
def fX8_over (s0 : AS) : Option (AS × Int32) :=
  am_r (fX8_isMarch s0) (fun (v1 : Int32) => if v1 = 0 then (some (s0, (-2 : Int32))) else (am_c (fX8_tell s0) (fun (s3 : AS) (v2 : Unit) => some (s3, s3.1 163 6))))
def kX8_over : List (Nat × Instr × Nat) := [(0, .aload_n 0, 1), (1, .invokevirtual 126, 3), (4, .ifCond .ne 6, 3), (7, .bipush (-2), 2), (9, .ireturn, 1), (10, .aload_n 0, 1), (11, .invokevirtual 165, 3), (14, .aload_n 0, 1), (15, .getfield 61, 3), (18, .getfield 234, 3), (21, .ireturn, 1)]
theorem qX8_over : ∀ q ∈ kX8_over, decode mX8_over.2.2.1 q.1 = .ok (q.2.1, q.2.2) ∧ am_iok mX8_over.2.2.2.1 q.1 q.2.1 q.2.2 = true := by decide +kernel
set_option maxRecDepth 100000 in
theorem wX8_over : Cond.code mX8_over.2.1 mX8_over.2.2.1 mX8_over.2.2.2.1 mX8_over.2.2.2.2.1 ∈ am_T := List.mem_filter.mpr ⟨List.mem_of_getElem? (i := 878) rfl, rfl⟩
set_option maxHeartbeats 4000000 in
set_option maxRecDepth 100000 in
theorem tX8_over (l : Launch) (d : Nat) {s0 : AS} {sE : AS} {rE : Int32} (hf : fX8_over s0 = some (sE, rE)) : am_Ct l (d + 6) mX8_over [.inr (.inr ((9, 0, 0), 0))] s0 sE (some (.inl rE)) := by
  refine am_sim l (d + 5) (code := kX8_over) (by decide +kernel) wX8_over qX8_over (Nat.le_of_ble_eq_true rfl) ?_
  intro X hX
  show X 0 [(0, .inr (.inr ((9, 0, 0), 0)))] [] s0
  unfold fX8_over at hf
  obtain ⟨v1, hcv1, hf⟩ := am_r_of hf
  refine am_blk hX 0 3 (And.intro rfl (And.intro rfl (Exists.intro s0 (Exists.intro (some (.inl v1)) (And.intro (tX8_isMarch l (d + 4) hcv1) (And.intro (fun hb => ?_) (fun hb => ?_)))))))
  · have hf := am_if hf hb
    show X 10 [(0, .inr (.inr ((9, 0, 0), 0)))] [] s0
    obtain ⟨s3, v2, hcv2, hf⟩ := am_c_of hf
    refine am_blk hX 5 6 (And.intro rfl (And.intro rfl (Exists.intro s3 (Exists.intro none (And.intro (tX8_tell l (d + 0) hcv2) (And.intro rfl (And.intro rfl (am_ri hf))))))))
  · have hf := am_it hf hb
    show X 7 [(0, .inr (.inr ((9, 0, 0), 0)))] [] s0
    refine am_blk hX 3 2 (am_ri hf)
def fX8_paces (s0 : AS) (a1 : Int32) : Option (AS × Int32) :=
  am_r (fX8_isStep s0 a1) (fun (v1 : Int32) => if v1 = 0 then (some (s0, (-2 : Int32))) else (am_c (fX8_tell s0) (fun (s3 : AS) (v2 : Unit) => am_r (fX8_goneBetween s3 (0 : Int32) a1) (fun (v4 : Int32) => some (s3, v4)))))
def kX8_paces : List (Nat × Instr × Nat) := [(0, .aload_n 0, 1), (1, .iload_n 1, 1), (2, .invokevirtual 209, 3), (5, .ifCond .ne 6, 3), (8, .bipush (-2), 2), (10, .ireturn, 1), (11, .aload_n 0, 1), (12, .invokevirtual 165, 3), (15, .aload_n 0, 1), (16, .iconst 0, 1), (17, .iload_n 1, 1), (18, .invokevirtual 243, 3), (21, .ireturn, 1)]
theorem qX8_paces : ∀ q ∈ kX8_paces, decode mX8_paces.2.2.1 q.1 = .ok (q.2.1, q.2.2) ∧ am_iok mX8_paces.2.2.2.1 q.1 q.2.1 q.2.2 = true := by decide +kernel
set_option maxRecDepth 100000 in
theorem wX8_paces : Cond.code mX8_paces.2.1 mX8_paces.2.2.1 mX8_paces.2.2.2.1 mX8_paces.2.2.2.2.1 ∈ am_T := List.mem_filter.mpr ⟨List.mem_of_getElem? (i := 901) rfl, rfl⟩
set_option maxHeartbeats 4000000 in
set_option maxRecDepth 100000 in
theorem tX8_paces (l : Launch) (d : Nat) {s0 : AS} {a1 : Int32} {sE : AS} {rE : Int32} (hf : fX8_paces s0 a1 = some (sE, rE)) : am_Ct l (d + 6) mX8_paces [.inr (.inr ((9, 0, 0), 0)), .inl a1] s0 sE (some (.inl rE)) := by
  refine am_sim l (d + 5) (code := kX8_paces) (by decide +kernel) wX8_paces qX8_paces (Nat.le_of_ble_eq_true rfl) ?_
  intro X hX
  show X 0 [(0, .inr (.inr ((9, 0, 0), 0))), (1, .inl a1)] [] s0
  unfold fX8_paces at hf
  obtain ⟨v1, hcv1, hf⟩ := am_r_of hf
  refine am_blk hX 0 4 (And.intro rfl (And.intro rfl (Exists.intro s0 (Exists.intro (some (.inl v1)) (And.intro (tX8_isStep l (d + 3) hcv1) (And.intro (fun hb => ?_) (fun hb => ?_)))))))
  · have hf := am_if hf hb
    show X 11 [(0, .inr (.inr ((9, 0, 0), 0))), (1, .inl a1)] [] s0
    obtain ⟨s3, v2, hcv2, hf⟩ := am_c_of hf
    obtain ⟨v4, hcv4, hf⟩ := am_r_of hf
    refine am_blk hX 6 7 (And.intro rfl (And.intro rfl (Exists.intro s3 (Exists.intro none (And.intro (tX8_tell l (d + 0) hcv2) (And.intro rfl (And.intro rfl (Exists.intro s3 (Exists.intro (some (.inl v4)) (And.intro (tX8_goneBetween l (d + 1) hcv4) (am_ri hf)))))))))))
  · have hf := am_it hf hb
    show X 8 [(0, .inr (.inr ((9, 0, 0), 0))), (1, .inl a1)] [] s0
    refine am_blk hX 4 2 (am_ri hf)
def fX8_parties_L19 (a1 : Int32) (s3 : AS) : Nat → Int32 → Int32 → Option (AS × Int32)
  | 0, _, _ => none
  | n19 + 1, x4, x5 =>
    if (s3.1 25 6) ≤ x5 then (am_r (fJ6_bitCount_0f7a4 x4) (fun (v6 : Int32) => some (s3, v6))) else (am_r (fX8_isIn s3 x5 a1) (fun (v7 : Int32) => am_let (fun (x8 : Int32) => am_let (x5 + (1 : Int32)) (fun (x9 : Int32) => fX8_parties_L19 a1 s3 n19 x8 x9)) (fun J55 => if v7 = 0 then (J55 x4) else (am_g (¬ (x5 < 0 ∨ 8 ≤ x5.toNatClampNeg)) (am_g (¬ ((1 : Int32) < 0 ∨ 5 ≤ (1 : Int32).toNatClampNeg)) (am_let (x4 ||| ((1 : Int32) <<< ((s3.1 (38 + x5.toNatClampNeg) ((1 : Int32).toNatClampNeg)) &&& 31))) (fun (x12 : Int32) => J55 x12)))))))
def fX8_parties (s0 : AS) (a1 : Int32) : Option (AS × Int32) :=
  am_r (fX8_isStep s0 a1) (fun (v1 : Int32) => if v1 = 0 then (some (s0, (-2 : Int32))) else (am_c (fX8_tell s0) (fun (s3 : AS) (v2 : Unit) => fX8_parties_L19 a1 s3 am_fu (0 : Int32) (0 : Int32))))
def kX8_parties : List (Nat × Instr × Nat) := [(0, .aload_n 0, 1), (1, .iload_n 1, 1), (2, .invokevirtual 209, 3), (5, .ifCond .ne 6, 3), (8, .bipush (-2), 2), (10, .ireturn, 1), (11, .aload_n 0, 1), (12, .invokevirtual 165, 3), (15, .iconst 0, 1), (16, .istore_n 2, 1), (17, .iconst 0, 1), (18, .istore_n 3, 1), (19, .iload_n 3, 1), (20, .aload_n 0, 1), (21, .getfield 29, 3), (24, .getfield 123, 3), (27, .if_icmp .ge 34, 3), (30, .aload_n 0, 1), (31, .iload_n 3, 1), (32, .iload_n 1, 1), (33, .invokevirtual 219, 3), (36, .ifCond .eq 19, 3), (39, .iload_n 2, 1), (40, .iconst 1, 1), (41, .aload_n 0, 1), (42, .getfield 29, 3), (45, .getfield 140, 3), (48, .iload_n 3, 1), (49, .aaload, 1), (50, .iconst 1, 1), (51, .iaload, 1), (52, .ishl, 1), (53, .ior, 1), (54, .istore_n 2, 1), (55, .iinc 3 1, 3), (58, .goto (-39), 3), (61, .iload_n 2, 1), (62, .invokestatic 252, 3), (65, .ireturn, 1)]
theorem qX8_parties : ∀ q ∈ kX8_parties, decode mX8_parties.2.2.1 q.1 = .ok (q.2.1, q.2.2) ∧ am_iok mX8_parties.2.2.2.1 q.1 q.2.1 q.2.2 = true := by decide +kernel
set_option maxRecDepth 100000 in
theorem wX8_parties : Cond.code mX8_parties.2.1 mX8_parties.2.2.1 mX8_parties.2.2.2.1 mX8_parties.2.2.2.2.1 ∈ am_T := List.mem_filter.mpr ⟨List.mem_of_getElem? (i := 958) rfl, rfl⟩
set_option maxHeartbeats 4000000 in
set_option maxRecDepth 100000 in
theorem tX8_parties (l : Launch) (d : Nat) {s0 : AS} {a1 : Int32} {sE : AS} {rE : Int32} (hf : fX8_parties s0 a1 = some (sE, rE)) : am_Ct l (d + 6) mX8_parties [.inr (.inr ((9, 0, 0), 0)), .inl a1] s0 sE (some (.inl rE)) := by
  refine am_sim l (d + 5) (code := kX8_parties) (by decide +kernel) wX8_parties qX8_parties (Nat.le_of_ble_eq_true rfl) ?_
  intro X hX
  show X 0 [(0, .inr (.inr ((9, 0, 0), 0))), (1, .inl a1)] [] s0
  unfold fX8_parties at hf
  obtain ⟨v1, hcv1, hf⟩ := am_r_of hf
  refine am_blk hX 0 4 (And.intro rfl (And.intro rfl (Exists.intro s0 (Exists.intro (some (.inl v1)) (And.intro (tX8_isStep l (d + 3) hcv1) (And.intro (fun hb => ?_) (fun hb => ?_)))))))
  · have hf := am_if hf hb
    show X 11 [(0, .inr (.inr ((9, 0, 0), 0))), (1, .inl a1)] [] s0
    obtain ⟨s3, v2, hcv2, hf⟩ := am_c_of hf
    have hL19 : ∀ (n19 : Nat) (x4 : Int32) (x5 : Int32), fX8_parties_L19 a1 s3 n19 x4 x5 = some (sE, rE) → X 19 [(0, .inr (.inr ((9, 0, 0), 0))), (1, .inl a1), (2, .inl x4), (3, .inl x5)] [] s3 := by
      intro n19
      induction n19 with
      | zero => intro x4 x5 hf; exact am_no (show none = some _ from hf)
      | succ n19 ih19 =>
        intro x4 x5 hf
        refine am_blk hX 12 5 (And.intro rfl (And.intro rfl (And.intro (fun hb => ?_) (fun hb => ?_))))
        · have hf := am_it hf hb
          show X 61 [(0, .inr (.inr ((9, 0, 0), 0))), (1, .inl a1), (2, .inl x4), (3, .inl x5)] [] s3
          obtain ⟨v6, hcv6, hf⟩ := am_r_of hf
          refine am_blk hX 36 3 (And.intro rfl (Exists.intro s3 (Exists.intro (some (.inl v6)) (And.intro (tJ6_bitCount_0f7a4 l (d + 4) hcv6) (am_ri hf)))))
        · have hf := am_if hf hb
          show X 30 [(0, .inr (.inr ((9, 0, 0), 0))), (1, .inl a1), (2, .inl x4), (3, .inl x5)] [] s3
          obtain ⟨v7, hcv7, hf⟩ := am_r_of hf
          refine am_jn hf (fun J55 => ∀ (x8 : Int32), J55 x8 = some (sE, rE) → X 55 [(0, .inr (.inr ((9, 0, 0), 0))), (1, .inl a1), (2, .inl x8), (3, .inl x5)] [] s3) ?_ ?_
          · intro x8 hf
            refine am_blk hX 34 1 (am_nl (Z := fun x9 => X 58 [(3, .inl x9), (0, .inr (.inr ((9, 0, 0), 0))), (1, .inl a1), (2, .inl x8)] [] s3) hf (fun x9 hf => ?_))
            refine am_blk hX 35 1 (?_)
            show X 19 [(3, .inl x9), (0, .inr (.inr ((9, 0, 0), 0))), (1, .inl a1), (2, .inl x8)] [] s3
            exact am_wk hX [1, 2, 3, 0] (ih19 x8 x9 hf)
          · intro J55 hJ55 hf
            refine am_blk hX 17 5 (And.intro rfl (And.intro rfl (Exists.intro s3 (Exists.intro (some (.inl v7)) (And.intro (tX8_isIn l (d + 3) hcv7) (And.intro (fun hb => ?_) (fun hb => ?_)))))))
            · have hf := am_it hf hb
              show X 55 [(0, .inr (.inr ((9, 0, 0), 0))), (1, .inl a1), (2, .inl x4), (3, .inl x5)] [] s3
              exact am_wk hX [0, 1, 2, 3] (hJ55 x4 hf)
            · have hf := am_if hf hb
              show X 39 [(0, .inr (.inr ((9, 0, 0), 0))), (1, .inl a1), (2, .inl x4), (3, .inl x5)] [] s3
              obtain ⟨g10, hf⟩ := am_g_of hf
              obtain ⟨g11, hf⟩ := am_g_of hf
              refine am_blk hX 22 12 (And.intro rfl (And.intro rfl (And.intro g10 (And.intro rfl (And.intro g11 (am_nl (Z := fun x12 => X 55 [(2, .inl x12), (0, .inr (.inr ((9, 0, 0), 0))), (1, .inl a1), (3, .inl x5)] [] s3) hf (fun x12 hf => ?_)))))))
              exact am_wk hX [1, 2, 0, 3] (hJ55 x12 hf)
    refine am_blk hX 6 6 (And.intro rfl (And.intro rfl (Exists.intro s3 (Exists.intro none (And.intro (tX8_tell l (d + 0) hcv2) (?_))))))
    show X 19 [(3, .inl (0 : Int32)), (2, .inl (0 : Int32)), (0, .inr (.inr ((9, 0, 0), 0))), (1, .inl a1)] [] s3
    exact am_wk hX [2, 3, 1, 0] (hL19 am_fu (0 : Int32) (0 : Int32) hf)
  · have hf := am_it hf hb
    show X 8 [(0, .inr (.inr ((9, 0, 0), 0))), (1, .inl a1)] [] s0
    refine am_blk hX 4 2 (am_ri hf)
