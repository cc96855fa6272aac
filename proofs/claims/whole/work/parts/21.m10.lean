/-! METHODS, printed by gen.py. -/
def fX9_in (a0 : Int64) (a2 : Int64) (a4 : Int64) : Option Int32 :=
  am_let (fun (x1 : Int32) => am_g (x1 = 0 ∨ x1 = 1) (some x1)) (fun J18 => am_let (J18 (0 : Int32)) (fun J17 => if (lg_cmp a0 a2) < 0 then (J17) else (if 0 < (lg_cmp a0 a4) then (J17) else (J18 (1 : Int32)))))
def kX9_in : List (Nat × Instr × Nat) := [(0, .lload_n 0, 1), (1, .lload_n 2, 1), (2, .lcmp, 1), (3, .ifCond .lt 14, 3), (6, .lload_n 0, 1), (7, .lload 4, 2), (9, .lcmp, 1), (10, .ifCond .gt 7, 3), (13, .iconst 1, 1), (14, .goto 4, 3), (17, .iconst 0, 1), (18, .ireturn, 1)]
theorem qX9_in : ∀ q ∈ kX9_in, decode mX9_in.2.2.1 q.1 = .ok (q.2.1, q.2.2) ∧ am_iok mX9_in.2.2.2.1 q.1 q.2.1 q.2.2 = true := by decide +kernel
set_option maxRecDepth 100000 in
theorem wX9_in : Cond.code mX9_in.2.1 mX9_in.2.2.1 mX9_in.2.2.2.1 mX9_in.2.2.2.2.1 ∈ am_T := List.mem_filter.mpr ⟨List.mem_of_getElem? (i := 1454) rfl, rfl⟩
set_option maxHeartbeats 4000000 in
set_option maxRecDepth 100000 in
theorem tX9_in (l : Launch) (d : Nat) {s0 : AS} {a0 : Int64} {a2 : Int64} {a4 : Int64} {rE : Int32} (hf : fX9_in a0 a2 a4 = some rE) : am_Ct l (d + 1) mX9_in [.inr (.inl a0), .inr (.inl a2), .inr (.inl a4)] s0 s0 (some (.inl rE)) := by
  refine am_sim l (d + 0) (code := kX9_in) (by decide +kernel) wX9_in qX9_in (Nat.le_of_ble_eq_true rfl) ?_
  intro X hX
  show X 0 [(0, .inr (.inl a0)), (2, .inr (.inl a2)), (4, .inr (.inl a4))] [] s0
  unfold fX9_in at hf
  refine am_jn hf (fun J18 => ∀ (x1 : Int32), J18 x1 = some rE → X 18 [] [.inl x1] s0) ?_ ?_
  · intro x1 hf
    obtain ⟨g2, hf⟩ := am_g_of hf
    refine am_blk hX 11 1 (And.intro g2 (am_rpi hf))
  · intro J18 hJ18 hf
    refine am_jn hf (fun J17 => J17 = some rE → X 17 [] [] s0) ?_ ?_
    · intro hf
      refine am_blk hX 10 1 (?_)
      show X 18 [] [.inl (0 : Int32)] s0
      exact am_wk hX [] (hJ18 (0 : Int32) hf)
    · intro J17 hJ17 hf
      refine am_blk hX 0 4 (And.intro (fun hb => ?_) (fun hb => ?_))
      · have hf := am_it hf hb
        show X 17 [(0, .inr (.inl a0)), (2, .inr (.inl a2)), (4, .inr (.inl a4))] [] s0
        exact am_wk hX [] (hJ17 hf)
      · have hf := am_if hf hb
        show X 6 [(0, .inr (.inl a0)), (2, .inr (.inl a2)), (4, .inr (.inl a4))] [] s0
        refine am_blk hX 4 4 (And.intro (fun hb => ?_) (fun hb => ?_))
        · have hf := am_it hf hb
          show X 17 [(0, .inr (.inl a0)), (2, .inr (.inl a2)), (4, .inr (.inl a4))] [] s0
          exact am_wk hX [] (hJ17 hf)
        · have hf := am_if hf hb
          show X 13 [(0, .inr (.inl a0)), (2, .inr (.inl a2)), (4, .inr (.inl a4))] [] s0
          refine am_blk hX 8 2 (?_)
          show X 18 [(0, .inr (.inl a0)), (2, .inr (.inl a2)), (4, .inr (.inl a4))] [.inl (1 : Int32)] s0
          exact am_wk hX [] (hJ18 (1 : Int32) hf)
def fX9_isHalf (a0 : Int32) : Option Int32 :=
  am_r (fX9_in a0.toInt64 (0 : Int64) (1 : Int64)) (fun (v1 : Int32) => am_g (v1 = 0 ∨ v1 = 1) (some v1))
def kX9_isHalf : List (Nat × Instr × Nat) := [(0, .iload_n 0, 1), (1, .i2l, 1), (2, .lconst 0, 1), (3, .lconst 1, 1), (4, .invokestatic 85, 3), (7, .ireturn, 1)]
theorem qX9_isHalf : ∀ q ∈ kX9_isHalf, decode mX9_isHalf.2.2.1 q.1 = .ok (q.2.1, q.2.2) ∧ am_iok mX9_isHalf.2.2.2.1 q.1 q.2.1 q.2.2 = true := by decide +kernel
set_option maxRecDepth 100000 in
theorem wX9_isHalf : Cond.code mX9_isHalf.2.1 mX9_isHalf.2.2.1 mX9_isHalf.2.2.2.1 mX9_isHalf.2.2.2.2.1 ∈ am_T := List.mem_filter.mpr ⟨List.mem_of_getElem? (i := 1928) rfl, rfl⟩
set_option maxHeartbeats 4000000 in
set_option maxRecDepth 100000 in
theorem tX9_isHalf (l : Launch) (d : Nat) {s0 : AS} {a0 : Int32} {rE : Int32} (hf : fX9_isHalf a0 = some rE) : am_Ct l (d + 2) mX9_isHalf [.inl a0] s0 s0 (some (.inl rE)) := by
  refine am_sim l (d + 1) (code := kX9_isHalf) (by decide +kernel) wX9_isHalf qX9_isHalf (Nat.le_of_ble_eq_true rfl) ?_
  intro X hX
  show X 0 [(0, .inl a0)] [] s0
  unfold fX9_isHalf at hf
  obtain ⟨v1, hcv1, hf⟩ := am_r_of hf
  obtain ⟨g2, hf⟩ := am_g_of hf
  refine am_blk hX 0 6 (And.intro rfl (Exists.intro s0 (Exists.intro (some (.inl v1)) (And.intro (tX9_in l (d + 0) hcv1) (And.intro g2 (am_rpi hf))))))
def fX9_lays_L12 : Nat → AS → Int32 → Option (AS × Unit)
  | 0, _, _ => none
  | n12 + 1, s3, x4 =>
    am_g (¬ ((6 : Int32) < 0 ∨ 35 ≤ (6 : Int32).toNatClampNeg)) (if (s3.1 222 ((6 : Int32).toNatClampNeg)) ≤ x4 then (am_g (¬ ((1 : Int32) < 0 ∨ 35 ≤ (1 : Int32).toNatClampNeg)) (am_let (am_si s3 215 25 (s3.1 222 ((1 : Int32).toNatClampNeg))) (fun (s7 : AS) => am_g (¬ ((2 : Int32) < 0 ∨ 35 ≤ (2 : Int32).toNatClampNeg)) (am_let (am_si s7 215 26 (s7.1 222 ((2 : Int32).toNatClampNeg))) (fun (s9 : AS) => am_let (am_si s9 215 27 (-1 : Int32)) (fun (s10 : AS) => am_let (am_si s10 215 30 (-1 : Int32)) (fun (s11 : AS) => am_let (am_si s11 215 31 (-1 : Int32)) (fun (s12 : AS) => am_let (am_sj s12 215 33 (0 : Int64)) (fun (s13 : AS) => some (s13, ())))))))))) else (am_g (¬ ((((3 : Int32) * x4) + (1 : Int32)) < 0 ∨ 600 ≤ (((3 : Int32) * x4) + (1 : Int32)).toNatClampNeg)) (am_let ((1 : Int32) <<< ((s3.1 226 ((((3 : Int32) * x4) + (1 : Int32)).toNatClampNeg)) &&& 31)) (fun (x15 : Int32) => am_g (¬ ((((3 : Int32) * x4) + (2 : Int32)) < 0 ∨ 600 ≤ (((3 : Int32) * x4) + (2 : Int32)).toNatClampNeg)) (am_let (fun (x17 : Int32) => am_g (¬ (((3 : Int32) * x4) < 0 ∨ 600 ≤ ((3 : Int32) * x4).toNatClampNeg)) (am_let (fun (s19 : AS) => am_let (x4 + (1 : Int32)) (fun (x20 : Int32) => fX9_lays_L12 n12 s19 x20)) (fun J120 => if (s3.1 226 (((3 : Int32) * x4).toNatClampNeg)) = 0 then (am_let (fun (x23 : Int32) => am_let (am_si s3 215 23 x23) (fun (s24 : AS) => J120 s24)) (fun J89 => if x17 = 0 then (J89 ((s3.1 215 23) &&& (x15 ^^^ (-1 : Int32)))) else (J89 ((s3.1 215 23) ||| x15)))) else (am_let (fun (x21 : Int32) => am_let (am_si s3 215 24 x21) (fun (s22 : AS) => J120 s22)) (fun J117 => if x17 = 0 then (J117 ((s3.1 215 24) &&& (x15 ^^^ (-1 : Int32)))) else (J117 ((s3.1 215 24) ||| x15))))))) (fun J55 => if (s3.1 226 ((((3 : Int32) * x4) + (2 : Int32)).toNatClampNeg)) = (1 : Int32) then (J55 (1 : Int32)) else (J55 (0 : Int32))))))))
def fX9_lays (s0 : AS) : Option (AS × Unit) :=
  am_let (am_si s0 215 23 (0 : Int32)) (fun (s1 : AS) => am_let (am_si s1 215 24 (0 : Int32)) (fun (s2 : AS) => fX9_lays_L12 am_fu s2 (0 : Int32)))
def kX9_lays : List (Nat × Instr × Nat) := [(0, .aload_n 0, 1), (1, .iconst 0, 1), (2, .putfield 256, 3), (5, .aload_n 0, 1), (6, .iconst 0, 1), (7, .putfield 259, 3), (10, .iconst 0, 1), (11, .istore_n 1, 1), (12, .iload_n 1, 1), (13, .aload_n 0, 1), (14, .getfield 34, 3), (17, .bipush 6, 2), (19, .iaload, 1), (20, .if_icmp .ge 106, 3), (23, .iconst 1, 1), (24, .aload_n 0, 1), (25, .getfield 46, 3), (28, .iconst 3, 1), (29, .iload_n 1, 1), (30, .imul, 1), (31, .iconst 1, 1), (32, .iadd, 1), (33, .iaload, 1), (34, .ishl, 1), (35, .istore_n 2, 1), (36, .aload_n 0, 1), (37, .getfield 46, 3), (40, .iconst 3, 1), (41, .iload_n 1, 1), (42, .imul, 1), (43, .iconst 2, 1), (44, .iadd, 1), (45, .iaload, 1), (46, .iconst 1, 1), (47, .if_icmp .ne 7, 3), (50, .iconst 1, 1), (51, .goto 4, 3), (54, .iconst 0, 1), (55, .istore_n 3, 1), (56, .aload_n 0, 1), (57, .getfield 46, 3), (60, .iconst 3, 1), (61, .iload_n 1, 1), (62, .imul, 1), (63, .iaload, 1), (64, .ifCond .ne 31, 3), (67, .aload_n 0, 1), (68, .iload_n 3, 1), (69, .ifCond .eq 12, 3), (72, .aload_n 0, 1), (73, .getfield 256, 3), (76, .iload_n 2, 1), (77, .ior, 1), (78, .goto 11, 3), (81, .aload_n 0, 1), (82, .getfield 256, 3), (85, .iload_n 2, 1), (86, .iconst (-1), 1), (87, .ixor, 1), (88, .iand, 1), (89, .putfield 256, 3), (92, .goto 28, 3), (95, .aload_n 0, 1), (96, .iload_n 3, 1), (97, .ifCond .eq 12, 3), (100, .aload_n 0, 1), (101, .getfield 259, 3), (104, .iload_n 2, 1), (105, .ior, 1), (106, .goto 11, 3), (109, .aload_n 0, 1), (110, .getfield 259, 3), (113, .iload_n 2, 1), (114, .iconst (-1), 1), (115, .ixor, 1), (116, .iand, 1), (117, .putfield 259, 3), (120, .iinc 1 1, 3), (123, .goto (-111), 3), (126, .aload_n 0, 1), (127, .aload_n 0, 1), (128, .getfield 34, 3), (131, .iconst 1, 1), (132, .iaload, 1), (133, .putfield 262, 3), (136, .aload_n 0, 1), (137, .aload_n 0, 1), (138, .getfield 34, 3), (141, .iconst 2, 1), (142, .iaload, 1), (143, .putfield 265, 3), (146, .aload_n 0, 1), (147, .iconst (-1), 1), (148, .putfield 268, 3), (151, .aload_n 0, 1), (152, .iconst (-1), 1), (153, .putfield 271, 3), (156, .aload_n 0, 1), (157, .iconst (-1), 1), (158, .putfield 274, 3), (161, .aload_n 0, 1), (162, .lconst 0, 1), (163, .putfield 277, 3), (166, .return_, 1)]
theorem qX9_lays : ∀ q ∈ kX9_lays, decode mX9_lays.2.2.1 q.1 = .ok (q.2.1, q.2.2) ∧ am_iok mX9_lays.2.2.2.1 q.1 q.2.1 q.2.2 = true := by decide +kernel
set_option maxRecDepth 100000 in
theorem wX9_lays : Cond.code mX9_lays.2.1 mX9_lays.2.2.1 mX9_lays.2.2.2.1 mX9_lays.2.2.2.2.1 ∈ am_T := List.mem_filter.mpr ⟨List.mem_of_getElem? (i := 1631) rfl, rfl⟩
set_option maxHeartbeats 4000000 in
set_option maxRecDepth 100000 in
theorem tX9_lays (l : Launch) (d : Nat) {s0 : AS} {sE : AS} {rE : Unit} (hf : fX9_lays s0 = some (sE, rE)) : am_Ct l (d + 1) mX9_lays [.inr (.inr ((10, 0, 0), 215))] s0 sE none := by
  refine am_sim l (d + 0) (code := kX9_lays) (by decide +kernel) wX9_lays qX9_lays (Nat.le_of_ble_eq_true rfl) ?_
  intro X hX
  show X 0 [(0, .inr (.inr ((10, 0, 0), 215)))] [] s0
  unfold fX9_lays at hf
  refine am_blk hX 0 3 (And.intro rfl (am_nl (Z := fun s1 => X 5 [(0, .inr (.inr ((10, 0, 0), 215)))] [] s1) hf (fun s1 hf => ?_)))
  refine am_blk hX 3 3 (And.intro rfl (am_nl (Z := fun s2 => X 10 [(0, .inr (.inr ((10, 0, 0), 215)))] [] s2) hf (fun s2 hf => ?_)))
  have hL12 : ∀ (n12 : Nat) (s3 : AS) (x4 : Int32), fX9_lays_L12 n12 s3 x4 = some (sE, rE) → X 12 [(0, .inr (.inr ((10, 0, 0), 215))), (1, .inl x4)] [] s3 := by
    intro n12
    induction n12 with
    | zero => intro s3 x4 hf; exact am_no (show none = some _ from hf)
    | succ n12 ih12 =>
      intro s3 x4 hf
      obtain ⟨g5, hf⟩ := am_g_of hf
      refine am_blk hX 8 6 (And.intro rfl (And.intro rfl (And.intro g5 (And.intro (fun hb => ?_) (fun hb => ?_)))))
      · have hf := am_it hf hb
        show X 126 [(0, .inr (.inr ((10, 0, 0), 215))), (1, .inl x4)] [] s3
        obtain ⟨g6, hf⟩ := am_g_of hf
        refine am_blk hX 79 6 (And.intro rfl (And.intro rfl (And.intro g6 (And.intro rfl (am_nl (Z := fun s7 => X 136 [(0, .inr (.inr ((10, 0, 0), 215))), (1, .inl x4)] [] s7) hf (fun s7 hf => ?_))))))
        obtain ⟨g8, hf⟩ := am_g_of hf
        refine am_blk hX 85 6 (And.intro rfl (And.intro rfl (And.intro g8 (And.intro rfl (am_nl (Z := fun s9 => X 146 [(0, .inr (.inr ((10, 0, 0), 215))), (1, .inl x4)] [] s9) hf (fun s9 hf => ?_))))))
        refine am_blk hX 91 3 (And.intro rfl (am_nl (Z := fun s10 => X 151 [(0, .inr (.inr ((10, 0, 0), 215))), (1, .inl x4)] [] s10) hf (fun s10 hf => ?_)))
        refine am_blk hX 94 3 (And.intro rfl (am_nl (Z := fun s11 => X 156 [(0, .inr (.inr ((10, 0, 0), 215))), (1, .inl x4)] [] s11) hf (fun s11 hf => ?_)))
        refine am_blk hX 97 3 (And.intro rfl (am_nl (Z := fun s12 => X 161 [(0, .inr (.inr ((10, 0, 0), 215))), (1, .inl x4)] [] s12) hf (fun s12 hf => ?_)))
        refine am_blk hX 100 3 (And.intro rfl (am_nl (Z := fun s13 => X 166 [(0, .inr (.inr ((10, 0, 0), 215))), (1, .inl x4)] [] s13) hf (fun s13 hf => ?_)))
        refine am_blk hX 103 1 (And.intro rfl (am_rv hf))
      · have hf := am_if hf hb
        show X 23 [(0, .inr (.inr ((10, 0, 0), 215))), (1, .inl x4)] [] s3
        obtain ⟨g14, hf⟩ := am_g_of hf
        refine am_blk hX 14 11 (And.intro rfl (And.intro rfl (And.intro g14 (am_nl (Z := fun x15 => X 36 [(2, .inl x15), (0, .inr (.inr ((10, 0, 0), 215))), (1, .inl x4)] [] s3) hf (fun x15 hf => ?_)))))
        obtain ⟨g16, hf⟩ := am_g_of hf
        refine am_jn hf (fun J55 => ∀ (x17 : Int32), J55 x17 = some (sE, rE) → X 55 [(0, .inr (.inr ((10, 0, 0), 215))), (1, .inl x4), (2, .inl x15)] [.inl x17] s3) ?_ ?_
        · intro x17 hf
          obtain ⟨g18, hf⟩ := am_g_of hf
          refine am_jn hf (fun J120 => ∀ (s19 : AS), J120 s19 = some (sE, rE) → X 120 [(0, .inr (.inr ((10, 0, 0), 215))), (1, .inl x4)] [] s19) ?_ ?_
          · intro s19 hf
            refine am_blk hX 77 1 (am_nl (Z := fun x20 => X 123 [(1, .inl x20), (0, .inr (.inr ((10, 0, 0), 215)))] [] s19) hf (fun x20 hf => ?_))
            refine am_blk hX 78 1 (?_)
            show X 12 [(1, .inl x20), (0, .inr (.inr ((10, 0, 0), 215)))] [] s19
            exact am_wk hX [1, 0] (ih12 s19 x20 hf)
          · intro J120 hJ120 hf
            refine am_blk hX 38 8 (And.intro rfl (And.intro rfl (And.intro g18 (And.intro (fun hb => ?_) (fun hb => ?_)))))
            · have hf := am_if hf hb
              show X 95 [(3, .inl x17), (0, .inr (.inr ((10, 0, 0), 215))), (1, .inl x4), (2, .inl x15)] [] s3
              refine am_jn hf (fun J117 => ∀ (x21 : Int32), J117 x21 = some (sE, rE) → X 117 [(0, .inr (.inr ((10, 0, 0), 215))), (1, .inl x4)] [.inl x21, .inr (.inr ((10, 0, 0), 215))] s3) ?_ ?_
              · intro x21 hf
                refine am_blk hX 76 1 (And.intro rfl (am_nl (Z := fun s22 => X 120 [(0, .inr (.inr ((10, 0, 0), 215))), (1, .inl x4)] [] s22) hf (fun s22 hf => ?_)))
                exact am_wk hX [0, 1] (hJ120 s22 hf)
              · intro J117 hJ117 hf
                refine am_blk hX 62 3 (And.intro (fun hb => ?_) (fun hb => ?_))
                · have hf := am_it hf hb
                  show X 109 [(3, .inl x17), (0, .inr (.inr ((10, 0, 0), 215))), (1, .inl x4), (2, .inl x15)] [.inr (.inr ((10, 0, 0), 215))] s3
                  refine am_blk hX 70 6 (And.intro rfl (?_))
                  show X 117 [(3, .inl x17), (0, .inr (.inr ((10, 0, 0), 215))), (1, .inl x4), (2, .inl x15)] [.inl ((s3.1 215 24) &&& (x15 ^^^ (-1 : Int32))), .inr (.inr ((10, 0, 0), 215))] s3
                  exact am_wk hX [1, 2] (hJ117 ((s3.1 215 24) &&& (x15 ^^^ (-1 : Int32))) hf)
                · have hf := am_if hf hb
                  show X 100 [(3, .inl x17), (0, .inr (.inr ((10, 0, 0), 215))), (1, .inl x4), (2, .inl x15)] [.inr (.inr ((10, 0, 0), 215))] s3
                  refine am_blk hX 65 5 (And.intro rfl (?_))
                  show X 117 [(3, .inl x17), (0, .inr (.inr ((10, 0, 0), 215))), (1, .inl x4), (2, .inl x15)] [.inl ((s3.1 215 24) ||| x15), .inr (.inr ((10, 0, 0), 215))] s3
                  exact am_wk hX [1, 2] (hJ117 ((s3.1 215 24) ||| x15) hf)
            · have hf := am_it hf hb
              show X 67 [(3, .inl x17), (0, .inr (.inr ((10, 0, 0), 215))), (1, .inl x4), (2, .inl x15)] [] s3
              refine am_jn hf (fun J89 => ∀ (x23 : Int32), J89 x23 = some (sE, rE) → X 89 [(0, .inr (.inr ((10, 0, 0), 215))), (1, .inl x4)] [.inl x23, .inr (.inr ((10, 0, 0), 215))] s3) ?_ ?_
              · intro x23 hf
                refine am_blk hX 60 1 (And.intro rfl (am_nl (Z := fun s24 => X 92 [(0, .inr (.inr ((10, 0, 0), 215))), (1, .inl x4)] [] s24) hf (fun s24 hf => ?_)))
                refine am_blk hX 61 1 (?_)
                show X 120 [(0, .inr (.inr ((10, 0, 0), 215))), (1, .inl x4)] [] s24
                exact am_wk hX [0, 1] (hJ120 s24 hf)
              · intro J89 hJ89 hf
                refine am_blk hX 46 3 (And.intro (fun hb => ?_) (fun hb => ?_))
                · have hf := am_it hf hb
                  show X 81 [(3, .inl x17), (0, .inr (.inr ((10, 0, 0), 215))), (1, .inl x4), (2, .inl x15)] [.inr (.inr ((10, 0, 0), 215))] s3
                  refine am_blk hX 54 6 (And.intro rfl (?_))
                  show X 89 [(3, .inl x17), (0, .inr (.inr ((10, 0, 0), 215))), (1, .inl x4), (2, .inl x15)] [.inl ((s3.1 215 23) &&& (x15 ^^^ (-1 : Int32))), .inr (.inr ((10, 0, 0), 215))] s3
                  exact am_wk hX [1, 2] (hJ89 ((s3.1 215 23) &&& (x15 ^^^ (-1 : Int32))) hf)
                · have hf := am_if hf hb
                  show X 72 [(3, .inl x17), (0, .inr (.inr ((10, 0, 0), 215))), (1, .inl x4), (2, .inl x15)] [.inr (.inr ((10, 0, 0), 215))] s3
                  refine am_blk hX 49 5 (And.intro rfl (?_))
                  show X 89 [(3, .inl x17), (0, .inr (.inr ((10, 0, 0), 215))), (1, .inl x4), (2, .inl x15)] [.inl ((s3.1 215 23) ||| x15), .inr (.inr ((10, 0, 0), 215))] s3
                  exact am_wk hX [1, 2] (hJ89 ((s3.1 215 23) ||| x15) hf)
        · intro J55 hJ55 hf
          refine am_blk hX 25 10 (And.intro rfl (And.intro rfl (And.intro g16 (And.intro (fun hb => ?_) (fun hb => ?_)))))
          · have hf := am_if hf hb
            show X 54 [(2, .inl x15), (0, .inr (.inr ((10, 0, 0), 215))), (1, .inl x4)] [] s3
            refine am_blk hX 37 1 (?_)
            show X 55 [(2, .inl x15), (0, .inr (.inr ((10, 0, 0), 215))), (1, .inl x4)] [.inl (0 : Int32)] s3
            exact am_wk hX [1, 2, 0] (hJ55 (0 : Int32) hf)
          · have hf := am_it hf hb
            show X 50 [(2, .inl x15), (0, .inr (.inr ((10, 0, 0), 215))), (1, .inl x4)] [] s3
            refine am_blk hX 35 2 (?_)
            show X 55 [(2, .inl x15), (0, .inr (.inr ((10, 0, 0), 215))), (1, .inl x4)] [.inl (1 : Int32)] s3
            exact am_wk hX [1, 2, 0] (hJ55 (1 : Int32) hf)
  refine am_blk hX 6 2 (?_)
  show X 12 [(1, .inl (0 : Int32)), (0, .inr (.inr ((10, 0, 0), 215)))] [] s2
  exact am_wk hX [1, 0] (hL12 am_fu s2 (0 : Int32) hf)
def fX9_isBit (a0 : Int32) (a1 : Int32) : Option Int32 :=
  am_let (fun (x1 : Int32) => am_g (x1 = 0 ∨ x1 = 1) (some x1)) (fun J14 => if ((a0 >>> (a1 &&& 31)) &&& (1 : Int32)) = (1 : Int32) then (J14 (1 : Int32)) else (J14 (0 : Int32)))
def kX9_isBit : List (Nat × Instr × Nat) := [(0, .iload_n 0, 1), (1, .iload_n 1, 1), (2, .ishr, 1), (3, .iconst 1, 1), (4, .iand, 1), (5, .iconst 1, 1), (6, .if_icmp .ne 7, 3), (9, .iconst 1, 1), (10, .goto 4, 3), (13, .iconst 0, 1), (14, .ireturn, 1)]
theorem qX9_isBit : ∀ q ∈ kX9_isBit, decode mX9_isBit.2.2.1 q.1 = .ok (q.2.1, q.2.2) ∧ am_iok mX9_isBit.2.2.2.1 q.1 q.2.1 q.2.2 = true := by decide +kernel
set_option maxRecDepth 100000 in
theorem wX9_isBit : Cond.code mX9_isBit.2.1 mX9_isBit.2.2.1 mX9_isBit.2.2.2.1 mX9_isBit.2.2.2.2.1 ∈ am_T := List.mem_filter.mpr ⟨List.mem_of_getElem? (i := 1638) rfl, rfl⟩
set_option maxHeartbeats 4000000 in
set_option maxRecDepth 100000 in
theorem tX9_isBit (l : Launch) (d : Nat) {s0 : AS} {a0 : Int32} {a1 : Int32} {rE : Int32} (hf : fX9_isBit a0 a1 = some rE) : am_Ct l (d + 1) mX9_isBit [.inl a0, .inl a1] s0 s0 (some (.inl rE)) := by
  refine am_sim l (d + 0) (code := kX9_isBit) (by decide +kernel) wX9_isBit qX9_isBit (Nat.le_of_ble_eq_true rfl) ?_
  intro X hX
  show X 0 [(0, .inl a0), (1, .inl a1)] [] s0
  unfold fX9_isBit at hf
  refine am_jn hf (fun J14 => ∀ (x1 : Int32), J14 x1 = some rE → X 14 [] [.inl x1] s0) ?_ ?_
  · intro x1 hf
    obtain ⟨g2, hf⟩ := am_g_of hf
    refine am_blk hX 10 1 (And.intro g2 (am_rpi hf))
  · intro J14 hJ14 hf
    refine am_blk hX 0 7 (And.intro (fun hb => ?_) (fun hb => ?_))
    · have hf := am_if hf hb
      show X 13 [(0, .inl a0), (1, .inl a1)] [] s0
      refine am_blk hX 9 1 (?_)
      show X 14 [(0, .inl a0), (1, .inl a1)] [.inl (0 : Int32)] s0
      exact am_wk hX [] (hJ14 (0 : Int32) hf)
    · have hf := am_it hf hb
      show X 9 [(0, .inl a0), (1, .inl a1)] [] s0
      refine am_blk hX 7 2 (?_)
      show X 14 [(0, .inl a0), (1, .inl a1)] [.inl (1 : Int32)] s0
      exact am_wk hX [] (hJ14 (1 : Int32) hf)
def fX9_answer (s0 : AS) (a1 : Int32) (a2 : Int32) : Option (AS × Int32) :=
  am_let (am_si s0 215 0 (0 : Int32)) (fun (s1 : AS) => am_r (fX9_isMarch s1) (fun (v2 : Int32) => am_let (some (s1, (-2 : Int32))) (fun J31 => if v2 = 0 then (J31) else (am_r (fX9_in a1.toInt64 (0 : Int64) (5 : Int64)) (fun (v3 : Int32) => if v3 = 0 then (J31) else (am_r (fX9_isHalf a2) (fun (v4 : Int32) => if v4 = 0 then (J31) else (am_g (¬ ((6 : Int32) < 0 ∨ 35 ≤ (6 : Int32).toNatClampNeg)) (if (s1.1 222 ((6 : Int32).toNatClampNeg)) = (40 : Int32) then (some (s1, (-5 : Int32))) else (am_c (fX9_lays s1) (fun (s7 : AS) (v6 : Unit) => am_c (fX9_acts s7 (0 : Int32) a1 a2) (fun (s9 : AS) (v8 : Unit) => am_r (fX9_isBit (s9.1 215 23) a1) (fun (v10 : Int32) => am_let (fun (x11 : Int32) => some (s9, x11)) (fun J76 => if v10 = 0 then (J76 (0 : Int32)) else (J76 (1 : Int32))))))))))))))))
def kX9_answer : List (Nat × Instr × Nat) := [(0, .aload_n 0, 1), (1, .iconst 0, 1), (2, .putfield 80, 3), (5, .aload_n 0, 1), (6, .invokevirtual 251, 3), (9, .ifCond .eq 22, 3), (12, .iload_n 1, 1), (13, .i2l, 1), (14, .lconst 0, 1), (15, .ldc2_w 450, 3), (18, .invokestatic 85, 3), (21, .ifCond .eq 10, 3), (24, .iload_n 2, 1), (25, .invokestatic 419, 3), (28, .ifCond .ne 6, 3), (31, .bipush (-2), 2), (33, .ireturn, 1), (34, .aload_n 0, 1), (35, .getfield 34, 3), (38, .bipush 6, 2), (40, .iaload, 1), (41, .bipush 40, 2), (43, .if_icmp .ne 6, 3), (46, .bipush (-5), 2), (48, .ireturn, 1), (49, .aload_n 0, 1), (50, .invokevirtual 336, 3), (53, .aload_n 0, 1), (54, .iconst 0, 1), (55, .iload_n 1, 1), (56, .iload_n 2, 1), (57, .invokevirtual 452, 3), (60, .aload_n 0, 1), (61, .getfield 256, 3), (64, .iload_n 1, 1), (65, .invokestatic 280, 3), (68, .ifCond .eq 7, 3), (71, .iconst 1, 1), (72, .goto 4, 3), (75, .iconst 0, 1), (76, .ireturn, 1)]
theorem qX9_answer : ∀ q ∈ kX9_answer, decode mX9_answer.2.2.1 q.1 = .ok (q.2.1, q.2.2) ∧ am_iok mX9_answer.2.2.2.1 q.1 q.2.1 q.2.2 = true := by decide +kernel
set_option maxRecDepth 100000 in
theorem wX9_answer : Cond.code mX9_answer.2.1 mX9_answer.2.2.1 mX9_answer.2.2.2.1 mX9_answer.2.2.2.2.1 ∈ am_T := List.mem_filter.mpr ⟨List.mem_of_getElem? (i := 1974) rfl, rfl⟩
set_option maxHeartbeats 4000000 in
set_option maxRecDepth 100000 in
theorem tX9_answer (l : Launch) (d : Nat) {s0 : AS} {a1 : Int32} {a2 : Int32} {sE : AS} {rE : Int32} (hf : fX9_answer s0 a1 a2 = some (sE, rE)) : am_Ct l (d + 3) mX9_answer [.inr (.inr ((10, 0, 0), 215)), .inl a1, .inl a2] s0 sE (some (.inl rE)) := by
  refine am_sim l (d + 2) (code := kX9_answer) (by decide +kernel) wX9_answer qX9_answer (Nat.le_of_ble_eq_true rfl) ?_
  intro X hX
  show X 0 [(0, .inr (.inr ((10, 0, 0), 215))), (1, .inl a1), (2, .inl a2)] [] s0
  unfold fX9_answer at hf
  refine am_blk hX 0 3 (And.intro rfl (am_nl (Z := fun s1 => X 5 [(0, .inr (.inr ((10, 0, 0), 215))), (1, .inl a1), (2, .inl a2)] [] s1) hf (fun s1 hf => ?_)))
  obtain ⟨v2, hcv2, hf⟩ := am_r_of hf
  refine am_jn hf (fun J31 => J31 = some (sE, rE) → X 31 [] [] s1) ?_ ?_
  · intro hf
    refine am_blk hX 15 2 (am_ri hf)
  · intro J31 hJ31 hf
    refine am_blk hX 3 3 (And.intro rfl (And.intro rfl (Exists.intro s1 (Exists.intro (some (.inl v2)) (And.intro (tX9_isMarch l (d + 1) hcv2) (And.intro (fun hb => ?_) (fun hb => ?_)))))))
    · have hf := am_it hf hb
      show X 31 [(0, .inr (.inr ((10, 0, 0), 215))), (1, .inl a1), (2, .inl a2)] [] s1
      exact am_wk hX [] (hJ31 hf)
    · have hf := am_if hf hb
      show X 12 [(0, .inr (.inr ((10, 0, 0), 215))), (1, .inl a1), (2, .inl a2)] [] s1
      obtain ⟨v3, hcv3, hf⟩ := am_r_of hf
      refine am_blk hX 6 6 (And.intro rfl (Exists.intro s1 (Exists.intro (some (.inl v3)) (And.intro (tX9_in l (d + 1) hcv3) (And.intro (fun hb => ?_) (fun hb => ?_))))))
      · have hf := am_it hf hb
        show X 31 [(0, .inr (.inr ((10, 0, 0), 215))), (1, .inl a1), (2, .inl a2)] [] s1
        exact am_wk hX [] (hJ31 hf)
      · have hf := am_if hf hb
        show X 24 [(0, .inr (.inr ((10, 0, 0), 215))), (1, .inl a1), (2, .inl a2)] [] s1
        obtain ⟨v4, hcv4, hf⟩ := am_r_of hf
        refine am_blk hX 12 3 (And.intro rfl (Exists.intro s1 (Exists.intro (some (.inl v4)) (And.intro (tX9_isHalf l (d + 0) hcv4) (And.intro (fun hb => ?_) (fun hb => ?_))))))
        · have hf := am_if hf hb
          show X 34 [(0, .inr (.inr ((10, 0, 0), 215))), (1, .inl a1), (2, .inl a2)] [] s1
          obtain ⟨g5, hf⟩ := am_g_of hf
          refine am_blk hX 17 6 (And.intro rfl (And.intro rfl (And.intro g5 (And.intro (fun hb => ?_) (fun hb => ?_)))))
          · have hf := am_if hf hb
            show X 49 [(0, .inr (.inr ((10, 0, 0), 215))), (1, .inl a1), (2, .inl a2)] [] s1
            obtain ⟨s7, v6, hcv6, hf⟩ := am_c_of hf
            obtain ⟨s9, v8, hcv8, hf⟩ := am_c_of hf
            obtain ⟨v10, hcv10, hf⟩ := am_r_of hf
            refine am_jn hf (fun J76 => ∀ (x11 : Int32), J76 x11 = some (sE, rE) → X 76 [] [.inl x11] s9) ?_ ?_
            · intro x11 hf
              refine am_blk hX 40 1 (am_ri hf)
            · intro J76 hJ76 hf
              refine am_blk hX 25 12 (And.intro rfl (And.intro rfl (Exists.intro s7 (Exists.intro none (And.intro (tX9_lays l (d + 1) hcv6) (And.intro rfl (And.intro rfl (Exists.intro s9 (Exists.intro none (And.intro (tX9_acts l (d + 1) hcv8) (And.intro rfl (And.intro rfl (Exists.intro s9 (Exists.intro (some (.inl v10)) (And.intro (tX9_isBit l (d + 1) hcv10) (And.intro (fun hb => ?_) (fun hb => ?_)))))))))))))))))
              · have hf := am_it hf hb
                show X 75 [(0, .inr (.inr ((10, 0, 0), 215))), (1, .inl a1), (2, .inl a2)] [] s9
                refine am_blk hX 39 1 (?_)
                show X 76 [(0, .inr (.inr ((10, 0, 0), 215))), (1, .inl a1), (2, .inl a2)] [.inl (0 : Int32)] s9
                exact am_wk hX [] (hJ76 (0 : Int32) hf)
              · have hf := am_if hf hb
                show X 71 [(0, .inr (.inr ((10, 0, 0), 215))), (1, .inl a1), (2, .inl a2)] [] s9
                refine am_blk hX 37 2 (?_)
                show X 76 [(0, .inr (.inr ((10, 0, 0), 215))), (1, .inl a1), (2, .inl a2)] [.inl (1 : Int32)] s9
                exact am_wk hX [] (hJ76 (1 : Int32) hf)
          · have hf := am_it hf hb
            show X 46 [(0, .inr (.inr ((10, 0, 0), 215))), (1, .inl a1), (2, .inl a2)] [] s1
            refine am_blk hX 23 2 (am_ri hf)
        · have hf := am_it hf hb
          show X 31 [(0, .inr (.inr ((10, 0, 0), 215))), (1, .inl a1), (2, .inl a2)] [] s1
          exact am_wk hX [] (hJ31 hf)
def fX9_answered (s0 : AS) : Option (AS × Int32) :=
  am_let (am_si s0 215 0 (0 : Int32)) (fun (s1 : AS) => am_r (fX9_isMarch s1) (fun (v2 : Int32) => if v2 = 0 then (some (s1, (-2 : Int32))) else (am_c (fX9_lays s1) (fun (s4 : AS) (v3 : Unit) => some (s4, s4.1 215 23)))))
def kX9_answered : List (Nat × Instr × Nat) := [(0, .aload_n 0, 1), (1, .iconst 0, 1), (2, .putfield 80, 3), (5, .aload_n 0, 1), (6, .invokevirtual 251, 3), (9, .ifCond .ne 6, 3), (12, .bipush (-2), 2), (14, .ireturn, 1), (15, .aload_n 0, 1), (16, .invokevirtual 336, 3), (19, .aload_n 0, 1), (20, .getfield 256, 3), (23, .ireturn, 1)]
theorem qX9_answered : ∀ q ∈ kX9_answered, decode mX9_answered.2.2.1 q.1 = .ok (q.2.1, q.2.2) ∧ am_iok mX9_answered.2.2.2.1 q.1 q.2.1 q.2.2 = true := by decide +kernel
set_option maxRecDepth 100000 in
theorem wX9_answered : Cond.code mX9_answered.2.1 mX9_answered.2.2.1 mX9_answered.2.2.2.1 mX9_answered.2.2.2.2.1 ∈ am_T := List.mem_filter.mpr ⟨List.mem_of_getElem? (i := 1987) rfl, rfl⟩
set_option maxHeartbeats 4000000 in
set_option maxRecDepth 100000 in
theorem tX9_answered (l : Launch) (d : Nat) {s0 : AS} {sE : AS} {rE : Int32} (hf : fX9_answered s0 = some (sE, rE)) : am_Ct l (d + 2) mX9_answered [.inr (.inr ((10, 0, 0), 215))] s0 sE (some (.inl rE)) := by
  refine am_sim l (d + 1) (code := kX9_answered) (by decide +kernel) wX9_answered qX9_answered (Nat.le_of_ble_eq_true rfl) ?_
  intro X hX
  show X 0 [(0, .inr (.inr ((10, 0, 0), 215)))] [] s0
  unfold fX9_answered at hf
  refine am_blk hX 0 3 (And.intro rfl (am_nl (Z := fun s1 => X 5 [(0, .inr (.inr ((10, 0, 0), 215)))] [] s1) hf (fun s1 hf => ?_)))
  obtain ⟨v2, hcv2, hf⟩ := am_r_of hf
  refine am_blk hX 3 3 (And.intro rfl (And.intro rfl (Exists.intro s1 (Exists.intro (some (.inl v2)) (And.intro (tX9_isMarch l (d + 0) hcv2) (And.intro (fun hb => ?_) (fun hb => ?_)))))))
  · have hf := am_if hf hb
    show X 15 [(0, .inr (.inr ((10, 0, 0), 215)))] [] s1
    obtain ⟨s4, v3, hcv3, hf⟩ := am_c_of hf
    refine am_blk hX 8 5 (And.intro rfl (And.intro rfl (Exists.intro s4 (Exists.intro none (And.intro (tX9_lays l (d + 0) hcv3) (And.intro rfl (am_ri hf)))))))
  · have hf := am_it hf hb
    show X 12 [(0, .inr (.inr ((10, 0, 0), 215)))] [] s1
    refine am_blk hX 6 2 (am_ri hf)
def fX9_areBeside_L2 (a1 : Int32) (a2 : Int32) (s0 : AS) (J75 : Option Int32) : Nat → Int32 → Option Int32
  | 0, _ => none
  | n2 + 1, x1 =>
    am_g (¬ ((4 : Int32) < 0 ∨ 35 ≤ (4 : Int32).toNatClampNeg)) (if (s0.1 222 ((4 : Int32).toNatClampNeg)) ≤ x1 then (some (0 : Int32)) else (am_r (fX9_isBit (s0.1 215 24) x1) (fun (v3 : Int32) => am_let (am_let (x1 + (1 : Int32)) (fun (x4 : Int32) => fX9_areBeside_L2 a1 a2 s0 J75 n2 x4)) (fun J77 => if v3 = 0 then (am_g (¬ (((3 : Int32) * x1) < 0 ∨ 150 ≤ ((3 : Int32) * x1).toNatClampNeg)) (am_let (am_g (¬ (((3 : Int32) * x1) < 0 ∨ 150 ≤ ((3 : Int32) * x1).toNatClampNeg)) (if (s0.1 223 (((3 : Int32) * x1).toNatClampNeg)) = a2 then (am_g (¬ ((((3 : Int32) * x1) + (1 : Int32)) < 0 ∨ 150 ≤ (((3 : Int32) * x1) + (1 : Int32)).toNatClampNeg)) (if (s0.1 223 ((((3 : Int32) * x1) + (1 : Int32)).toNatClampNeg)) = a1 then (J75) else (J77))) else (J77))) (fun J49 => if (s0.1 223 (((3 : Int32) * x1).toNatClampNeg)) = a1 then (am_g (¬ ((((3 : Int32) * x1) + (1 : Int32)) < 0 ∨ 150 ≤ (((3 : Int32) * x1) + (1 : Int32)).toNatClampNeg)) (if (s0.1 223 ((((3 : Int32) * x1) + (1 : Int32)).toNatClampNeg)) = a2 then (J75) else (J49))) else (J49)))) else (J77)))))
def fX9_areBeside (s0 : AS) (a1 : Int32) (a2 : Int32) : Option Int32 :=
  am_let (some (1 : Int32)) (fun J75 => fX9_areBeside_L2 a1 a2 s0 J75 am_fu (0 : Int32))
def kX9_areBeside : List (Nat × Instr × Nat) := [(0, .iconst 0, 1), (1, .istore_n 3, 1), (2, .iload_n 3, 1), (3, .aload_n 0, 1), (4, .getfield 34, 3), (7, .iconst 4, 1), (8, .iaload, 1), (9, .if_icmp .ge 74, 3), (12, .aload_n 0, 1), (13, .getfield 259, 3), (16, .iload_n 3, 1), (17, .invokestatic 280, 3), (20, .ifCond .ne 57, 3), (23, .aload_n 0, 1), (24, .getfield 37, 3), (27, .iconst 3, 1), (28, .iload_n 3, 1), (29, .imul, 1), (30, .iaload, 1), (31, .iload_n 1, 1), (32, .if_icmp .ne 17, 3), (35, .aload_n 0, 1), (36, .getfield 37, 3), (39, .iconst 3, 1), (40, .iload_n 3, 1), (41, .imul, 1), (42, .iconst 1, 1), (43, .iadd, 1), (44, .iaload, 1), (45, .iload_n 2, 1), (46, .if_icmp .eq 29, 3), (49, .aload_n 0, 1), (50, .getfield 37, 3), (53, .iconst 3, 1), (54, .iload_n 3, 1), (55, .imul, 1), (56, .iaload, 1), (57, .iload_n 2, 1), (58, .if_icmp .ne 19, 3), (61, .aload_n 0, 1), (62, .getfield 37, 3), (65, .iconst 3, 1), (66, .iload_n 3, 1), (67, .imul, 1), (68, .iconst 1, 1), (69, .iadd, 1), (70, .iaload, 1), (71, .iload_n 1, 1), (72, .if_icmp .ne 5, 3), (75, .iconst 1, 1), (76, .ireturn, 1), (77, .iinc 3 1, 3), (80, .goto (-78), 3), (83, .iconst 0, 1), (84, .ireturn, 1)]
theorem qX9_areBeside : ∀ q ∈ kX9_areBeside, decode mX9_areBeside.2.2.1 q.1 = .ok (q.2.1, q.2.2) ∧ am_iok mX9_areBeside.2.2.2.1 q.1 q.2.1 q.2.2 = true := by decide +kernel
set_option maxRecDepth 100000 in
theorem wX9_areBeside : Cond.code mX9_areBeside.2.1 mX9_areBeside.2.2.1 mX9_areBeside.2.2.2.1 mX9_areBeside.2.2.2.2.1 ∈ am_T := List.mem_filter.mpr ⟨List.mem_of_getElem? (i := 1912) rfl, rfl⟩
set_option maxHeartbeats 4000000 in
set_option maxRecDepth 100000 in
theorem tX9_areBeside (l : Launch) (d : Nat) {s0 : AS} {a1 : Int32} {a2 : Int32} {rE : Int32} (hf : fX9_areBeside s0 a1 a2 = some rE) : am_Ct l (d + 2) mX9_areBeside [.inr (.inr ((10, 0, 0), 215)), .inl a1, .inl a2] s0 s0 (some (.inl rE)) := by
  refine am_sim l (d + 1) (code := kX9_areBeside) (by decide +kernel) wX9_areBeside qX9_areBeside (Nat.le_of_ble_eq_true rfl) ?_
  intro X hX
  show X 0 [(0, .inr (.inr ((10, 0, 0), 215))), (1, .inl a1), (2, .inl a2)] [] s0
  unfold fX9_areBeside at hf
  refine am_jn hf (fun J75 => J75 = some rE → X 75 [] [] s0) ?_ ?_
  · intro hf
    refine am_blk hX 49 2 (And.intro (Or.inr rfl) (am_rpi hf))
  · intro J75 hJ75 hf
    have hL2 : ∀ (n2 : Nat) (x1 : Int32), fX9_areBeside_L2 a1 a2 s0 J75 n2 x1 = some rE → X 2 [(0, .inr (.inr ((10, 0, 0), 215))), (1, .inl a1), (2, .inl a2), (3, .inl x1)] [] s0 := by
      intro n2
      induction n2 with
      | zero => intro x1 hf; exact am_no (show none = some _ from hf)
      | succ n2 ih2 =>
        intro x1 hf
        obtain ⟨g2, hf⟩ := am_g_of hf
        refine am_blk hX 2 6 (And.intro rfl (And.intro rfl (And.intro g2 (And.intro (fun hb => ?_) (fun hb => ?_)))))
        · have hf := am_it hf hb
          show X 83 [(0, .inr (.inr ((10, 0, 0), 215))), (1, .inl a1), (2, .inl a2), (3, .inl x1)] [] s0
          refine am_blk hX 53 2 (And.intro (Or.inl rfl) (am_rpi hf))
        · have hf := am_if hf hb
          show X 12 [(0, .inr (.inr ((10, 0, 0), 215))), (1, .inl a1), (2, .inl a2), (3, .inl x1)] [] s0
          obtain ⟨v3, hcv3, hf⟩ := am_r_of hf
          refine am_jn hf (fun J77 => J77 = some rE → X 77 [(0, .inr (.inr ((10, 0, 0), 215))), (1, .inl a1), (2, .inl a2), (3, .inl x1)] [] s0) ?_ ?_
          · intro hf
            refine am_blk hX 51 1 (am_nl (Z := fun x4 => X 80 [(3, .inl x4), (0, .inr (.inr ((10, 0, 0), 215))), (1, .inl a1), (2, .inl a2)] [] s0) hf (fun x4 hf => ?_))
            refine am_blk hX 52 1 (?_)
            show X 2 [(3, .inl x4), (0, .inr (.inr ((10, 0, 0), 215))), (1, .inl a1), (2, .inl a2)] [] s0
            exact am_wk hX [1, 2, 3, 0] (ih2 x4 hf)
          · intro J77 hJ77 hf
            refine am_blk hX 8 5 (And.intro rfl (And.intro rfl (Exists.intro s0 (Exists.intro (some (.inl v3)) (And.intro (tX9_isBit l (d + 0) hcv3) (And.intro (fun hb => ?_) (fun hb => ?_)))))))
            · have hf := am_if hf hb
              show X 77 [(0, .inr (.inr ((10, 0, 0), 215))), (1, .inl a1), (2, .inl a2), (3, .inl x1)] [] s0
              exact am_wk hX [0, 1, 2, 3] (hJ77 hf)
            · have hf := am_it hf hb
              show X 23 [(0, .inr (.inr ((10, 0, 0), 215))), (1, .inl a1), (2, .inl a2), (3, .inl x1)] [] s0
              obtain ⟨g5, hf⟩ := am_g_of hf
              refine am_jn hf (fun J49 => J49 = some rE → X 49 [(0, .inr (.inr ((10, 0, 0), 215))), (1, .inl a1), (2, .inl a2), (3, .inl x1)] [] s0) ?_ ?_
              · intro hf
                obtain ⟨g6, hf⟩ := am_g_of hf
                refine am_blk hX 31 8 (And.intro rfl (And.intro rfl (And.intro g6 (And.intro (fun hb => ?_) (fun hb => ?_)))))
                · have hf := am_if hf hb
                  show X 77 [(0, .inr (.inr ((10, 0, 0), 215))), (1, .inl a1), (2, .inl a2), (3, .inl x1)] [] s0
                  exact am_wk hX [0, 1, 2, 3] (hJ77 hf)
                · have hf := am_it hf hb
                  show X 61 [(0, .inr (.inr ((10, 0, 0), 215))), (1, .inl a1), (2, .inl a2), (3, .inl x1)] [] s0
                  obtain ⟨g7, hf⟩ := am_g_of hf
                  refine am_blk hX 39 10 (And.intro rfl (And.intro rfl (And.intro g7 (And.intro (fun hb => ?_) (fun hb => ?_)))))
                  · have hf := am_if hf hb
                    show X 77 [(0, .inr (.inr ((10, 0, 0), 215))), (1, .inl a1), (2, .inl a2), (3, .inl x1)] [] s0
                    exact am_wk hX [0, 1, 2, 3] (hJ77 hf)
                  · have hf := am_it hf hb
                    show X 75 [(0, .inr (.inr ((10, 0, 0), 215))), (1, .inl a1), (2, .inl a2), (3, .inl x1)] [] s0
                    exact am_wk hX [] (hJ75 hf)
              · intro J49 hJ49 hf
                refine am_blk hX 13 8 (And.intro rfl (And.intro rfl (And.intro g5 (And.intro (fun hb => ?_) (fun hb => ?_)))))
                · have hf := am_if hf hb
                  show X 49 [(0, .inr (.inr ((10, 0, 0), 215))), (1, .inl a1), (2, .inl a2), (3, .inl x1)] [] s0
                  exact am_wk hX [0, 1, 2, 3] (hJ49 hf)
                · have hf := am_it hf hb
                  show X 35 [(0, .inr (.inr ((10, 0, 0), 215))), (1, .inl a1), (2, .inl a2), (3, .inl x1)] [] s0
                  obtain ⟨g8, hf⟩ := am_g_of hf
                  refine am_blk hX 21 10 (And.intro rfl (And.intro rfl (And.intro g8 (And.intro (fun hb => ?_) (fun hb => ?_)))))
                  · have hf := am_it hf hb
                    show X 75 [(0, .inr (.inr ((10, 0, 0), 215))), (1, .inl a1), (2, .inl a2), (3, .inl x1)] [] s0
                    exact am_wk hX [] (hJ75 hf)
                  · have hf := am_if hf hb
                    show X 49 [(0, .inr (.inr ((10, 0, 0), 215))), (1, .inl a1), (2, .inl a2), (3, .inl x1)] [] s0
                    exact am_wk hX [0, 1, 2, 3] (hJ49 hf)
    refine am_blk hX 0 2 (?_)
    show X 2 [(3, .inl (0 : Int32)), (0, .inr (.inr ((10, 0, 0), 215))), (1, .inl a1), (2, .inl a2)] [] s0
    exact am_wk hX [1, 2, 3, 0] (hL2 am_fu (0 : Int32) hf)
def fX9_isPlace (s0 : AS) (a1 : Int64) : Option Int32 :=
  am_g (¬ ((0 : Int32) < 0 ∨ 35 ≤ (0 : Int32).toNatClampNeg)) (am_r (fX9_in a1 (0 : Int64) (((s0.1 222 ((0 : Int32).toNatClampNeg)).toInt64) - (1 : Int64))) (fun (v2 : Int32) => am_g (v2 = 0 ∨ v2 = 1) (some v2)))
def kX9_isPlace : List (Nat × Instr × Nat) := [(0, .lload_n 1, 1), (1, .lconst 0, 1), (2, .aload_n 0, 1), (3, .getfield 34, 3), (6, .iconst 0, 1), (7, .iaload, 1), (8, .i2l, 1), (9, .lconst 1, 1), (10, .lsub, 1), (11, .invokestatic 85, 3), (14, .ireturn, 1)]
theorem qX9_isPlace : ∀ q ∈ kX9_isPlace, decode mX9_isPlace.2.2.1 q.1 = .ok (q.2.1, q.2.2) ∧ am_iok mX9_isPlace.2.2.2.1 q.1 q.2.1 q.2.2 = true := by decide +kernel
set_option maxRecDepth 100000 in
theorem wX9_isPlace : Cond.code mX9_isPlace.2.1 mX9_isPlace.2.2.1 mX9_isPlace.2.2.2.1 mX9_isPlace.2.2.2.2.1 ∈ am_T := List.mem_filter.mpr ⟨List.mem_of_getElem? (i := 1627) rfl, rfl⟩
set_option maxHeartbeats 4000000 in
set_option maxRecDepth 100000 in
theorem tX9_isPlace (l : Launch) (d : Nat) {s0 : AS} {a1 : Int64} {rE : Int32} (hf : fX9_isPlace s0 a1 = some rE) : am_Ct l (d + 2) mX9_isPlace [.inr (.inr ((10, 0, 0), 215)), .inr (.inl a1)] s0 s0 (some (.inl rE)) := by
  refine am_sim l (d + 1) (code := kX9_isPlace) (by decide +kernel) wX9_isPlace qX9_isPlace (Nat.le_of_ble_eq_true rfl) ?_
  intro X hX
  show X 0 [(0, .inr (.inr ((10, 0, 0), 215))), (1, .inr (.inl a1))] [] s0
  unfold fX9_isPlace at hf
  obtain ⟨g1, hf⟩ := am_g_of hf
  obtain ⟨v2, hcv2, hf⟩ := am_r_of hf
  obtain ⟨g3, hf⟩ := am_g_of hf
  refine am_blk hX 0 11 (And.intro rfl (And.intro rfl (And.intro g1 (And.intro rfl (Exists.intro s0 (Exists.intro (some (.inl v2)) (And.intro (tX9_in l (d + 0) hcv2) (And.intro g3 (am_rpi hf)))))))))
def fX9_laysWays_L200 (x4 : Int32) (x8 : Int32) (J283 : AS → Option (AS × Unit)) : Nat → AS → Int32 → Option (AS × Unit)
  | 0, _, _ => none
  | n200 + 1, s11, x12 =>
    if (7 : Int32) ≤ x12 then (J283 s11) else (am_g (¬ ((((7 : Int32) * x8) + x4) < 0 ∨ 49 ≤ (((7 : Int32) * x8) + x4).toNatClampNeg)) (am_g (¬ ((((7 : Int32) * x4) + x12) < 0 ∨ 49 ≤ (((7 : Int32) * x4) + x12).toNatClampNeg)) (am_g (¬ ((((7 : Int32) * x8) + x12) < 0 ∨ 49 ≤ (((7 : Int32) * x8) + x12).toNatClampNeg)) (am_let (fun (s16 : AS) => am_let (x12 + (1 : Int32)) (fun (x17 : Int32) => fX9_laysWays_L200 x4 x8 J283 n200 s16 x17)) (fun J277 => if (s11.1 228 ((((7 : Int32) * x8) + x12).toNatClampNeg)) ≤ ((s11.1 228 ((((7 : Int32) * x8) + x4).toNatClampNeg)) + (s11.1 228 ((((7 : Int32) * x4) + x12).toNatClampNeg))) then (J277 s11) else (am_g (¬ ((((7 : Int32) * x8) + x4) < 0 ∨ 49 ≤ (((7 : Int32) * x8) + x4).toNatClampNeg)) (am_g (¬ ((((7 : Int32) * x4) + x12) < 0 ∨ 49 ≤ (((7 : Int32) * x4) + x12).toNatClampNeg)) (am_g (¬ ((((7 : Int32) * x8) + x12) < 0 ∨ 49 ≤ (((7 : Int32) * x8) + x12).toNatClampNeg)) (am_let (am_si s11 228 ((((7 : Int32) * x8) + x12).toNatClampNeg) ((s11.1 228 ((((7 : Int32) * x8) + x4).toNatClampNeg)) + (s11.1 228 ((((7 : Int32) * x4) + x12).toNatClampNeg)))) (fun (s21 : AS) => J277 s21))))))))))
def fX9_laysWays_L192 (x4 : Int32) (J289 : AS → Option (AS × Unit)) : Nat → AS → Int32 → Option (AS × Unit)
  | 0, _, _ => none
  | n192 + 1, s7, x8 =>
    if (7 : Int32) ≤ x8 then (J289 s7) else (am_let (fun (s9 : AS) => am_let (x8 + (1 : Int32)) (fun (x10 : Int32) => fX9_laysWays_L192 x4 J289 n192 s9 x10)) (fun J283 => fX9_laysWays_L200 x4 x8 J283 am_fu s7 (0 : Int32)))
def fX9_laysWays_L184 : Nat → AS → Int32 → Option (AS × Unit)
  | 0, _, _ => none
  | n184 + 1, s3, x4 =>
    if (7 : Int32) ≤ x4 then (some (s3, ())) else (am_let (fun (s5 : AS) => am_let (x4 + (1 : Int32)) (fun (x6 : Int32) => fX9_laysWays_L184 n184 s5 x6)) (fun J289 => fX9_laysWays_L192 x4 J289 am_fu s3 (0 : Int32)))
def fX9_laysWays_L52 (J182 : AS → Option (AS × Unit)) : Nat → AS → Int32 → Option (AS × Unit)
  | 0, _, _ => none
  | n52 + 1, s22, x23 =>
    am_g (¬ ((4 : Int32) < 0 ∨ 35 ≤ (4 : Int32).toNatClampNeg)) (if (s22.1 222 ((4 : Int32).toNatClampNeg)) ≤ x23 then (J182 s22) else (am_r (fX9_isBit (s22.1 215 24) x23) (fun (v25 : Int32) => am_let (fun (s26 : AS) => am_let (x23 + (1 : Int32)) (fun (x27 : Int32) => fX9_laysWays_L52 J182 n52 s26 x27)) (fun J176 => if v25 = 0 then (am_g (¬ (((3 : Int32) * x23) < 0 ∨ 150 ≤ ((3 : Int32) * x23).toNatClampNeg)) (am_g (¬ ((((3 : Int32) * x23) + (1 : Int32)) < 0 ∨ 150 ≤ (((3 : Int32) * x23) + (1 : Int32)).toNatClampNeg)) (am_let (((7 : Int32) * (s22.1 223 (((3 : Int32) * x23).toNatClampNeg))) + (s22.1 223 ((((3 : Int32) * x23) + (1 : Int32)).toNatClampNeg))) (fun (x30 : Int32) => am_g (¬ ((((3 : Int32) * x23) + (1 : Int32)) < 0 ∨ 150 ≤ (((3 : Int32) * x23) + (1 : Int32)).toNatClampNeg)) (am_g (¬ (((3 : Int32) * x23) < 0 ∨ 150 ≤ ((3 : Int32) * x23).toNatClampNeg)) (am_let (((7 : Int32) * (s22.1 223 ((((3 : Int32) * x23) + (1 : Int32)).toNatClampNeg))) + (s22.1 223 (((3 : Int32) * x23).toNatClampNeg))) (fun (x33 : Int32) => am_g (¬ ((((3 : Int32) * x23) + (2 : Int32)) < 0 ∨ 150 ≤ (((3 : Int32) * x23) + (2 : Int32)).toNatClampNeg)) (am_g (¬ (x30 < 0 ∨ 49 ≤ x30.toNatClampNeg)) (if (s22.1 223 ((((3 : Int32) * x23) + (2 : Int32)).toNatClampNeg)) < (s22.1 228 x30.toNatClampNeg) then (am_g (¬ ((((3 : Int32) * x23) + (2 : Int32)) < 0 ∨ 150 ≤ (((3 : Int32) * x23) + (2 : Int32)).toNatClampNeg)) (am_g (¬ (x30 < 0 ∨ 49 ≤ x30.toNatClampNeg)) (am_let (am_si s22 228 (x30.toNatClampNeg) (s22.1 223 ((((3 : Int32) * x23) + (2 : Int32)).toNatClampNeg))) (fun (s38 : AS) => am_g (¬ ((((3 : Int32) * x23) + (2 : Int32)) < 0 ∨ 150 ≤ (((3 : Int32) * x23) + (2 : Int32)).toNatClampNeg)) (am_g (¬ (x33 < 0 ∨ 49 ≤ x33.toNatClampNeg)) (am_let (am_si s38 228 (x33.toNatClampNeg) (s38.1 223 ((((3 : Int32) * x23) + (2 : Int32)).toNatClampNeg))) (fun (s41 : AS) => J176 s41))))))) else (J176 s22)))))))))) else (J176 s22)))))
def fX9_laysWays_L10 (x43 : Int32) (J44 : AS → Option (AS × Unit)) : Nat → AS → Int32 → Option (AS × Unit)
  | 0, _, _ => none
  | n10 + 1, s46, x47 =>
    if (7 : Int32) ≤ x47 then (J44 s46) else (am_let (fun (x48 : Int32) => am_g (¬ ((((7 : Int32) * x43) + x47) < 0 ∨ 49 ≤ (((7 : Int32) * x43) + x47).toNatClampNeg)) (am_let (am_si s46 228 ((((7 : Int32) * x43) + x47).toNatClampNeg) x48) (fun (s50 : AS) => am_let (x47 + (1 : Int32)) (fun (x51 : Int32) => fX9_laysWays_L10 x43 J44 n10 s50 x51)))) (fun J37 => if x43 = x47 then (J37 (0 : Int32)) else (J37 (100000 : Int32))))
def fX9_laysWays_L2 (J50 : AS → Option (AS × Unit)) : Nat → AS → Int32 → Option (AS × Unit)
  | 0, _, _ => none
  | n2 + 1, s42, x43 =>
    if (7 : Int32) ≤ x43 then (J50 s42) else (am_let (fun (s44 : AS) => am_let (x43 + (1 : Int32)) (fun (x45 : Int32) => fX9_laysWays_L2 J50 n2 s44 x45)) (fun J44 => fX9_laysWays_L10 x43 J44 am_fu s42 (0 : Int32)))
def fX9_laysWays (s0 : AS) : Option (AS × Unit) :=
  am_let (fun (s1 : AS) => am_let (fun (s2 : AS) => fX9_laysWays_L184 am_fu s2 (0 : Int32)) (fun J182 => fX9_laysWays_L52 J182 am_fu s1 (0 : Int32))) (fun J50 => fX9_laysWays_L2 J50 am_fu s0 (0 : Int32))
def kX9_laysWays : List (Nat × Instr × Nat) := [(0, .iconst 0, 1), (1, .istore_n 1, 1), (2, .iload_n 1, 1), (3, .bipush 7, 2), (5, .if_icmp .ge 45, 3), (8, .iconst 0, 1), (9, .istore_n 2, 1), (10, .iload_n 2, 1), (11, .bipush 7, 2), (13, .if_icmp .ge 31, 3), (16, .aload_n 0, 1), (17, .getfield 53, 3), (20, .bipush 7, 2), (22, .iload_n 1, 1), (23, .imul, 1), (24, .iload_n 2, 1), (25, .iadd, 1), (26, .iload_n 1, 1), (27, .iload_n 2, 1), (28, .if_icmp .ne 7, 3), (31, .iconst 0, 1), (32, .goto 5, 3), (35, .ldc 130, 2), (37, .iastore, 1), (38, .iinc 2 1, 3), (41, .goto (-31), 3), (44, .iinc 1 1, 3), (47, .goto (-45), 3), (50, .iconst 0, 1), (51, .istore_n 1, 1), (52, .iload_n 1, 1), (53, .aload_n 0, 1), (54, .getfield 34, 3), (57, .iconst 4, 1), (58, .iaload, 1), (59, .if_icmp .ge 123, 3), (62, .aload_n 0, 1), (63, .getfield 259, 3), (66, .iload_n 1, 1), (67, .invokestatic 280, 3), (70, .ifCond .eq 6, 3), (73, .goto 103, 3), (76, .bipush 7, 2), (78, .aload_n 0, 1), (79, .getfield 37, 3), (82, .iconst 3, 1), (83, .iload_n 1, 1), (84, .imul, 1), (85, .iaload, 1), (86, .imul, 1), (87, .aload_n 0, 1), (88, .getfield 37, 3), (91, .iconst 3, 1), (92, .iload_n 1, 1), (93, .imul, 1), (94, .iconst 1, 1), (95, .iadd, 1), (96, .iaload, 1), (97, .iadd, 1), (98, .istore_n 2, 1), (99, .bipush 7, 2), (101, .aload_n 0, 1), (102, .getfield 37, 3), (105, .iconst 3, 1), (106, .iload_n 1, 1), (107, .imul, 1), (108, .iconst 1, 1), (109, .iadd, 1), (110, .iaload, 1), (111, .imul, 1), (112, .aload_n 0, 1), (113, .getfield 37, 3), (116, .iconst 3, 1), (117, .iload_n 1, 1), (118, .imul, 1), (119, .iaload, 1), (120, .iadd, 1), (121, .istore_n 3, 1), (122, .aload_n 0, 1), (123, .getfield 37, 3), (126, .iconst 3, 1), (127, .iload_n 1, 1), (128, .imul, 1), (129, .iconst 2, 1), (130, .iadd, 1), (131, .iaload, 1), (132, .aload_n 0, 1), (133, .getfield 53, 3), (136, .iload_n 2, 1), (137, .iaload, 1), (138, .if_icmp .lt 6, 3), (141, .goto 35, 3), (144, .aload_n 0, 1), (145, .getfield 53, 3), (148, .iload_n 2, 1), (149, .aload_n 0, 1), (150, .getfield 37, 3), (153, .iconst 3, 1), (154, .iload_n 1, 1), (155, .imul, 1), (156, .iconst 2, 1), (157, .iadd, 1), (158, .iaload, 1), (159, .iastore, 1), (160, .aload_n 0, 1), (161, .getfield 53, 3), (164, .iload_n 3, 1), (165, .aload_n 0, 1), (166, .getfield 37, 3), (169, .iconst 3, 1), (170, .iload_n 1, 1), (171, .imul, 1), (172, .iconst 2, 1), (173, .iadd, 1), (174, .iaload, 1), (175, .iastore, 1), (176, .iinc 1 1, 3), (179, .goto (-127), 3), (182, .iconst 0, 1), (183, .istore_n 1, 1), (184, .iload_n 1, 1), (185, .bipush 7, 2), (187, .if_icmp .ge 108, 3), (190, .iconst 0, 1), (191, .istore_n 2, 1), (192, .iload_n 2, 1), (193, .bipush 7, 2), (195, .if_icmp .ge 94, 3), (198, .iconst 0, 1), (199, .istore_n 3, 1), (200, .iload_n 3, 1), (201, .bipush 7, 2), (203, .if_icmp .ge 80, 3), (206, .aload_n 0, 1), (207, .getfield 53, 3), (210, .bipush 7, 2), (212, .iload_n 2, 1), (213, .imul, 1), (214, .iload_n 1, 1), (215, .iadd, 1), (216, .iaload, 1), (217, .aload_n 0, 1), (218, .getfield 53, 3), (221, .bipush 7, 2), (223, .iload_n 1, 1), (224, .imul, 1), (225, .iload_n 3, 1), (226, .iadd, 1), (227, .iaload, 1), (228, .iadd, 1), (229, .aload_n 0, 1), (230, .getfield 53, 3), (233, .bipush 7, 2), (235, .iload_n 2, 1), (236, .imul, 1), (237, .iload_n 3, 1), (238, .iadd, 1), (239, .iaload, 1), (240, .if_icmp .ge 37, 3), (243, .aload_n 0, 1), (244, .getfield 53, 3), (247, .bipush 7, 2), (249, .iload_n 2, 1), (250, .imul, 1), (251, .iload_n 3, 1), (252, .iadd, 1), (253, .aload_n 0, 1), (254, .getfield 53, 3), (257, .bipush 7, 2), (259, .iload_n 2, 1), (260, .imul, 1), (261, .iload_n 1, 1), (262, .iadd, 1), (263, .iaload, 1), (264, .aload_n 0, 1), (265, .getfield 53, 3), (268, .bipush 7, 2), (270, .iload_n 1, 1), (271, .imul, 1), (272, .iload_n 3, 1), (273, .iadd, 1), (274, .iaload, 1), (275, .iadd, 1), (276, .iastore, 1), (277, .iinc 3 1, 3), (280, .goto (-80), 3), (283, .iinc 2 1, 3), (286, .goto (-94), 3), (289, .iinc 1 1, 3), (292, .goto (-108), 3), (295, .return_, 1)]
theorem qX9_laysWays : ∀ q ∈ kX9_laysWays, decode mX9_laysWays.2.2.1 q.1 = .ok (q.2.1, q.2.2) ∧ am_iok mX9_laysWays.2.2.2.1 q.1 q.2.1 q.2.2 = true := by decide +kernel
set_option maxRecDepth 100000 in
theorem wX9_laysWays : Cond.code mX9_laysWays.2.1 mX9_laysWays.2.2.1 mX9_laysWays.2.2.2.1 mX9_laysWays.2.2.2.2.1 ∈ am_T := List.mem_filter.mpr ⟨List.mem_of_getElem? (i := 1635) rfl, rfl⟩
set_option maxHeartbeats 4000000 in
set_option maxRecDepth 100000 in
theorem tX9_laysWays (l : Launch) (d : Nat) {s0 : AS} {sE : AS} {rE : Unit} (hf : fX9_laysWays s0 = some (sE, rE)) : am_Ct l (d + 2) mX9_laysWays [.inr (.inr ((10, 0, 0), 215))] s0 sE none := by
  refine am_sim l (d + 1) (code := kX9_laysWays) (by decide +kernel) wX9_laysWays qX9_laysWays (Nat.le_of_ble_eq_true rfl) ?_
  intro X hX
  show X 0 [(0, .inr (.inr ((10, 0, 0), 215)))] [] s0
  unfold fX9_laysWays at hf
  refine am_jn hf (fun J50 => ∀ (s1 : AS), J50 s1 = some (sE, rE) → X 50 [(0, .inr (.inr ((10, 0, 0), 215)))] [] s1) ?_ ?_
  · intro s1 hf
    refine am_jn hf (fun J182 => ∀ (s2 : AS), J182 s2 = some (sE, rE) → X 182 [(0, .inr (.inr ((10, 0, 0), 215)))] [] s2) ?_ ?_
    · intro s2 hf
      have hL184 : ∀ (n184 : Nat) (s3 : AS) (x4 : Int32), fX9_laysWays_L184 n184 s3 x4 = some (sE, rE) → X 184 [(0, .inr (.inr ((10, 0, 0), 215))), (1, .inl x4)] [] s3 := by
        intro n184
        induction n184 with
        | zero => intro s3 x4 hf; exact am_no (show none = some _ from hf)
        | succ n184 ih184 =>
          intro s3 x4 hf
          refine am_blk hX 120 3 (And.intro (fun hb => ?_) (fun hb => ?_))
          · have hf := am_it hf hb
            show X 295 [(0, .inr (.inr ((10, 0, 0), 215))), (1, .inl x4)] [] s3
            refine am_blk hX 190 1 (And.intro rfl (am_rv hf))
          · have hf := am_if hf hb
            show X 190 [(0, .inr (.inr ((10, 0, 0), 215))), (1, .inl x4)] [] s3
            refine am_jn hf (fun J289 => ∀ (s5 : AS), J289 s5 = some (sE, rE) → X 289 [(0, .inr (.inr ((10, 0, 0), 215))), (1, .inl x4)] [] s5) ?_ ?_
            · intro s5 hf
              refine am_blk hX 188 1 (am_nl (Z := fun x6 => X 292 [(1, .inl x6), (0, .inr (.inr ((10, 0, 0), 215)))] [] s5) hf (fun x6 hf => ?_))
              refine am_blk hX 189 1 (?_)
              show X 184 [(1, .inl x6), (0, .inr (.inr ((10, 0, 0), 215)))] [] s5
              exact am_wk hX [1, 0] (ih184 s5 x6 hf)
            · intro J289 hJ289 hf
              have hL192 : ∀ (n192 : Nat) (s7 : AS) (x8 : Int32), fX9_laysWays_L192 x4 J289 n192 s7 x8 = some (sE, rE) → X 192 [(0, .inr (.inr ((10, 0, 0), 215))), (1, .inl x4), (2, .inl x8)] [] s7 := by
                intro n192
                induction n192 with
                | zero => intro s7 x8 hf; exact am_no (show none = some _ from hf)
                | succ n192 ih192 =>
                  intro s7 x8 hf
                  refine am_blk hX 125 3 (And.intro (fun hb => ?_) (fun hb => ?_))
                  · have hf := am_it hf hb
                    show X 289 [(0, .inr (.inr ((10, 0, 0), 215))), (1, .inl x4), (2, .inl x8)] [] s7
                    exact am_wk hX [0, 1] (hJ289 s7 hf)
                  · have hf := am_if hf hb
                    show X 198 [(0, .inr (.inr ((10, 0, 0), 215))), (1, .inl x4), (2, .inl x8)] [] s7
                    refine am_jn hf (fun J283 => ∀ (s9 : AS), J283 s9 = some (sE, rE) → X 283 [(0, .inr (.inr ((10, 0, 0), 215))), (1, .inl x4), (2, .inl x8)] [] s9) ?_ ?_
                    · intro s9 hf
                      refine am_blk hX 186 1 (am_nl (Z := fun x10 => X 286 [(2, .inl x10), (0, .inr (.inr ((10, 0, 0), 215))), (1, .inl x4)] [] s9) hf (fun x10 hf => ?_))
                      refine am_blk hX 187 1 (?_)
                      show X 192 [(2, .inl x10), (0, .inr (.inr ((10, 0, 0), 215))), (1, .inl x4)] [] s9
                      exact am_wk hX [1, 2, 0] (ih192 s9 x10 hf)
                    · intro J283 hJ283 hf
                      have hL200 : ∀ (n200 : Nat) (s11 : AS) (x12 : Int32), fX9_laysWays_L200 x4 x8 J283 n200 s11 x12 = some (sE, rE) → X 200 [(0, .inr (.inr ((10, 0, 0), 215))), (1, .inl x4), (2, .inl x8), (3, .inl x12)] [] s11 := by
                        intro n200
                        induction n200 with
                        | zero => intro s11 x12 hf; exact am_no (show none = some _ from hf)
                        | succ n200 ih200 =>
                          intro s11 x12 hf
                          refine am_blk hX 130 3 (And.intro (fun hb => ?_) (fun hb => ?_))
                          · have hf := am_it hf hb
                            show X 283 [(0, .inr (.inr ((10, 0, 0), 215))), (1, .inl x4), (2, .inl x8), (3, .inl x12)] [] s11
                            exact am_wk hX [0, 1, 2] (hJ283 s11 hf)
                          · have hf := am_if hf hb
                            show X 206 [(0, .inr (.inr ((10, 0, 0), 215))), (1, .inl x4), (2, .inl x8), (3, .inl x12)] [] s11
                            obtain ⟨g13, hf⟩ := am_g_of hf
                            obtain ⟨g14, hf⟩ := am_g_of hf
                            obtain ⟨g15, hf⟩ := am_g_of hf
                            refine am_jn hf (fun J277 => ∀ (s16 : AS), J277 s16 = some (sE, rE) → X 277 [(0, .inr (.inr ((10, 0, 0), 215))), (1, .inl x4), (2, .inl x8), (3, .inl x12)] [] s16) ?_ ?_
                            · intro s16 hf
                              refine am_blk hX 184 1 (am_nl (Z := fun x17 => X 280 [(3, .inl x17), (0, .inr (.inr ((10, 0, 0), 215))), (1, .inl x4), (2, .inl x8)] [] s16) hf (fun x17 hf => ?_))
                              refine am_blk hX 185 1 (?_)
                              show X 200 [(3, .inl x17), (0, .inr (.inr ((10, 0, 0), 215))), (1, .inl x4), (2, .inl x8)] [] s16
                              exact am_wk hX [1, 2, 3, 0] (ih200 s16 x17 hf)
                            · intro J277 hJ277 hf
                              refine am_blk hX 133 26 (And.intro rfl (And.intro rfl (And.intro g13 (And.intro rfl (And.intro rfl (And.intro g14 (And.intro rfl (And.intro rfl (And.intro g15 (And.intro (fun hb => ?_) (fun hb => ?_)))))))))))
                              · have hf := am_it hf hb
                                show X 277 [(0, .inr (.inr ((10, 0, 0), 215))), (1, .inl x4), (2, .inl x8), (3, .inl x12)] [] s11
                                exact am_wk hX [0, 1, 2, 3] (hJ277 s11 hf)
                              · have hf := am_if hf hb
                                show X 243 [(0, .inr (.inr ((10, 0, 0), 215))), (1, .inl x4), (2, .inl x8), (3, .inl x12)] [] s11
                                obtain ⟨g18, hf⟩ := am_g_of hf
                                obtain ⟨g19, hf⟩ := am_g_of hf
                                obtain ⟨g20, hf⟩ := am_g_of hf
                                refine am_blk hX 159 25 (And.intro rfl (And.intro rfl (And.intro rfl (And.intro g18 (And.intro rfl (And.intro rfl (And.intro g19 (And.intro rfl (And.intro g20 (am_nl (Z := fun s21 => X 277 [(0, .inr (.inr ((10, 0, 0), 215))), (1, .inl x4), (2, .inl x8), (3, .inl x12)] [] s21) hf (fun s21 hf => ?_)))))))))))
                                exact am_wk hX [0, 1, 2, 3] (hJ277 s21 hf)
                      refine am_blk hX 128 2 (?_)
                      show X 200 [(3, .inl (0 : Int32)), (0, .inr (.inr ((10, 0, 0), 215))), (1, .inl x4), (2, .inl x8)] [] s7
                      exact am_wk hX [1, 2, 3, 0] (hL200 am_fu s7 (0 : Int32) hf)
              refine am_blk hX 123 2 (?_)
              show X 192 [(2, .inl (0 : Int32)), (0, .inr (.inr ((10, 0, 0), 215))), (1, .inl x4)] [] s3
              exact am_wk hX [1, 2, 0] (hL192 am_fu s3 (0 : Int32) hf)
      refine am_blk hX 118 2 (?_)
      show X 184 [(1, .inl (0 : Int32)), (0, .inr (.inr ((10, 0, 0), 215)))] [] s2
      exact am_wk hX [1, 0] (hL184 am_fu s2 (0 : Int32) hf)
    · intro J182 hJ182 hf
      have hL52 : ∀ (n52 : Nat) (s22 : AS) (x23 : Int32), fX9_laysWays_L52 J182 n52 s22 x23 = some (sE, rE) → X 52 [(0, .inr (.inr ((10, 0, 0), 215))), (1, .inl x23)] [] s22 := by
        intro n52
        induction n52 with
        | zero => intro s22 x23 hf; exact am_no (show none = some _ from hf)
        | succ n52 ih52 =>
          intro s22 x23 hf
          obtain ⟨g24, hf⟩ := am_g_of hf
          refine am_blk hX 30 6 (And.intro rfl (And.intro rfl (And.intro g24 (And.intro (fun hb => ?_) (fun hb => ?_)))))
          · have hf := am_it hf hb
            show X 182 [(0, .inr (.inr ((10, 0, 0), 215))), (1, .inl x23)] [] s22
            exact am_wk hX [0] (hJ182 s22 hf)
          · have hf := am_if hf hb
            show X 62 [(0, .inr (.inr ((10, 0, 0), 215))), (1, .inl x23)] [] s22
            obtain ⟨v25, hcv25, hf⟩ := am_r_of hf
            refine am_jn hf (fun J176 => ∀ (s26 : AS), J176 s26 = some (sE, rE) → X 176 [(0, .inr (.inr ((10, 0, 0), 215))), (1, .inl x23)] [] s26) ?_ ?_
            · intro s26 hf
              refine am_blk hX 116 1 (am_nl (Z := fun x27 => X 179 [(1, .inl x27), (0, .inr (.inr ((10, 0, 0), 215)))] [] s26) hf (fun x27 hf => ?_))
              refine am_blk hX 117 1 (?_)
              show X 52 [(1, .inl x27), (0, .inr (.inr ((10, 0, 0), 215)))] [] s26
              exact am_wk hX [1, 0] (ih52 s26 x27 hf)
            · intro J176 hJ176 hf
              refine am_blk hX 36 5 (And.intro rfl (And.intro rfl (Exists.intro s22 (Exists.intro (some (.inl v25)) (And.intro (tX9_isBit l (d + 0) hcv25) (And.intro (fun hb => ?_) (fun hb => ?_)))))))
              · have hf := am_it hf hb
                show X 76 [(0, .inr (.inr ((10, 0, 0), 215))), (1, .inl x23)] [] s22
                obtain ⟨g28, hf⟩ := am_g_of hf
                obtain ⟨g29, hf⟩ := am_g_of hf
                refine am_blk hX 42 18 (And.intro rfl (And.intro rfl (And.intro g28 (And.intro rfl (And.intro rfl (And.intro g29 (am_nl (Z := fun x30 => X 99 [(2, .inl x30), (0, .inr (.inr ((10, 0, 0), 215))), (1, .inl x23)] [] s22) hf (fun x30 hf => ?_))))))))
                obtain ⟨g31, hf⟩ := am_g_of hf
                obtain ⟨g32, hf⟩ := am_g_of hf
                refine am_blk hX 60 18 (And.intro rfl (And.intro rfl (And.intro g31 (And.intro rfl (And.intro rfl (And.intro g32 (am_nl (Z := fun x33 => X 122 [(3, .inl x33), (2, .inl x30), (0, .inr (.inr ((10, 0, 0), 215))), (1, .inl x23)] [] s22) hf (fun x33 hf => ?_))))))))
                obtain ⟨g34, hf⟩ := am_g_of hf
                obtain ⟨g35, hf⟩ := am_g_of hf
                refine am_blk hX 78 13 (And.intro rfl (And.intro rfl (And.intro g34 (And.intro rfl (And.intro rfl (And.intro g35 (And.intro (fun hb => ?_) (fun hb => ?_))))))))
                · have hf := am_it hf hb
                  show X 144 [(3, .inl x33), (2, .inl x30), (0, .inr (.inr ((10, 0, 0), 215))), (1, .inl x23)] [] s22
                  obtain ⟨g36, hf⟩ := am_g_of hf
                  obtain ⟨g37, hf⟩ := am_g_of hf
                  refine am_blk hX 92 12 (And.intro rfl (And.intro rfl (And.intro rfl (And.intro g36 (And.intro rfl (And.intro g37 (am_nl (Z := fun s38 => X 160 [(3, .inl x33), (2, .inl x30), (0, .inr (.inr ((10, 0, 0), 215))), (1, .inl x23)] [] s38) hf (fun s38 hf => ?_))))))))
                  obtain ⟨g39, hf⟩ := am_g_of hf
                  obtain ⟨g40, hf⟩ := am_g_of hf
                  refine am_blk hX 104 12 (And.intro rfl (And.intro rfl (And.intro rfl (And.intro g39 (And.intro rfl (And.intro g40 (am_nl (Z := fun s41 => X 176 [(3, .inl x33), (2, .inl x30), (0, .inr (.inr ((10, 0, 0), 215))), (1, .inl x23)] [] s41) hf (fun s41 hf => ?_))))))))
                  exact am_wk hX [2, 3] (hJ176 s41 hf)
                · have hf := am_if hf hb
                  show X 141 [(3, .inl x33), (2, .inl x30), (0, .inr (.inr ((10, 0, 0), 215))), (1, .inl x23)] [] s22
                  refine am_blk hX 91 1 (?_)
                  show X 176 [(3, .inl x33), (2, .inl x30), (0, .inr (.inr ((10, 0, 0), 215))), (1, .inl x23)] [] s22
                  exact am_wk hX [2, 3] (hJ176 s22 hf)
              · have hf := am_if hf hb
                show X 73 [(0, .inr (.inr ((10, 0, 0), 215))), (1, .inl x23)] [] s22
                refine am_blk hX 41 1 (?_)
                show X 176 [(0, .inr (.inr ((10, 0, 0), 215))), (1, .inl x23)] [] s22
                exact am_wk hX [0, 1] (hJ176 s22 hf)
      refine am_blk hX 28 2 (?_)
      show X 52 [(1, .inl (0 : Int32)), (0, .inr (.inr ((10, 0, 0), 215)))] [] s1
      exact am_wk hX [1, 0] (hL52 am_fu s1 (0 : Int32) hf)
  · intro J50 hJ50 hf
    have hL2 : ∀ (n2 : Nat) (s42 : AS) (x43 : Int32), fX9_laysWays_L2 J50 n2 s42 x43 = some (sE, rE) → X 2 [(0, .inr (.inr ((10, 0, 0), 215))), (1, .inl x43)] [] s42 := by
      intro n2
      induction n2 with
      | zero => intro s42 x43 hf; exact am_no (show none = some _ from hf)
      | succ n2 ih2 =>
        intro s42 x43 hf
        refine am_blk hX 2 3 (And.intro (fun hb => ?_) (fun hb => ?_))
        · have hf := am_it hf hb
          show X 50 [(0, .inr (.inr ((10, 0, 0), 215))), (1, .inl x43)] [] s42
          exact am_wk hX [0] (hJ50 s42 hf)
        · have hf := am_if hf hb
          show X 8 [(0, .inr (.inr ((10, 0, 0), 215))), (1, .inl x43)] [] s42
          refine am_jn hf (fun J44 => ∀ (s44 : AS), J44 s44 = some (sE, rE) → X 44 [(0, .inr (.inr ((10, 0, 0), 215))), (1, .inl x43)] [] s44) ?_ ?_
          · intro s44 hf
            refine am_blk hX 26 1 (am_nl (Z := fun x45 => X 47 [(1, .inl x45), (0, .inr (.inr ((10, 0, 0), 215)))] [] s44) hf (fun x45 hf => ?_))
            refine am_blk hX 27 1 (?_)
            show X 2 [(1, .inl x45), (0, .inr (.inr ((10, 0, 0), 215)))] [] s44
            exact am_wk hX [1, 0] (ih2 s44 x45 hf)
          · intro J44 hJ44 hf
            have hL10 : ∀ (n10 : Nat) (s46 : AS) (x47 : Int32), fX9_laysWays_L10 x43 J44 n10 s46 x47 = some (sE, rE) → X 10 [(0, .inr (.inr ((10, 0, 0), 215))), (1, .inl x43), (2, .inl x47)] [] s46 := by
              intro n10
              induction n10 with
              | zero => intro s46 x47 hf; exact am_no (show none = some _ from hf)
              | succ n10 ih10 =>
                intro s46 x47 hf
                refine am_blk hX 7 3 (And.intro (fun hb => ?_) (fun hb => ?_))
                · have hf := am_it hf hb
                  show X 44 [(0, .inr (.inr ((10, 0, 0), 215))), (1, .inl x43), (2, .inl x47)] [] s46
                  exact am_wk hX [0, 1] (hJ44 s46 hf)
                · have hf := am_if hf hb
                  show X 16 [(0, .inr (.inr ((10, 0, 0), 215))), (1, .inl x43), (2, .inl x47)] [] s46
                  refine am_jn hf (fun J37 => ∀ (x48 : Int32), J37 x48 = some (sE, rE) → X 37 [(0, .inr (.inr ((10, 0, 0), 215))), (1, .inl x43), (2, .inl x47)] [.inl x48, .inl (((7 : Int32) * x43) + x47), .inr (.inr ((21, 49, 0), 228))] s46) ?_ ?_
                  · intro x48 hf
                    obtain ⟨g49, hf⟩ := am_g_of hf
                    refine am_blk hX 23 1 (And.intro rfl (And.intro g49 (am_nl (Z := fun s50 => X 38 [(0, .inr (.inr ((10, 0, 0), 215))), (1, .inl x43), (2, .inl x47)] [] s50) hf (fun s50 hf => ?_))))
                    refine am_blk hX 24 1 (am_nl (Z := fun x51 => X 41 [(2, .inl x51), (0, .inr (.inr ((10, 0, 0), 215))), (1, .inl x43)] [] s50) hf (fun x51 hf => ?_))
                    refine am_blk hX 25 1 (?_)
                    show X 10 [(2, .inl x51), (0, .inr (.inr ((10, 0, 0), 215))), (1, .inl x43)] [] s50
                    exact am_wk hX [1, 2, 0] (ih10 s50 x51 hf)
                  · intro J37 hJ37 hf
                    refine am_blk hX 10 10 (And.intro rfl (And.intro (fun hb => ?_) (fun hb => ?_)))
                    · have hf := am_if hf hb
                      show X 35 [(0, .inr (.inr ((10, 0, 0), 215))), (1, .inl x43), (2, .inl x47)] [.inl (((7 : Int32) * x43) + x47), .inr (.inr ((21, 49, 0), 228))] s46
                      refine am_blk hX 22 1 (?_)
                      show X 37 [(0, .inr (.inr ((10, 0, 0), 215))), (1, .inl x43), (2, .inl x47)] [.inl (100000 : Int32), .inl (((7 : Int32) * x43) + x47), .inr (.inr ((21, 49, 0), 228))] s46
                      exact am_wk hX [0, 1, 2] (hJ37 (100000 : Int32) hf)
                    · have hf := am_it hf hb
                      show X 31 [(0, .inr (.inr ((10, 0, 0), 215))), (1, .inl x43), (2, .inl x47)] [.inl (((7 : Int32) * x43) + x47), .inr (.inr ((21, 49, 0), 228))] s46
                      refine am_blk hX 20 2 (?_)
                      show X 37 [(0, .inr (.inr ((10, 0, 0), 215))), (1, .inl x43), (2, .inl x47)] [.inl (0 : Int32), .inl (((7 : Int32) * x43) + x47), .inr (.inr ((21, 49, 0), 228))] s46
                      exact am_wk hX [0, 1, 2] (hJ37 (0 : Int32) hf)
            refine am_blk hX 5 2 (?_)
            show X 10 [(2, .inl (0 : Int32)), (0, .inr (.inr ((10, 0, 0), 215))), (1, .inl x43)] [] s42
            exact am_wk hX [1, 2, 0] (hL10 am_fu s42 (0 : Int32) hf)
    refine am_blk hX 0 2 (?_)
    show X 2 [(1, .inl (0 : Int32)), (0, .inr (.inr ((10, 0, 0), 215)))] [] s0
    exact am_wk hX [1, 0] (hL2 am_fu s0 (0 : Int32) hf)
def fX9_arePlaces (s0 : AS) (a1 : Int32) (a2 : Int32) : Option (AS × Int32) :=
  am_r (fX9_isPlace s0 a1.toInt64) (fun (v1 : Int32) => am_let (some (s0, (0 : Int32))) (fun J18 => if v1 = 0 then (J18) else (am_r (fX9_isPlace s0 a2.toInt64) (fun (v2 : Int32) => if v2 = 0 then (J18) else (am_c (fX9_lays s0) (fun (s4 : AS) (v3 : Unit) => am_c (fX9_laysWays s4) (fun (s6 : AS) (v5 : Unit) => some (s6, (1 : Int32)))))))))
def kX9_arePlaces : List (Nat × Instr × Nat) := [(0, .aload_n 0, 1), (1, .iload_n 1, 1), (2, .i2l, 1), (3, .invokevirtual 349, 3), (6, .ifCond .eq 12, 3), (9, .aload_n 0, 1), (10, .iload_n 2, 1), (11, .i2l, 1), (12, .invokevirtual 349, 3), (15, .ifCond .ne 5, 3), (18, .iconst 0, 1), (19, .ireturn, 1), (20, .aload_n 0, 1), (21, .invokevirtual 336, 3), (24, .aload_n 0, 1), (25, .invokevirtual 306, 3), (28, .iconst 1, 1), (29, .ireturn, 1)]
theorem qX9_arePlaces : ∀ q ∈ kX9_arePlaces, decode mX9_arePlaces.2.2.1 q.1 = .ok (q.2.1, q.2.2) ∧ am_iok mX9_arePlaces.2.2.2.1 q.1 q.2.1 q.2.2 = true := by decide +kernel
set_option maxRecDepth 100000 in
theorem wX9_arePlaces : Cond.code mX9_arePlaces.2.1 mX9_arePlaces.2.2.1 mX9_arePlaces.2.2.2.1 mX9_arePlaces.2.2.2.2.1 ∈ am_T := List.mem_filter.mpr ⟨List.mem_of_getElem? (i := 1623) rfl, rfl⟩
set_option maxHeartbeats 4000000 in
set_option maxRecDepth 100000 in
theorem tX9_arePlaces (l : Launch) (d : Nat) {s0 : AS} {a1 : Int32} {a2 : Int32} {sE : AS} {rE : Int32} (hf : fX9_arePlaces s0 a1 a2 = some (sE, rE)) : am_Ct l (d + 3) mX9_arePlaces [.inr (.inr ((10, 0, 0), 215)), .inl a1, .inl a2] s0 sE (some (.inl rE)) := by
  refine am_sim l (d + 2) (code := kX9_arePlaces) (by decide +kernel) wX9_arePlaces qX9_arePlaces (Nat.le_of_ble_eq_true rfl) ?_
  intro X hX
  show X 0 [(0, .inr (.inr ((10, 0, 0), 215))), (1, .inl a1), (2, .inl a2)] [] s0
  unfold fX9_arePlaces at hf
  obtain ⟨v1, hcv1, hf⟩ := am_r_of hf
  refine am_jn hf (fun J18 => J18 = some (sE, rE) → X 18 [] [] s0) ?_ ?_
  · intro hf
    refine am_blk hX 10 2 (And.intro (Or.inl rfl) (am_ri hf))
  · intro J18 hJ18 hf
    refine am_blk hX 0 5 (And.intro rfl (And.intro rfl (Exists.intro s0 (Exists.intro (some (.inl v1)) (And.intro (tX9_isPlace l (d + 0) hcv1) (And.intro (fun hb => ?_) (fun hb => ?_)))))))
    · have hf := am_it hf hb
      show X 18 [(0, .inr (.inr ((10, 0, 0), 215))), (1, .inl a1), (2, .inl a2)] [] s0
      exact am_wk hX [] (hJ18 hf)
    · have hf := am_if hf hb
      show X 9 [(0, .inr (.inr ((10, 0, 0), 215))), (1, .inl a1), (2, .inl a2)] [] s0
      obtain ⟨v2, hcv2, hf⟩ := am_r_of hf
      refine am_blk hX 5 5 (And.intro rfl (And.intro rfl (Exists.intro s0 (Exists.intro (some (.inl v2)) (And.intro (tX9_isPlace l (d + 0) hcv2) (And.intro (fun hb => ?_) (fun hb => ?_)))))))
      · have hf := am_if hf hb
        show X 20 [(0, .inr (.inr ((10, 0, 0), 215))), (1, .inl a1), (2, .inl a2)] [] s0
        obtain ⟨s4, v3, hcv3, hf⟩ := am_c_of hf
        obtain ⟨s6, v5, hcv5, hf⟩ := am_c_of hf
        refine am_blk hX 12 6 (And.intro rfl (And.intro rfl (Exists.intro s4 (Exists.intro none (And.intro (tX9_lays l (d + 1) hcv3) (And.intro rfl (And.intro rfl (Exists.intro s6 (Exists.intro none (And.intro (tX9_laysWays l (d + 0) hcv5) (And.intro (Or.inr rfl) (am_ri hf))))))))))))
      · have hf := am_it hf hb
        show X 18 [(0, .inr (.inr ((10, 0, 0), 215))), (1, .inl a1), (2, .inl a2)] [] s0
        exact am_wk hX [] (hJ18 hf)
def fX9_isSlot (a0 : Int32) : Option Int32 :=
  am_r (fX9_in a0.toInt64 (0 : Int64) (3 : Int64)) (fun (v1 : Int32) => am_g (v1 = 0 ∨ v1 = 1) (some v1))
def kX9_isSlot : List (Nat × Instr × Nat) := [(0, .iload_n 0, 1), (1, .i2l, 1), (2, .lconst 0, 1), (3, .ldc2_w 83, 3), (6, .invokestatic 85, 3), (9, .ireturn, 1)]
theorem qX9_isSlot : ∀ q ∈ kX9_isSlot, decode mX9_isSlot.2.2.1 q.1 = .ok (q.2.1, q.2.2) ∧ am_iok mX9_isSlot.2.2.2.1 q.1 q.2.1 q.2.2 = true := by decide +kernel
set_option maxRecDepth 100000 in
theorem wX9_isSlot : Cond.code mX9_isSlot.2.1 mX9_isSlot.2.2.1 mX9_isSlot.2.2.2.1 mX9_isSlot.2.2.2.2.1 ∈ am_T := List.mem_filter.mpr ⟨List.mem_of_getElem? (i := 1450) rfl, rfl⟩
set_option maxHeartbeats 4000000 in
set_option maxRecDepth 100000 in
theorem tX9_isSlot (l : Launch) (d : Nat) {s0 : AS} {a0 : Int32} {rE : Int32} (hf : fX9_isSlot a0 = some rE) : am_Ct l (d + 2) mX9_isSlot [.inl a0] s0 s0 (some (.inl rE)) := by
  refine am_sim l (d + 1) (code := kX9_isSlot) (by decide +kernel) wX9_isSlot qX9_isSlot (Nat.le_of_ble_eq_true rfl) ?_
  intro X hX
  show X 0 [(0, .inl a0)] [] s0
  unfold fX9_isSlot at hf
  obtain ⟨v1, hcv1, hf⟩ := am_r_of hf
  obtain ⟨g2, hf⟩ := am_g_of hf
  refine am_blk hX 0 6 (And.intro rfl (Exists.intro s0 (Exists.intro (some (.inl v1)) (And.intro (tX9_in l (d + 0) hcv1) (And.intro g2 (am_rpi hf))))))
def fX9_people (s0 : AS) : Option Int32 :=
  am_g (¬ ((5 : Int32) < 0 ∨ 35 ≤ (5 : Int32).toNatClampNeg)) (some (s0.1 222 ((5 : Int32).toNatClampNeg)))
def kX9_people : List (Nat × Instr × Nat) := [(0, .aload_n 0, 1), (1, .getfield 34, 3), (4, .iconst 5, 1), (5, .iaload, 1), (6, .ireturn, 1)]
theorem qX9_people : ∀ q ∈ kX9_people, decode mX9_people.2.2.1 q.1 = .ok (q.2.1, q.2.2) ∧ am_iok mX9_people.2.2.2.1 q.1 q.2.1 q.2.2 = true := by decide +kernel
set_option maxRecDepth 100000 in
theorem wX9_people : Cond.code mX9_people.2.1 mX9_people.2.2.1 mX9_people.2.2.2.1 mX9_people.2.2.2.2.1 ∈ am_T := List.mem_filter.mpr ⟨List.mem_of_getElem? (i := 1614) rfl, rfl⟩
set_option maxHeartbeats 4000000 in
set_option maxRecDepth 100000 in
theorem tX9_people (l : Launch) (d : Nat) {s0 : AS} {rE : Int32} (hf : fX9_people s0 = some rE) : am_Ct l (d + 1) mX9_people [.inr (.inr ((10, 0, 0), 215))] s0 s0 (some (.inl rE)) := by
  refine am_sim l (d + 0) (code := kX9_people) (by decide +kernel) wX9_people qX9_people (Nat.le_of_ble_eq_true rfl) ?_
  intro X hX
  show X 0 [(0, .inr (.inr ((10, 0, 0), 215)))] [] s0
  unfold fX9_people at hf
  obtain ⟨g1, hf⟩ := am_g_of hf
  refine am_blk hX 0 5 (And.intro rfl (And.intro rfl (And.intro g1 (am_rpi hf))))
def fX9_isPerson (s0 : AS) (a1 : Int64) : Option Int32 :=
  am_r (fX9_people s0) (fun (v1 : Int32) => am_r (fX9_in a1 (0 : Int64) (v1.toInt64 - (1 : Int64))) (fun (v2 : Int32) => am_g (v2 = 0 ∨ v2 = 1) (some v2)))
def kX9_isPerson : List (Nat × Instr × Nat) := [(0, .lload_n 1, 1), (1, .lconst 0, 1), (2, .aload_n 0, 1), (3, .invokevirtual 248, 3), (6, .i2l, 1), (7, .lconst 1, 1), (8, .lsub, 1), (9, .invokestatic 85, 3), (12, .ireturn, 1)]
theorem qX9_isPerson : ∀ q ∈ kX9_isPerson, decode mX9_isPerson.2.2.1 q.1 = .ok (q.2.1, q.2.2) ∧ am_iok mX9_isPerson.2.2.2.1 q.1 q.2.1 q.2.2 = true := by decide +kernel
set_option maxRecDepth 100000 in
theorem wX9_isPerson : Cond.code mX9_isPerson.2.1 mX9_isPerson.2.2.1 mX9_isPerson.2.2.2.1 mX9_isPerson.2.2.2.2.1 ∈ am_T := List.mem_filter.mpr ⟨List.mem_of_getElem? (i := 1610) rfl, rfl⟩
set_option maxHeartbeats 4000000 in
set_option maxRecDepth 100000 in
theorem tX9_isPerson (l : Launch) (d : Nat) {s0 : AS} {a1 : Int64} {rE : Int32} (hf : fX9_isPerson s0 a1 = some rE) : am_Ct l (d + 2) mX9_isPerson [.inr (.inr ((10, 0, 0), 215)), .inr (.inl a1)] s0 s0 (some (.inl rE)) := by
  refine am_sim l (d + 1) (code := kX9_isPerson) (by decide +kernel) wX9_isPerson qX9_isPerson (Nat.le_of_ble_eq_true rfl) ?_
  intro X hX
  show X 0 [(0, .inr (.inr ((10, 0, 0), 215))), (1, .inr (.inl a1))] [] s0
  unfold fX9_isPerson at hf
  obtain ⟨v1, hcv1, hf⟩ := am_r_of hf
  obtain ⟨v2, hcv2, hf⟩ := am_r_of hf
  obtain ⟨g3, hf⟩ := am_g_of hf
  refine am_blk hX 0 9 (And.intro rfl (And.intro rfl (Exists.intro s0 (Exists.intro (some (.inl v1)) (And.intro (tX9_people l (d + 0) hcv1) (And.intro rfl (Exists.intro s0 (Exists.intro (some (.inl v2)) (And.intro (tX9_in l (d + 0) hcv2) (And.intro g3 (am_rpi hf)))))))))))
def fX9_whyNotStarts_L46 (a1 : Int32) (s0 : AS) (J99 : Option Int32) : Nat → Int32 → Option Int32
  | 0, _ => none
  | n46 + 1, x6 =>
    am_g (¬ (a1 < 0 ∨ 4 ≤ a1.toNatClampNeg)) (if (s0.1 217 a1.toNatClampNeg) ≤ x6 then (some (0 : Int32)) else (am_g (¬ ((((60 : Int32) * a1) + x6) < 0 ∨ 240 ≤ (((60 : Int32) * a1) + x6).toNatClampNeg)) (am_r (fX9_isPerson s0 (s0.2 218 ((((60 : Int32) * a1) + x6).toNatClampNeg))) (fun (v9 : Int32) => if v9 = 0 then (J99) else (am_g (¬ (((((60 : Int32) * a1) + x6) + (1 : Int32)) < 0 ∨ 240 ≤ ((((60 : Int32) * a1) + x6) + (1 : Int32)).toNatClampNeg)) (am_r (fX9_in (s0.2 218 (((((60 : Int32) * a1) + x6) + (1 : Int32)).toNatClampNeg)) (-1 : Int64) (60 : Int64)) (fun (v11 : Int32) => if v11 = 0 then (J99) else (am_let (x6 + (2 : Int32)) (fun (x12 : Int32) => fX9_whyNotStarts_L46 a1 s0 J99 n46 x12)))))))))
def fX9_whyNotStarts (s0 : AS) (a1 : Int32) : Option Int32 :=
  am_r (fX9_isSlot a1) (fun (v1 : Int32) => am_let (some (-2 : Int32)) (fun J14 => if v1 = 0 then (J14) else (am_r (fX9_isMarch s0) (fun (v2 : Int32) => if v2 = 0 then (J14) else (am_g (¬ (a1 < 0 ∨ 4 ≤ a1.toNatClampNeg)) (if (s0.1 216 a1.toNatClampNeg) = (-1 : Int32) then (some (-6 : Int32)) else (am_g (¬ (a1 < 0 ∨ 4 ≤ a1.toNatClampNeg)) (am_g (¬ (2 : Int32) = 0) (if ((s0.1 217 a1.toNatClampNeg) - (s0.1 217 a1.toNatClampNeg) / (2 : Int32) * (2 : Int32)) = 0 then (am_let (some (-2 : Int32)) (fun J99 => fX9_whyNotStarts_L46 a1 s0 J99 am_fu (0 : Int32))) else (some (-2 : Int32)))))))))))
def kX9_whyNotStarts : List (Nat × Instr × Nat) := [(0, .iload_n 1, 1), (1, .invokestatic 89, 3), (4, .ifCond .eq 10, 3), (7, .aload_n 0, 1), (8, .invokevirtual 251, 3), (11, .ifCond .ne 6, 3), (14, .bipush (-2), 2), (16, .ireturn, 1), (17, .aload_n 0, 1), (18, .getfield 7, 3), (21, .iload_n 1, 1), (22, .iaload, 1), (23, .iconst (-1), 1), (24, .if_icmp .ne 6, 3), (27, .bipush (-6), 2), (29, .ireturn, 1), (30, .aload_n 0, 1), (31, .getfield 13, 3), (34, .iload_n 1, 1), (35, .iaload, 1), (36, .iconst 2, 1), (37, .irem, 1), (38, .ifCond .eq 6, 3), (41, .bipush (-2), 2), (43, .ireturn, 1), (44, .iconst 0, 1), (45, .istore_n 2, 1), (46, .iload_n 2, 1), (47, .aload_n 0, 1), (48, .getfield 13, 3), (51, .iload_n 1, 1), (52, .iaload, 1), (53, .if_icmp .ge 55, 3), (56, .aload_n 0, 1), (57, .aload_n 0, 1), (58, .getfield 16, 3), (61, .bipush 60, 2), (63, .iload_n 1, 1), (64, .imul, 1), (65, .iload_n 2, 1), (66, .iadd, 1), (67, .laload, 1), (68, .invokevirtual 344, 3), (71, .ifCond .eq 28, 3), (74, .aload_n 0, 1), (75, .getfield 16, 3), (78, .bipush 60, 2), (80, .iload_n 1, 1), (81, .imul, 1), (82, .iload_n 2, 1), (83, .iadd, 1), (84, .iconst 1, 1), (85, .iadd, 1), (86, .laload, 1), (87, .ldc2_w 124, 3), (90, .ldc2_w 254, 3), (93, .invokestatic 85, 3), (96, .ifCond .ne 6, 3), (99, .bipush (-2), 2), (101, .ireturn, 1), (102, .iinc 2 2, 3), (105, .goto (-59), 3), (108, .iconst 0, 1), (109, .ireturn, 1)]
theorem qX9_whyNotStarts : ∀ q ∈ kX9_whyNotStarts, decode mX9_whyNotStarts.2.2.1 q.1 = .ok (q.2.1, q.2.2) ∧ am_iok mX9_whyNotStarts.2.2.2.1 q.1 q.2.1 q.2.2 = true := by decide +kernel
set_option maxRecDepth 100000 in
theorem wX9_whyNotStarts : Cond.code mX9_whyNotStarts.2.1 mX9_whyNotStarts.2.2.1 mX9_whyNotStarts.2.2.2.1 mX9_whyNotStarts.2.2.2.2.1 ∈ am_T := List.mem_filter.mpr ⟨List.mem_of_getElem? (i := 1888) rfl, rfl⟩
set_option maxHeartbeats 4000000 in
set_option maxRecDepth 100000 in
theorem tX9_whyNotStarts (l : Launch) (d : Nat) {s0 : AS} {a1 : Int32} {rE : Int32} (hf : fX9_whyNotStarts s0 a1 = some rE) : am_Ct l (d + 3) mX9_whyNotStarts [.inr (.inr ((10, 0, 0), 215)), .inl a1] s0 s0 (some (.inl rE)) := by
  refine am_sim l (d + 2) (code := kX9_whyNotStarts) (by decide +kernel) wX9_whyNotStarts qX9_whyNotStarts (Nat.le_of_ble_eq_true rfl) ?_
  intro X hX
  show X 0 [(0, .inr (.inr ((10, 0, 0), 215))), (1, .inl a1)] [] s0
  unfold fX9_whyNotStarts at hf
  obtain ⟨v1, hcv1, hf⟩ := am_r_of hf
  refine am_jn hf (fun J14 => J14 = some rE → X 14 [] [] s0) ?_ ?_
  · intro hf
    refine am_blk hX 6 2 (am_rpi hf)
  · intro J14 hJ14 hf
    refine am_blk hX 0 3 (And.intro rfl (Exists.intro s0 (Exists.intro (some (.inl v1)) (And.intro (tX9_isSlot l (d + 0) hcv1) (And.intro (fun hb => ?_) (fun hb => ?_))))))
    · have hf := am_it hf hb
      show X 14 [(0, .inr (.inr ((10, 0, 0), 215))), (1, .inl a1)] [] s0
      exact am_wk hX [] (hJ14 hf)
    · have hf := am_if hf hb
      show X 7 [(0, .inr (.inr ((10, 0, 0), 215))), (1, .inl a1)] [] s0
      obtain ⟨v2, hcv2, hf⟩ := am_r_of hf
      refine am_blk hX 3 3 (And.intro rfl (And.intro rfl (Exists.intro s0 (Exists.intro (some (.inl v2)) (And.intro (tX9_isMarch l (d + 1) hcv2) (And.intro (fun hb => ?_) (fun hb => ?_)))))))
      · have hf := am_if hf hb
        show X 17 [(0, .inr (.inr ((10, 0, 0), 215))), (1, .inl a1)] [] s0
        obtain ⟨g3, hf⟩ := am_g_of hf
        refine am_blk hX 8 6 (And.intro rfl (And.intro rfl (And.intro g3 (And.intro (fun hb => ?_) (fun hb => ?_)))))
        · have hf := am_if hf hb
          show X 30 [(0, .inr (.inr ((10, 0, 0), 215))), (1, .inl a1)] [] s0
          obtain ⟨g4, hf⟩ := am_g_of hf
          obtain ⟨g5, hf⟩ := am_g_of hf
          refine am_blk hX 16 7 (And.intro rfl (And.intro rfl (And.intro g4 (And.intro g5 (And.intro (fun hb => ?_) (fun hb => ?_))))))
          · have hf := am_it hf hb
            show X 44 [(0, .inr (.inr ((10, 0, 0), 215))), (1, .inl a1)] [] s0
            refine am_jn hf (fun J99 => J99 = some rE → X 99 [] [] s0) ?_ ?_
            · intro hf
              refine am_blk hX 58 2 (am_rpi hf)
            · intro J99 hJ99 hf
              have hL46 : ∀ (n46 : Nat) (x6 : Int32), fX9_whyNotStarts_L46 a1 s0 J99 n46 x6 = some rE → X 46 [(0, .inr (.inr ((10, 0, 0), 215))), (1, .inl a1), (2, .inl x6)] [] s0 := by
                intro n46
                induction n46 with
                | zero => intro x6 hf; exact am_no (show none = some _ from hf)
                | succ n46 ih46 =>
                  intro x6 hf
                  obtain ⟨g7, hf⟩ := am_g_of hf
                  refine am_blk hX 27 6 (And.intro rfl (And.intro rfl (And.intro g7 (And.intro (fun hb => ?_) (fun hb => ?_)))))
                  · have hf := am_it hf hb
                    show X 108 [(0, .inr (.inr ((10, 0, 0), 215))), (1, .inl a1), (2, .inl x6)] [] s0
                    refine am_blk hX 62 2 (am_rpi hf)
                  · have hf := am_if hf hb
                    show X 56 [(0, .inr (.inr ((10, 0, 0), 215))), (1, .inl a1), (2, .inl x6)] [] s0
                    obtain ⟨g8, hf⟩ := am_g_of hf
                    obtain ⟨v9, hcv9, hf⟩ := am_r_of hf
                    refine am_blk hX 33 11 (And.intro rfl (And.intro rfl (And.intro g8 (And.intro rfl (And.intro rfl (Exists.intro s0 (Exists.intro (some (.inl v9)) (And.intro (tX9_isPerson l (d + 0) hcv9) (And.intro (fun hb => ?_) (fun hb => ?_))))))))))
                    · have hf := am_it hf hb
                      show X 99 [(0, .inr (.inr ((10, 0, 0), 215))), (1, .inl a1), (2, .inl x6)] [] s0
                      exact am_wk hX [] (hJ99 hf)
                    · have hf := am_if hf hb
                      show X 74 [(0, .inr (.inr ((10, 0, 0), 215))), (1, .inl a1), (2, .inl x6)] [] s0
                      obtain ⟨g10, hf⟩ := am_g_of hf
                      obtain ⟨v11, hcv11, hf⟩ := am_r_of hf
                      refine am_blk hX 44 14 (And.intro rfl (And.intro rfl (And.intro g10 (And.intro rfl (Exists.intro s0 (Exists.intro (some (.inl v11)) (And.intro (tX9_in l (d + 1) hcv11) (And.intro (fun hb => ?_) (fun hb => ?_)))))))))
                      · have hf := am_if hf hb
                        show X 102 [(0, .inr (.inr ((10, 0, 0), 215))), (1, .inl a1), (2, .inl x6)] [] s0
                        refine am_blk hX 60 1 (am_nl (Z := fun x12 => X 105 [(2, .inl x12), (0, .inr (.inr ((10, 0, 0), 215))), (1, .inl a1)] [] s0) hf (fun x12 hf => ?_))
                        refine am_blk hX 61 1 (?_)
                        show X 46 [(2, .inl x12), (0, .inr (.inr ((10, 0, 0), 215))), (1, .inl a1)] [] s0
                        exact am_wk hX [1, 2, 0] (ih46 x12 hf)
                      · have hf := am_it hf hb
                        show X 99 [(0, .inr (.inr ((10, 0, 0), 215))), (1, .inl a1), (2, .inl x6)] [] s0
                        exact am_wk hX [] (hJ99 hf)
              refine am_blk hX 25 2 (?_)
              show X 46 [(2, .inl (0 : Int32)), (0, .inr (.inr ((10, 0, 0), 215))), (1, .inl a1)] [] s0
              exact am_wk hX [1, 2, 0] (hL46 am_fu (0 : Int32) hf)
          · have hf := am_if hf hb
            show X 41 [(0, .inr (.inr ((10, 0, 0), 215))), (1, .inl a1)] [] s0
            refine am_blk hX 23 2 (am_rpi hf)
        · have hf := am_it hf hb
          show X 27 [(0, .inr (.inr ((10, 0, 0), 215))), (1, .inl a1)] [] s0
          refine am_blk hX 14 2 (am_rpi hf)
      · have hf := am_it hf hb
        show X 14 [(0, .inr (.inr ((10, 0, 0), 215))), (1, .inl a1)] [] s0
        exact am_wk hX [] (hJ14 hf)
def fX9_reasonOf (s0 : AS) (a1 : Int32) : Option Int32 :=
  am_g (¬ ((((5 : Int32) * a1) + (2 : Int32)) < 0 ∨ 200 ≤ (((5 : Int32) * a1) + (2 : Int32)).toNatClampNeg)) (some (s0.1 224 ((((5 : Int32) * a1) + (2 : Int32)).toNatClampNeg)))
def kX9_reasonOf : List (Nat × Instr × Nat) := [(0, .aload_n 0, 1), (1, .getfield 40, 3), (4, .iconst 5, 1), (5, .iload_n 1, 1), (6, .imul, 1), (7, .iconst 2, 1), (8, .iadd, 1), (9, .iaload, 1), (10, .ireturn, 1)]
theorem qX9_reasonOf : ∀ q ∈ kX9_reasonOf, decode mX9_reasonOf.2.2.1 q.1 = .ok (q.2.1, q.2.2) ∧ am_iok mX9_reasonOf.2.2.2.1 q.1 q.2.1 q.2.2 = true := by decide +kernel
set_option maxRecDepth 100000 in
theorem wX9_reasonOf : Cond.code mX9_reasonOf.2.1 mX9_reasonOf.2.2.1 mX9_reasonOf.2.2.2.1 mX9_reasonOf.2.2.2.2.1 ∈ am_T := List.mem_filter.mpr ⟨List.mem_of_getElem? (i := 1679) rfl, rfl⟩
set_option maxHeartbeats 4000000 in
set_option maxRecDepth 100000 in
theorem tX9_reasonOf (l : Launch) (d : Nat) {s0 : AS} {a1 : Int32} {rE : Int32} (hf : fX9_reasonOf s0 a1 = some rE) : am_Ct l (d + 1) mX9_reasonOf [.inr (.inr ((10, 0, 0), 215)), .inl a1] s0 s0 (some (.inl rE)) := by
  refine am_sim l (d + 0) (code := kX9_reasonOf) (by decide +kernel) wX9_reasonOf qX9_reasonOf (Nat.le_of_ble_eq_true rfl) ?_
  intro X hX
  show X 0 [(0, .inr (.inr ((10, 0, 0), 215))), (1, .inl a1)] [] s0
  unfold fX9_reasonOf at hf
  obtain ⟨g1, hf⟩ := am_g_of hf
  refine am_blk hX 0 9 (And.intro rfl (And.intro rfl (And.intro g1 (am_rpi hf))))
def fX9_sizeOf_L4 : Nat → Int32 → Int32 → Option Int32
  | 0, _, _ => none
  | n4 + 1, x1, x2 =>
    if x2 = 0 then (some x1) else (am_let (x1 + (1 : Int32)) (fun (x3 : Int32) => am_let (x2 &&& (x2 - (1 : Int32))) (fun (x4 : Int32) => fX9_sizeOf_L4 n4 x3 x4)))
def fX9_sizeOf (a0 : Int32) : Option Int32 :=
  fX9_sizeOf_L4 am_fu (0 : Int32) a0
def kX9_sizeOf : List (Nat × Instr × Nat) := [(0, .iconst 0, 1), (1, .istore_n 1, 1), (2, .iload_n 0, 1), (3, .istore_n 2, 1), (4, .iload_n 2, 1), (5, .ifCond .eq 15, 3), (8, .iinc 1 1, 3), (11, .iload_n 2, 1), (12, .iload_n 2, 1), (13, .iconst 1, 1), (14, .isub, 1), (15, .iand, 1), (16, .istore_n 2, 1), (17, .goto (-13), 3), (20, .iload_n 1, 1), (21, .ireturn, 1)]
theorem qX9_sizeOf : ∀ q ∈ kX9_sizeOf, decode mX9_sizeOf.2.2.1 q.1 = .ok (q.2.1, q.2.2) ∧ am_iok mX9_sizeOf.2.2.2.1 q.1 q.2.1 q.2.2 = true := by decide +kernel
set_option maxRecDepth 100000 in
theorem wX9_sizeOf : Cond.code mX9_sizeOf.2.1 mX9_sizeOf.2.2.1 mX9_sizeOf.2.2.2.1 mX9_sizeOf.2.2.2.2.1 ∈ am_T := List.mem_filter.mpr ⟨List.mem_of_getElem? (i := 1682) rfl, rfl⟩
set_option maxHeartbeats 4000000 in
set_option maxRecDepth 100000 in
theorem tX9_sizeOf (l : Launch) (d : Nat) {s0 : AS} {a0 : Int32} {rE : Int32} (hf : fX9_sizeOf a0 = some rE) : am_Ct l (d + 1) mX9_sizeOf [.inl a0] s0 s0 (some (.inl rE)) := by
  refine am_sim l (d + 0) (code := kX9_sizeOf) (by decide +kernel) wX9_sizeOf qX9_sizeOf (Nat.le_of_ble_eq_true rfl) ?_
  intro X hX
  show X 0 [(0, .inl a0)] [] s0
  unfold fX9_sizeOf at hf
  have hL4 : ∀ (n4 : Nat) (x1 : Int32) (x2 : Int32), fX9_sizeOf_L4 n4 x1 x2 = some rE → X 4 [(1, .inl x1), (2, .inl x2)] [] s0 := by
    intro n4
    induction n4 with
    | zero => intro x1 x2 hf; exact am_no (show none = some _ from hf)
    | succ n4 ih4 =>
      intro x1 x2 hf
      refine am_blk hX 4 2 (And.intro (fun hb => ?_) (fun hb => ?_))
      · have hf := am_it hf hb
        show X 20 [(1, .inl x1), (2, .inl x2)] [] s0
        refine am_blk hX 14 2 (am_rpi hf)
      · have hf := am_if hf hb
        show X 8 [(1, .inl x1), (2, .inl x2)] [] s0
        refine am_blk hX 6 1 (am_nl (Z := fun x3 => X 11 [(1, .inl x3), (2, .inl x2)] [] s0) hf (fun x3 hf => ?_))
        refine am_blk hX 7 6 (am_nl (Z := fun x4 => X 17 [(2, .inl x4), (1, .inl x3)] [] s0) hf (fun x4 hf => ?_))
        refine am_blk hX 13 1 (?_)
        show X 4 [(2, .inl x4), (1, .inl x3)] [] s0
        exact am_wk hX [1, 0] (ih4 x3 x4 hf)
  refine am_blk hX 0 4 (?_)
  show X 4 [(2, .inl a0), (1, .inl (0 : Int32)), (0, .inl a0)] [] s0
  exact am_wk hX [1, 0] (hL4 am_fu (0 : Int32) a0 hf)
