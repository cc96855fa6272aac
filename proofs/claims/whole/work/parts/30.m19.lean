/-! METHODS, printed by gen.py. -/
def fX9_stopsOf_L8 (a1 : Int32) : Nat → AS → Int32 → Int32 → Option (AS × Int32)
  | 0, _, _, _ => none
  | n8 + 1, s3, x4, x5 =>
    if (64 : Int32) ≤ x5 then (some (s3, x4)) else (am_let (fun (s6 : AS) (x7 : Int32) => am_let (x5 + (1 : Int32)) (fun (x8 : Int32) => fX9_stopsOf_L8 a1 n8 s6 x7 x8)) (fun J56 => am_let (am_let (am_si s3 215 23 x5) (fun (s9 : AS) => am_c (fX9_runs s9) (fun (s11 : AS) (v10 : Unit) => am_r (fX9_firstAt s11 a1 (0 : Int32)) (fun (v12 : Int32) => if v12 = (-1 : Int32) then (J56 s11 x5) else (J56 s11 x4))))) (fun J35 => if x4 = (-1 : Int32) then (J35) else (am_r (fX9_costOf s3 x5) (fun (v13 : Int32) => am_r (fX9_costOf s3 x4) (fun (v14 : Int32) => if v13 < v14 then (J35) else (J56 s3 x4)))))))
def fX9_stopsOf (s0 : AS) (a1 : Int32) : Option (AS × Int32) :=
  am_c (fX9_lays s0) (fun (s2 : AS) (v1 : Unit) => fX9_stopsOf_L8 a1 am_fu s2 (-1 : Int32) (0 : Int32))
def kX9_stopsOf : List (Nat × Instr × Nat) := [(0, .iconst (-1), 1), (1, .istore_n 2, 1), (2, .aload_n 0, 1), (3, .invokevirtual 336, 3), (6, .iconst 0, 1), (7, .istore_n 3, 1), (8, .iload_n 3, 1), (9, .bipush 64, 2), (11, .if_icmp .ge 51, 3), (14, .iload_n 2, 1), (15, .iconst (-1), 1), (16, .if_icmp .eq 19, 3), (19, .aload_n 0, 1), (20, .iload_n 3, 1), (21, .invokevirtual 370, 3), (24, .aload_n 0, 1), (25, .iload_n 2, 1), (26, .invokevirtual 370, 3), (29, .if_icmp .lt 6, 3), (32, .goto 24, 3), (35, .aload_n 0, 1), (36, .iload_n 3, 1), (37, .putfield 256, 3), (40, .aload_n 0, 1), (41, .invokevirtual 339, 3), (44, .aload_n 0, 1), (45, .iload_n 1, 1), (46, .iconst 0, 1), (47, .invokevirtual 361, 3), (50, .iconst (-1), 1), (51, .if_icmp .ne 5, 3), (54, .iload_n 3, 1), (55, .istore_n 2, 1), (56, .iinc 3 1, 3), (59, .goto (-51), 3), (62, .iload_n 2, 1), (63, .ireturn, 1)]
theorem qX9_stopsOf : ∀ q ∈ kX9_stopsOf, decode mX9_stopsOf.2.2.1 q.1 = .ok (q.2.1, q.2.2) ∧ am_iok mX9_stopsOf.2.2.2.1 q.1 q.2.1 q.2.2 = true := by decide +kernel
set_option maxRecDepth 100000 in
theorem wX9_stopsOf : Cond.code mX9_stopsOf.2.1 mX9_stopsOf.2.2.1 mX9_stopsOf.2.2.2.1 mX9_stopsOf.2.2.2.2.1 ∈ am_T := List.mem_filter.mpr ⟨List.mem_of_getElem? (i := 1830) rfl, rfl⟩
set_option maxHeartbeats 4000000 in
set_option maxRecDepth 100000 in
theorem tX9_stopsOf (l : Launch) (d : Nat) {s0 : AS} {a1 : Int32} {sE : AS} {rE : Int32} (hf : fX9_stopsOf s0 a1 = some (sE, rE)) : am_Ct l (d + 5) mX9_stopsOf [.inr (.inr ((10, 0, 0), 215)), .inl a1] s0 sE (some (.inl rE)) := by
  refine am_sim l (d + 4) (code := kX9_stopsOf) (by decide +kernel) wX9_stopsOf qX9_stopsOf (Nat.le_of_ble_eq_true rfl) ?_
  intro X hX
  show X 0 [(0, .inr (.inr ((10, 0, 0), 215))), (1, .inl a1)] [] s0
  unfold fX9_stopsOf at hf
  obtain ⟨s2, v1, hcv1, hf⟩ := am_c_of hf
  have hL8 : ∀ (n8 : Nat) (s3 : AS) (x4 : Int32) (x5 : Int32), fX9_stopsOf_L8 a1 n8 s3 x4 x5 = some (sE, rE) → X 8 [(0, .inr (.inr ((10, 0, 0), 215))), (1, .inl a1), (2, .inl x4), (3, .inl x5)] [] s3 := by
    intro n8
    induction n8 with
    | zero => intro s3 x4 x5 hf; exact am_no (show none = some _ from hf)
    | succ n8 ih8 =>
      intro s3 x4 x5 hf
      refine am_blk hX 6 3 (And.intro (fun hb => ?_) (fun hb => ?_))
      · have hf := am_it hf hb
        show X 62 [(0, .inr (.inr ((10, 0, 0), 215))), (1, .inl a1), (2, .inl x4), (3, .inl x5)] [] s3
        refine am_blk hX 35 2 (am_ri hf)
      · have hf := am_if hf hb
        show X 14 [(0, .inr (.inr ((10, 0, 0), 215))), (1, .inl a1), (2, .inl x4), (3, .inl x5)] [] s3
        refine am_jn hf (fun J56 => ∀ (s6 : AS) (x7 : Int32), J56 s6 x7 = some (sE, rE) → X 56 [(0, .inr (.inr ((10, 0, 0), 215))), (1, .inl a1), (2, .inl x7), (3, .inl x5)] [] s6) ?_ ?_
        · intro s6 x7 hf
          refine am_blk hX 33 1 (am_nl (Z := fun x8 => X 59 [(3, .inl x8), (0, .inr (.inr ((10, 0, 0), 215))), (1, .inl a1), (2, .inl x7)] [] s6) hf (fun x8 hf => ?_))
          refine am_blk hX 34 1 (?_)
          show X 8 [(3, .inl x8), (0, .inr (.inr ((10, 0, 0), 215))), (1, .inl a1), (2, .inl x7)] [] s6
          exact am_wk hX [1, 2, 3, 0] (ih8 s6 x7 x8 hf)
        · intro J56 hJ56 hf
          refine am_jn hf (fun J35 => J35 = some (sE, rE) → X 35 [(0, .inr (.inr ((10, 0, 0), 215))), (1, .inl a1), (2, .inl x4), (3, .inl x5)] [] s3) ?_ ?_
          · intro hf
            refine am_blk hX 20 3 (And.intro rfl (am_nl (Z := fun s9 => X 40 [(0, .inr (.inr ((10, 0, 0), 215))), (1, .inl a1), (2, .inl x4), (3, .inl x5)] [] s9) hf (fun s9 hf => ?_)))
            obtain ⟨s11, v10, hcv10, hf⟩ := am_c_of hf
            obtain ⟨v12, hcv12, hf⟩ := am_r_of hf
            refine am_blk hX 23 8 (And.intro rfl (And.intro rfl (Exists.intro s11 (Exists.intro none (And.intro (tX9_runs l (d + 0) hcv10) (And.intro rfl (And.intro rfl (Exists.intro s11 (Exists.intro (some (.inl v12)) (And.intro (tX9_firstAt l (d + 3) hcv12) (And.intro (fun hb => ?_) (fun hb => ?_))))))))))))
            · have hf := am_if hf hb
              show X 56 [(0, .inr (.inr ((10, 0, 0), 215))), (1, .inl a1), (2, .inl x4), (3, .inl x5)] [] s11
              exact am_wk hX [0, 1, 2, 3] (hJ56 s11 x4 hf)
            · have hf := am_it hf hb
              show X 54 [(0, .inr (.inr ((10, 0, 0), 215))), (1, .inl a1), (2, .inl x4), (3, .inl x5)] [] s11
              refine am_blk hX 31 2 (?_)
              show X 56 [(2, .inl x5), (0, .inr (.inr ((10, 0, 0), 215))), (1, .inl a1), (3, .inl x5)] [] s11
              exact am_wk hX [1, 2, 0, 3] (hJ56 s11 x5 hf)
          · intro J35 hJ35 hf
            refine am_blk hX 9 3 (And.intro (fun hb => ?_) (fun hb => ?_))
            · have hf := am_it hf hb
              show X 35 [(0, .inr (.inr ((10, 0, 0), 215))), (1, .inl a1), (2, .inl x4), (3, .inl x5)] [] s3
              exact am_wk hX [0, 1, 2, 3] (hJ35 hf)
            · have hf := am_if hf hb
              show X 19 [(0, .inr (.inr ((10, 0, 0), 215))), (1, .inl a1), (2, .inl x4), (3, .inl x5)] [] s3
              obtain ⟨v13, hcv13, hf⟩ := am_r_of hf
              obtain ⟨v14, hcv14, hf⟩ := am_r_of hf
              refine am_blk hX 12 7 (And.intro rfl (And.intro rfl (Exists.intro s3 (Exists.intro (some (.inl v13)) (And.intro (tX9_costOf l (d + 2) hcv13) (And.intro rfl (And.intro rfl (Exists.intro s3 (Exists.intro (some (.inl v14)) (And.intro (tX9_costOf l (d + 2) hcv14) (And.intro (fun hb => ?_) (fun hb => ?_))))))))))))
              · have hf := am_it hf hb
                show X 35 [(0, .inr (.inr ((10, 0, 0), 215))), (1, .inl a1), (2, .inl x4), (3, .inl x5)] [] s3
                exact am_wk hX [0, 1, 2, 3] (hJ35 hf)
              · have hf := am_if hf hb
                show X 32 [(0, .inr (.inr ((10, 0, 0), 215))), (1, .inl a1), (2, .inl x4), (3, .inl x5)] [] s3
                refine am_blk hX 19 1 (?_)
                show X 56 [(0, .inr (.inr ((10, 0, 0), 215))), (1, .inl a1), (2, .inl x4), (3, .inl x5)] [] s3
                exact am_wk hX [0, 1, 2, 3] (hJ56 s3 x4 hf)
  refine am_blk hX 0 6 (And.intro rfl (And.intro rfl (Exists.intro s2 (Exists.intro none (And.intro (tX9_lays l (d + 3) hcv1) (?_))))))
  show X 8 [(3, .inl (0 : Int32)), (2, .inl (-1 : Int32)), (0, .inr (.inr ((10, 0, 0), 215))), (1, .inl a1)] [] s2
  exact am_wk hX [2, 3, 1, 0] (hL8 am_fu s2 (-1 : Int32) (0 : Int32) hf)
def fX9_stop (s0 : AS) (a1 : Int32) : Option (AS × Int32) :=
  am_let (am_si s0 215 0 (0 : Int32)) (fun (s1 : AS) => am_r (fX9_isPlace s1 a1.toInt64) (fun (v2 : Int32) => if v2 = 0 then (some (s1, (-2 : Int32))) else (am_c (fX9_stopsOf s1 a1) (fun (s4 : AS) (v3 : Int32) => am_let (fun (x5 : Int32) => some (s4, x5)) (fun J37 => if v3 = (-1 : Int32) then (J37 (-1 : Int32)) else (am_r (fX9_costOf s4 v3) (fun (v6 : Int32) => J37 v6)))))))
def kX9_stop : List (Nat × Instr × Nat) := [(0, .aload_n 0, 1), (1, .iconst 0, 1), (2, .putfield 80, 3), (5, .aload_n 0, 1), (6, .iload_n 1, 1), (7, .i2l, 1), (8, .invokevirtual 349, 3), (11, .ifCond .ne 6, 3), (14, .bipush (-2), 2), (16, .ireturn, 1), (17, .aload_n 0, 1), (18, .iload_n 1, 1), (19, .invokevirtual 373, 3), (22, .istore_n 2, 1), (23, .iload_n 2, 1), (24, .iconst (-1), 1), (25, .if_icmp .ne 7, 3), (28, .iconst (-1), 1), (29, .goto 8, 3), (32, .aload_n 0, 1), (33, .iload_n 2, 1), (34, .invokevirtual 370, 3), (37, .ireturn, 1)]
theorem qX9_stop : ∀ q ∈ kX9_stop, decode mX9_stop.2.2.1 q.1 = .ok (q.2.1, q.2.2) ∧ am_iok mX9_stop.2.2.2.1 q.1 q.2.1 q.2.2 = true := by decide +kernel
set_option maxRecDepth 100000 in
theorem wX9_stop : Cond.code mX9_stop.2.1 mX9_stop.2.2.1 mX9_stop.2.2.2.1 mX9_stop.2.2.2.2.1 ∈ am_T := List.mem_filter.mpr ⟨List.mem_of_getElem? (i := 1826) rfl, rfl⟩
set_option maxHeartbeats 4000000 in
set_option maxRecDepth 100000 in
theorem tX9_stop (l : Launch) (d : Nat) {s0 : AS} {a1 : Int32} {sE : AS} {rE : Int32} (hf : fX9_stop s0 a1 = some (sE, rE)) : am_Ct l (d + 6) mX9_stop [.inr (.inr ((10, 0, 0), 215)), .inl a1] s0 sE (some (.inl rE)) := by
  refine am_sim l (d + 5) (code := kX9_stop) (by decide +kernel) wX9_stop qX9_stop (Nat.le_of_ble_eq_true rfl) ?_
  intro X hX
  show X 0 [(0, .inr (.inr ((10, 0, 0), 215))), (1, .inl a1)] [] s0
  unfold fX9_stop at hf
  refine am_blk hX 0 3 (And.intro rfl (am_nl (Z := fun s1 => X 5 [(0, .inr (.inr ((10, 0, 0), 215))), (1, .inl a1)] [] s1) hf (fun s1 hf => ?_)))
  obtain ⟨v2, hcv2, hf⟩ := am_r_of hf
  refine am_blk hX 3 5 (And.intro rfl (And.intro rfl (Exists.intro s1 (Exists.intro (some (.inl v2)) (And.intro (tX9_isPlace l (d + 3) hcv2) (And.intro (fun hb => ?_) (fun hb => ?_)))))))
  · have hf := am_if hf hb
    show X 17 [(0, .inr (.inr ((10, 0, 0), 215))), (1, .inl a1)] [] s1
    obtain ⟨s4, v3, hcv3, hf⟩ := am_c_of hf
    refine am_jn hf (fun J37 => ∀ (x5 : Int32), J37 x5 = some (sE, rE) → X 37 [] [.inl x5] s4) ?_ ?_
    · intro x5 hf
      refine am_blk hX 22 1 (am_ri hf)
    · intro J37 hJ37 hf
      refine am_blk hX 10 7 (And.intro rfl (And.intro rfl (Exists.intro s4 (Exists.intro (some (.inl v3)) (And.intro (tX9_stopsOf l (d + 0) hcv3) (And.intro (fun hb => ?_) (fun hb => ?_)))))))
      · have hf := am_if hf hb
        show X 32 [(2, .inl v3), (0, .inr (.inr ((10, 0, 0), 215))), (1, .inl a1)] [] s4
        obtain ⟨v6, hcv6, hf⟩ := am_r_of hf
        refine am_blk hX 19 3 (And.intro rfl (And.intro rfl (Exists.intro s4 (Exists.intro (some (.inl v6)) (And.intro (tX9_costOf l (d + 3) hcv6) (?_))))))
        show X 37 [(2, .inl v3), (0, .inr (.inr ((10, 0, 0), 215))), (1, .inl a1)] [.inl v6] s4
        exact am_wk hX [] (hJ37 v6 hf)
      · have hf := am_it hf hb
        show X 28 [(2, .inl v3), (0, .inr (.inr ((10, 0, 0), 215))), (1, .inl a1)] [] s4
        refine am_blk hX 17 2 (?_)
        show X 37 [(2, .inl v3), (0, .inr (.inr ((10, 0, 0), 215))), (1, .inl a1)] [.inl (-1 : Int32)] s4
        exact am_wk hX [] (hJ37 (-1 : Int32) hf)
  · have hf := am_it hf hb
    show X 14 [(0, .inr (.inr ((10, 0, 0), 215))), (1, .inl a1)] [] s1
    refine am_blk hX 8 2 (am_ri hf)
def fX9_stops (s0 : AS) (a1 : Int32) : Option (AS × Int32) :=
  am_let (am_si s0 215 0 (0 : Int32)) (fun (s1 : AS) => am_r (fX9_isPlace s1 a1.toInt64) (fun (v2 : Int32) => am_let (fun (s3 : AS) (x4 : Int32) => some (s3, x4)) (fun J24 => if v2 = 0 then (J24 s1 (-2 : Int32)) else (am_c (fX9_stopsOf s1 a1) (fun (s6 : AS) (v5 : Int32) => J24 s6 v5)))))
def kX9_stops : List (Nat × Instr × Nat) := [(0, .aload_n 0, 1), (1, .iconst 0, 1), (2, .putfield 80, 3), (5, .aload_n 0, 1), (6, .iload_n 1, 1), (7, .i2l, 1), (8, .invokevirtual 349, 3), (11, .ifCond .eq 11, 3), (14, .aload_n 0, 1), (15, .iload_n 1, 1), (16, .invokevirtual 373, 3), (19, .goto 5, 3), (22, .bipush (-2), 2), (24, .ireturn, 1)]
theorem qX9_stops : ∀ q ∈ kX9_stops, decode mX9_stops.2.2.1 q.1 = .ok (q.2.1, q.2.2) ∧ am_iok mX9_stops.2.2.2.1 q.1 q.2.1 q.2.2 = true := by decide +kernel
set_option maxRecDepth 100000 in
theorem wX9_stops : Cond.code mX9_stops.2.1 mX9_stops.2.2.1 mX9_stops.2.2.2.1 mX9_stops.2.2.2.2.1 ∈ am_T := List.mem_filter.mpr ⟨List.mem_of_getElem? (i := 1838) rfl, rfl⟩
set_option maxHeartbeats 4000000 in
set_option maxRecDepth 100000 in
theorem tX9_stops (l : Launch) (d : Nat) {s0 : AS} {a1 : Int32} {sE : AS} {rE : Int32} (hf : fX9_stops s0 a1 = some (sE, rE)) : am_Ct l (d + 6) mX9_stops [.inr (.inr ((10, 0, 0), 215)), .inl a1] s0 sE (some (.inl rE)) := by
  refine am_sim l (d + 5) (code := kX9_stops) (by decide +kernel) wX9_stops qX9_stops (Nat.le_of_ble_eq_true rfl) ?_
  intro X hX
  show X 0 [(0, .inr (.inr ((10, 0, 0), 215))), (1, .inl a1)] [] s0
  unfold fX9_stops at hf
  refine am_blk hX 0 3 (And.intro rfl (am_nl (Z := fun s1 => X 5 [(0, .inr (.inr ((10, 0, 0), 215))), (1, .inl a1)] [] s1) hf (fun s1 hf => ?_)))
  obtain ⟨v2, hcv2, hf⟩ := am_r_of hf
  refine am_jn hf (fun J24 => ∀ (s3 : AS) (x4 : Int32), J24 s3 x4 = some (sE, rE) → X 24 [] [.inl x4] s3) ?_ ?_
  · intro s3 x4 hf
    refine am_blk hX 13 1 (am_ri hf)
  · intro J24 hJ24 hf
    refine am_blk hX 3 5 (And.intro rfl (And.intro rfl (Exists.intro s1 (Exists.intro (some (.inl v2)) (And.intro (tX9_isPlace l (d + 3) hcv2) (And.intro (fun hb => ?_) (fun hb => ?_)))))))
    · have hf := am_it hf hb
      show X 22 [(0, .inr (.inr ((10, 0, 0), 215))), (1, .inl a1)] [] s1
      refine am_blk hX 12 1 (?_)
      show X 24 [(0, .inr (.inr ((10, 0, 0), 215))), (1, .inl a1)] [.inl (-2 : Int32)] s1
      exact am_wk hX [] (hJ24 s1 (-2 : Int32) hf)
    · have hf := am_if hf hb
      show X 14 [(0, .inr (.inr ((10, 0, 0), 215))), (1, .inl a1)] [] s1
      obtain ⟨s6, v5, hcv5, hf⟩ := am_c_of hf
      refine am_blk hX 8 4 (And.intro rfl (And.intro rfl (Exists.intro s6 (Exists.intro (some (.inl v5)) (And.intro (tX9_stopsOf l (d + 0) hcv5) (?_))))))
      show X 24 [(0, .inr (.inr ((10, 0, 0), 215))), (1, .inl a1)] [.inl v5] s6
      exact am_wk hX [] (hJ24 s6 v5 hf)
def fX9_together_L35 (a1 : Int32) (a2 : Int32) (s5 : AS) : Nat → Int32 → Int32 → Option (AS × Int32)
  | 0, _, _ => none
  | n35 + 1, x6, x7 =>
    if (60 : Int32) < x7 then (some (s5, x6)) else (am_g (¬ (x7 < 0 ∨ 61 ≤ x7.toNatClampNeg)) (am_r (fX9_isBit (s5.1 230 x7.toNatClampNeg) a1) (fun (v9 : Int32) => am_let (fun (x10 : Int32) => am_let (x6 + x10) (fun (x11 : Int32) => am_let (x7 + (1 : Int32)) (fun (x12 : Int32) => fX9_together_L35 a1 a2 s5 n35 x11 x12))) (fun J76 => am_let (J76 (0 : Int32)) (fun J75 => if v9 = 0 then (J75) else (am_g (¬ (x7 < 0 ∨ 61 ≤ x7.toNatClampNeg)) (am_r (fX9_isBit (s5.1 230 x7.toNatClampNeg) a2) (fun (v14 : Int32) => if v14 = 0 then (J75) else (J76 (1 : Int32))))))))))
def fX9_together (s0 : AS) (a1 : Int32) (a2 : Int32) : Option (AS × Int32) :=
  am_let (am_si s0 215 0 (0 : Int32)) (fun (s1 : AS) => am_r (fX9_isPerson s1 a1.toInt64) (fun (v2 : Int32) => am_let (some (s1, (-2 : Int32))) (fun J23 => if v2 = 0 then (J23) else (am_r (fX9_isPerson s1 a2.toInt64) (fun (v3 : Int32) => if v3 = 0 then (J23) else (am_c (fX9_laysNow s1) (fun (s5 : AS) (v4 : Unit) => fX9_together_L35 a1 a2 s5 am_fu (0 : Int32) (0 : Int32))))))))
def kX9_together : List (Nat × Instr × Nat) := [(0, .aload_n 0, 1), (1, .iconst 0, 1), (2, .putfield 80, 3), (5, .aload_n 0, 1), (6, .iload_n 1, 1), (7, .i2l, 1), (8, .invokevirtual 344, 3), (11, .ifCond .eq 12, 3), (14, .aload_n 0, 1), (15, .iload_n 2, 1), (16, .i2l, 1), (17, .invokevirtual 344, 3), (20, .ifCond .ne 6, 3), (23, .bipush (-2), 2), (25, .ireturn, 1), (26, .aload_n 0, 1), (27, .invokevirtual 358, 3), (30, .iconst 0, 1), (31, .istore_n 3, 1), (32, .iconst 0, 1), (33, .istore 4, 2), (35, .iload 4, 2), (37, .bipush 60, 2), (39, .if_icmp .gt 45, 3), (42, .iload_n 3, 1), (43, .aload_n 0, 1), (44, .getfield 59, 3), (47, .iload 4, 2), (49, .iaload, 1), (50, .iload_n 1, 1), (51, .invokestatic 280, 3), (54, .ifCond .eq 21, 3), (57, .aload_n 0, 1), (58, .getfield 59, 3), (61, .iload 4, 2), (63, .iaload, 1), (64, .iload_n 2, 1), (65, .invokestatic 280, 3), (68, .ifCond .eq 7, 3), (71, .iconst 1, 1), (72, .goto 4, 3), (75, .iconst 0, 1), (76, .iadd, 1), (77, .istore_n 3, 1), (78, .iinc 4 1, 3), (81, .goto (-46), 3), (84, .iload_n 3, 1), (85, .ireturn, 1)]
theorem qX9_together : ∀ q ∈ kX9_together, decode mX9_together.2.2.1 q.1 = .ok (q.2.1, q.2.2) ∧ am_iok mX9_together.2.2.2.1 q.1 q.2.1 q.2.2 = true := by decide +kernel
set_option maxRecDepth 100000 in
theorem wX9_together : Cond.code mX9_together.2.1 mX9_together.2.2.1 mX9_together.2.2.2.1 mX9_together.2.2.2.2.1 ∈ am_T := List.mem_filter.mpr ⟨List.mem_of_getElem? (i := 1782) rfl, rfl⟩
set_option maxHeartbeats 4000000 in
set_option maxRecDepth 100000 in
theorem tX9_together (l : Launch) (d : Nat) {s0 : AS} {a1 : Int32} {a2 : Int32} {sE : AS} {rE : Int32} (hf : fX9_together s0 a1 a2 = some (sE, rE)) : am_Ct l (d + 6) mX9_together [.inr (.inr ((10, 0, 0), 215)), .inl a1, .inl a2] s0 sE (some (.inl rE)) := by
  refine am_sim l (d + 5) (code := kX9_together) (by decide +kernel) wX9_together qX9_together (Nat.le_of_ble_eq_true rfl) ?_
  intro X hX
  show X 0 [(0, .inr (.inr ((10, 0, 0), 215))), (1, .inl a1), (2, .inl a2)] [] s0
  unfold fX9_together at hf
  refine am_blk hX 0 3 (And.intro rfl (am_nl (Z := fun s1 => X 5 [(0, .inr (.inr ((10, 0, 0), 215))), (1, .inl a1), (2, .inl a2)] [] s1) hf (fun s1 hf => ?_)))
  obtain ⟨v2, hcv2, hf⟩ := am_r_of hf
  refine am_jn hf (fun J23 => J23 = some (sE, rE) → X 23 [] [] s1) ?_ ?_
  · intro hf
    refine am_blk hX 13 2 (am_ri hf)
  · intro J23 hJ23 hf
    refine am_blk hX 3 5 (And.intro rfl (And.intro rfl (Exists.intro s1 (Exists.intro (some (.inl v2)) (And.intro (tX9_isPerson l (d + 3) hcv2) (And.intro (fun hb => ?_) (fun hb => ?_)))))))
    · have hf := am_it hf hb
      show X 23 [(0, .inr (.inr ((10, 0, 0), 215))), (1, .inl a1), (2, .inl a2)] [] s1
      exact am_wk hX [] (hJ23 hf)
    · have hf := am_if hf hb
      show X 14 [(0, .inr (.inr ((10, 0, 0), 215))), (1, .inl a1), (2, .inl a2)] [] s1
      obtain ⟨v3, hcv3, hf⟩ := am_r_of hf
      refine am_blk hX 8 5 (And.intro rfl (And.intro rfl (Exists.intro s1 (Exists.intro (some (.inl v3)) (And.intro (tX9_isPerson l (d + 3) hcv3) (And.intro (fun hb => ?_) (fun hb => ?_)))))))
      · have hf := am_if hf hb
        show X 26 [(0, .inr (.inr ((10, 0, 0), 215))), (1, .inl a1), (2, .inl a2)] [] s1
        obtain ⟨s5, v4, hcv4, hf⟩ := am_c_of hf
        have hL35 : ∀ (n35 : Nat) (x6 : Int32) (x7 : Int32), fX9_together_L35 a1 a2 s5 n35 x6 x7 = some (sE, rE) → X 35 [(0, .inr (.inr ((10, 0, 0), 215))), (1, .inl a1), (2, .inl a2), (3, .inl x6), (4, .inl x7)] [] s5 := by
          intro n35
          induction n35 with
          | zero => intro x6 x7 hf; exact am_no (show none = some _ from hf)
          | succ n35 ih35 =>
            intro x6 x7 hf
            refine am_blk hX 21 3 (And.intro (fun hb => ?_) (fun hb => ?_))
            · have hf := am_it hf hb
              show X 84 [(0, .inr (.inr ((10, 0, 0), 215))), (1, .inl a1), (2, .inl a2), (3, .inl x6), (4, .inl x7)] [] s5
              refine am_blk hX 46 2 (am_ri hf)
            · have hf := am_if hf hb
              show X 42 [(0, .inr (.inr ((10, 0, 0), 215))), (1, .inl a1), (2, .inl a2), (3, .inl x6), (4, .inl x7)] [] s5
              obtain ⟨g8, hf⟩ := am_g_of hf
              obtain ⟨v9, hcv9, hf⟩ := am_r_of hf
              refine am_jn hf (fun J76 => ∀ (x10 : Int32), J76 x10 = some (sE, rE) → X 76 [(0, .inr (.inr ((10, 0, 0), 215))), (1, .inl a1), (2, .inl a2), (4, .inl x7)] [.inl x10, .inl x6] s5) ?_ ?_
              · intro x10 hf
                refine am_blk hX 42 2 (am_nl (Z := fun x11 => X 78 [(3, .inl x11), (0, .inr (.inr ((10, 0, 0), 215))), (1, .inl a1), (2, .inl a2), (4, .inl x7)] [] s5) hf (fun x11 hf => ?_))
                refine am_blk hX 44 1 (am_nl (Z := fun x12 => X 81 [(4, .inl x12), (3, .inl x11), (0, .inr (.inr ((10, 0, 0), 215))), (1, .inl a1), (2, .inl a2)] [] s5) hf (fun x12 hf => ?_))
                refine am_blk hX 45 1 (?_)
                show X 35 [(4, .inl x12), (3, .inl x11), (0, .inr (.inr ((10, 0, 0), 215))), (1, .inl a1), (2, .inl a2)] [] s5
                exact am_wk hX [2, 3, 4, 1, 0] (ih35 x11 x12 hf)
              · intro J76 hJ76 hf
                refine am_jn hf (fun J75 => J75 = some (sE, rE) → X 75 [(0, .inr (.inr ((10, 0, 0), 215))), (1, .inl a1), (2, .inl a2), (4, .inl x7)] [.inl x6] s5) ?_ ?_
                · intro hf
                  refine am_blk hX 41 1 (?_)
                  show X 76 [(0, .inr (.inr ((10, 0, 0), 215))), (1, .inl a1), (2, .inl a2), (4, .inl x7)] [.inl (0 : Int32), .inl x6] s5
                  exact am_wk hX [0, 1, 2, 3] (hJ76 (0 : Int32) hf)
                · intro J75 hJ75 hf
                  refine am_blk hX 24 8 (And.intro rfl (And.intro rfl (And.intro g8 (And.intro rfl (Exists.intro s5 (Exists.intro (some (.inl v9)) (And.intro (tX9_isBit l (d + 4) hcv9) (And.intro (fun hb => ?_) (fun hb => ?_)))))))))
                  · have hf := am_it hf hb
                    show X 75 [(0, .inr (.inr ((10, 0, 0), 215))), (1, .inl a1), (2, .inl a2), (3, .inl x6), (4, .inl x7)] [.inl x6] s5
                    exact am_wk hX [0, 1, 2, 4] (hJ75 hf)
                  · have hf := am_if hf hb
                    show X 57 [(0, .inr (.inr ((10, 0, 0), 215))), (1, .inl a1), (2, .inl a2), (3, .inl x6), (4, .inl x7)] [.inl x6] s5
                    obtain ⟨g13, hf⟩ := am_g_of hf
                    obtain ⟨v14, hcv14, hf⟩ := am_r_of hf
                    refine am_blk hX 32 7 (And.intro rfl (And.intro rfl (And.intro g13 (And.intro rfl (Exists.intro s5 (Exists.intro (some (.inl v14)) (And.intro (tX9_isBit l (d + 4) hcv14) (And.intro (fun hb => ?_) (fun hb => ?_)))))))))
                    · have hf := am_it hf hb
                      show X 75 [(0, .inr (.inr ((10, 0, 0), 215))), (1, .inl a1), (2, .inl a2), (3, .inl x6), (4, .inl x7)] [.inl x6] s5
                      exact am_wk hX [0, 1, 2, 4] (hJ75 hf)
                    · have hf := am_if hf hb
                      show X 71 [(0, .inr (.inr ((10, 0, 0), 215))), (1, .inl a1), (2, .inl a2), (3, .inl x6), (4, .inl x7)] [.inl x6] s5
                      refine am_blk hX 39 2 (?_)
                      show X 76 [(0, .inr (.inr ((10, 0, 0), 215))), (1, .inl a1), (2, .inl a2), (3, .inl x6), (4, .inl x7)] [.inl (1 : Int32), .inl x6] s5
                      exact am_wk hX [0, 1, 2, 4] (hJ76 (1 : Int32) hf)
        refine am_blk hX 15 6 (And.intro rfl (And.intro rfl (Exists.intro s5 (Exists.intro none (And.intro (tX9_laysNow l (d + 0) hcv4) (?_))))))
        show X 35 [(4, .inl (0 : Int32)), (3, .inl (0 : Int32)), (0, .inr (.inr ((10, 0, 0), 215))), (1, .inl a1), (2, .inl a2)] [] s5
        exact am_wk hX [2, 3, 4, 1, 0] (hL35 am_fu (0 : Int32) (0 : Int32) hf)
      · have hf := am_it hf hb
        show X 23 [(0, .inr (.inr ((10, 0, 0), 215))), (1, .inl a1), (2, .inl a2)] [] s1
        exact am_wk hX [] (hJ23 hf)
def fX9_trap_L27 (a1 : Int32) (a2 : Int32) : Nat → AS → Int32 → Option (AS × Int32)
  | 0, _, _ => none
  | n27 + 1, s4, x5 =>
    am_g (¬ ((4 : Int32) < 0 ∨ 35 ≤ (4 : Int32).toNatClampNeg)) (if (s4.1 222 ((4 : Int32).toNatClampNeg)) ≤ x5 then (some (s4, (-1 : Int32))) else (am_c (fX9_lays s4) (fun (s8 : AS) (v7 : Unit) => am_let (am_si s8 215 31 a1) (fun (s9 : AS) => am_let (am_si s9 215 32 x5) (fun (s10 : AS) => am_c (fX9_runs s10) (fun (s12 : AS) (v11 : Unit) => am_r (fX9_firstAt s12 a2 a1) (fun (v13 : Int32) => if v13 = (-1 : Int32) then (some (s12, x5)) else (am_let (x5 + (1 : Int32)) (fun (x14 : Int32) => fX9_trap_L27 a1 a2 n27 s12 x14)))))))))
def fX9_trap (s0 : AS) (a1 : Int32) (a2 : Int32) : Option (AS × Int32) :=
  am_let (am_si s0 215 0 (0 : Int32)) (fun (s1 : AS) => am_r (fX9_isStep s1 a1) (fun (v2 : Int32) => am_let (some (s1, (-2 : Int32))) (fun J22 => if v2 = 0 then (J22) else (am_r (fX9_isPlace s1 a2.toInt64) (fun (v3 : Int32) => if v3 = 0 then (J22) else (fX9_trap_L27 a1 a2 am_fu s1 (0 : Int32)))))))
def kX9_trap : List (Nat × Instr × Nat) := [(0, .aload_n 0, 1), (1, .iconst 0, 1), (2, .putfield 80, 3), (5, .aload_n 0, 1), (6, .iload_n 1, 1), (7, .invokevirtual 355, 3), (10, .ifCond .eq 12, 3), (13, .aload_n 0, 1), (14, .iload_n 2, 1), (15, .i2l, 1), (16, .invokevirtual 349, 3), (19, .ifCond .ne 6, 3), (22, .bipush (-2), 2), (24, .ireturn, 1), (25, .iconst 0, 1), (26, .istore_n 3, 1), (27, .iload_n 3, 1), (28, .aload_n 0, 1), (29, .getfield 34, 3), (32, .iconst 4, 1), (33, .iaload, 1), (34, .if_icmp .ge 39, 3), (37, .aload_n 0, 1), (38, .invokevirtual 336, 3), (41, .aload_n 0, 1), (42, .iload_n 1, 1), (43, .putfield 274, 3), (46, .aload_n 0, 1), (47, .iload_n 3, 1), (48, .putfield 321, 3), (51, .aload_n 0, 1), (52, .invokevirtual 339, 3), (55, .aload_n 0, 1), (56, .iload_n 2, 1), (57, .iload_n 1, 1), (58, .invokevirtual 361, 3), (61, .iconst (-1), 1), (62, .if_icmp .ne 5, 3), (65, .iload_n 3, 1), (66, .ireturn, 1), (67, .iinc 3 1, 3), (70, .goto (-43), 3), (73, .iconst (-1), 1), (74, .ireturn, 1)]
theorem qX9_trap : ∀ q ∈ kX9_trap, decode mX9_trap.2.2.1 q.1 = .ok (q.2.1, q.2.2) ∧ am_iok mX9_trap.2.2.2.1 q.1 q.2.1 q.2.2 = true := by decide +kernel
set_option maxRecDepth 100000 in
theorem wX9_trap : Cond.code mX9_trap.2.1 mX9_trap.2.2.1 mX9_trap.2.2.2.1 mX9_trap.2.2.2.2.1 ∈ am_T := List.mem_filter.mpr ⟨List.mem_of_getElem? (i := 1822) rfl, rfl⟩
set_option maxHeartbeats 4000000 in
set_option maxRecDepth 100000 in
theorem tX9_trap (l : Launch) (d : Nat) {s0 : AS} {a1 : Int32} {a2 : Int32} {sE : AS} {rE : Int32} (hf : fX9_trap s0 a1 a2 = some (sE, rE)) : am_Ct l (d + 5) mX9_trap [.inr (.inr ((10, 0, 0), 215)), .inl a1, .inl a2] s0 sE (some (.inl rE)) := by
  refine am_sim l (d + 4) (code := kX9_trap) (by decide +kernel) wX9_trap qX9_trap (Nat.le_of_ble_eq_true rfl) ?_
  intro X hX
  show X 0 [(0, .inr (.inr ((10, 0, 0), 215))), (1, .inl a1), (2, .inl a2)] [] s0
  unfold fX9_trap at hf
  refine am_blk hX 0 3 (And.intro rfl (am_nl (Z := fun s1 => X 5 [(0, .inr (.inr ((10, 0, 0), 215))), (1, .inl a1), (2, .inl a2)] [] s1) hf (fun s1 hf => ?_)))
  obtain ⟨v2, hcv2, hf⟩ := am_r_of hf
  refine am_jn hf (fun J22 => J22 = some (sE, rE) → X 22 [] [] s1) ?_ ?_
  · intro hf
    refine am_blk hX 12 2 (am_ri hf)
  · intro J22 hJ22 hf
    refine am_blk hX 3 4 (And.intro rfl (And.intro rfl (Exists.intro s1 (Exists.intro (some (.inl v2)) (And.intro (tX9_isStep l (d + 2) hcv2) (And.intro (fun hb => ?_) (fun hb => ?_)))))))
    · have hf := am_it hf hb
      show X 22 [(0, .inr (.inr ((10, 0, 0), 215))), (1, .inl a1), (2, .inl a2)] [] s1
      exact am_wk hX [] (hJ22 hf)
    · have hf := am_if hf hb
      show X 13 [(0, .inr (.inr ((10, 0, 0), 215))), (1, .inl a1), (2, .inl a2)] [] s1
      obtain ⟨v3, hcv3, hf⟩ := am_r_of hf
      refine am_blk hX 7 5 (And.intro rfl (And.intro rfl (Exists.intro s1 (Exists.intro (some (.inl v3)) (And.intro (tX9_isPlace l (d + 2) hcv3) (And.intro (fun hb => ?_) (fun hb => ?_)))))))
      · have hf := am_if hf hb
        show X 25 [(0, .inr (.inr ((10, 0, 0), 215))), (1, .inl a1), (2, .inl a2)] [] s1
        have hL27 : ∀ (n27 : Nat) (s4 : AS) (x5 : Int32), fX9_trap_L27 a1 a2 n27 s4 x5 = some (sE, rE) → X 27 [(0, .inr (.inr ((10, 0, 0), 215))), (1, .inl a1), (2, .inl a2), (3, .inl x5)] [] s4 := by
          intro n27
          induction n27 with
          | zero => intro s4 x5 hf; exact am_no (show none = some _ from hf)
          | succ n27 ih27 =>
            intro s4 x5 hf
            obtain ⟨g6, hf⟩ := am_g_of hf
            refine am_blk hX 16 6 (And.intro rfl (And.intro rfl (And.intro g6 (And.intro (fun hb => ?_) (fun hb => ?_)))))
            · have hf := am_it hf hb
              show X 73 [(0, .inr (.inr ((10, 0, 0), 215))), (1, .inl a1), (2, .inl a2), (3, .inl x5)] [] s4
              refine am_blk hX 42 2 (am_ri hf)
            · have hf := am_if hf hb
              show X 37 [(0, .inr (.inr ((10, 0, 0), 215))), (1, .inl a1), (2, .inl a2), (3, .inl x5)] [] s4
              obtain ⟨s8, v7, hcv7, hf⟩ := am_c_of hf
              refine am_blk hX 22 5 (And.intro rfl (And.intro rfl (Exists.intro s8 (Exists.intro none (And.intro (tX9_lays l (d + 3) hcv7) (And.intro rfl (am_nl (Z := fun s9 => X 46 [(0, .inr (.inr ((10, 0, 0), 215))), (1, .inl a1), (2, .inl a2), (3, .inl x5)] [] s9) hf (fun s9 hf => ?_))))))))
              refine am_blk hX 27 3 (And.intro rfl (am_nl (Z := fun s10 => X 51 [(0, .inr (.inr ((10, 0, 0), 215))), (1, .inl a1), (2, .inl a2), (3, .inl x5)] [] s10) hf (fun s10 hf => ?_)))
              obtain ⟨s12, v11, hcv11, hf⟩ := am_c_of hf
              obtain ⟨v13, hcv13, hf⟩ := am_r_of hf
              refine am_blk hX 30 8 (And.intro rfl (And.intro rfl (Exists.intro s12 (Exists.intro none (And.intro (tX9_runs l (d + 0) hcv11) (And.intro rfl (And.intro rfl (Exists.intro s12 (Exists.intro (some (.inl v13)) (And.intro (tX9_firstAt l (d + 3) hcv13) (And.intro (fun hb => ?_) (fun hb => ?_))))))))))))
              · have hf := am_if hf hb
                show X 67 [(0, .inr (.inr ((10, 0, 0), 215))), (1, .inl a1), (2, .inl a2), (3, .inl x5)] [] s12
                refine am_blk hX 40 1 (am_nl (Z := fun x14 => X 70 [(3, .inl x14), (0, .inr (.inr ((10, 0, 0), 215))), (1, .inl a1), (2, .inl a2)] [] s12) hf (fun x14 hf => ?_))
                refine am_blk hX 41 1 (?_)
                show X 27 [(3, .inl x14), (0, .inr (.inr ((10, 0, 0), 215))), (1, .inl a1), (2, .inl a2)] [] s12
                exact am_wk hX [1, 2, 3, 0] (ih27 s12 x14 hf)
              · have hf := am_it hf hb
                show X 65 [(0, .inr (.inr ((10, 0, 0), 215))), (1, .inl a1), (2, .inl a2), (3, .inl x5)] [] s12
                refine am_blk hX 38 2 (am_ri hf)
        refine am_blk hX 14 2 (?_)
        show X 27 [(3, .inl (0 : Int32)), (0, .inr (.inr ((10, 0, 0), 215))), (1, .inl a1), (2, .inl a2)] [] s1
        exact am_wk hX [1, 2, 3, 0] (hL27 am_fu s1 (0 : Int32) hf)
      · have hf := am_it hf hb
        show X 22 [(0, .inr (.inr ((10, 0, 0), 215))), (1, .inl a1), (2, .inl a2)] [] s1
        exact am_wk hX [] (hJ22 hf)
def fX9_turned_L24 (a1 : Int32) (s4 : AS) : Nat → Int32 → Int32 → Option (AS × Int32)
  | 0, _, _ => none
  | n24 + 1, x5, x6 =>
    am_r (fX9_people s4) (fun (v7 : Int32) => if v7 ≤ x6 then (some (s4, x5)) else (am_g (¬ (a1 < 0 ∨ 61 ≤ a1.toNatClampNeg)) (am_let (fun (x9 : Int32) => am_let (x5 ||| x9) (fun (x10 : Int32) => am_let (x6 + (1 : Int32)) (fun (x11 : Int32) => fX9_turned_L24 a1 s4 n24 x10 x11))) (fun J85 => am_let (J85 (0 : Int32)) (fun J84 => if (s4.1 231 a1.toNatClampNeg) = (-1 : Int32) then (J84) else (am_g (¬ ((((8 : Int32) * a1) + x6) < 0 ∨ 488 ≤ (((8 : Int32) * a1) + x6).toNatClampNeg)) (if (s4.1 232 ((((8 : Int32) * a1) + x6).toNatClampNeg)) = (-1 : Int32) then (J84) else (am_g (¬ ((((8 : Int32) * a1) + x6) < 0 ∨ 488 ≤ (((8 : Int32) * a1) + x6).toNatClampNeg)) (am_g (¬ (a1 < 0 ∨ 61 ≤ a1.toNatClampNeg)) (if (s4.1 232 ((((8 : Int32) * a1) + x6).toNatClampNeg)) = (s4.1 231 a1.toNatClampNeg) then (J84) else (J85 ((1 : Int32) <<< (x6 &&& 31)))))))))))))
def fX9_turned (s0 : AS) (a1 : Int32) : Option (AS × Int32) :=
  am_let (am_si s0 215 0 (0 : Int32)) (fun (s1 : AS) => am_r (fX9_isStep s1 a1) (fun (v2 : Int32) => if v2 = 0 then (some (s1, (-2 : Int32))) else (am_c (fX9_laysNow s1) (fun (s4 : AS) (v3 : Unit) => fX9_turned_L24 a1 s4 am_fu (0 : Int32) (0 : Int32)))))
def kX9_turned : List (Nat × Instr × Nat) := [(0, .aload_n 0, 1), (1, .iconst 0, 1), (2, .putfield 80, 3), (5, .aload_n 0, 1), (6, .iload_n 1, 1), (7, .invokevirtual 355, 3), (10, .ifCond .ne 6, 3), (13, .bipush (-2), 2), (15, .ireturn, 1), (16, .aload_n 0, 1), (17, .invokevirtual 358, 3), (20, .iconst 0, 1), (21, .istore_n 2, 1), (22, .iconst 0, 1), (23, .istore_n 3, 1), (24, .iload_n 3, 1), (25, .aload_n 0, 1), (26, .invokevirtual 248, 3), (29, .if_icmp .ge 64, 3), (32, .iload_n 2, 1), (33, .aload_n 0, 1), (34, .getfield 62, 3), (37, .iload_n 1, 1), (38, .iaload, 1), (39, .iconst (-1), 1), (40, .if_icmp .eq 44, 3), (43, .aload_n 0, 1), (44, .getfield 65, 3), (47, .bipush 8, 2), (49, .iload_n 1, 1), (50, .imul, 1), (51, .iload_n 3, 1), (52, .iadd, 1), (53, .iaload, 1), (54, .iconst (-1), 1), (55, .if_icmp .eq 29, 3), (58, .aload_n 0, 1), (59, .getfield 65, 3), (62, .bipush 8, 2), (64, .iload_n 1, 1), (65, .imul, 1), (66, .iload_n 3, 1), (67, .iadd, 1), (68, .iaload, 1), (69, .aload_n 0, 1), (70, .getfield 62, 3), (73, .iload_n 1, 1), (74, .iaload, 1), (75, .if_icmp .eq 9, 3), (78, .iconst 1, 1), (79, .iload_n 3, 1), (80, .ishl, 1), (81, .goto 4, 3), (84, .iconst 0, 1), (85, .ior, 1), (86, .istore_n 2, 1), (87, .iinc 3 1, 3), (90, .goto (-66), 3), (93, .iload_n 2, 1), (94, .ireturn, 1)]
theorem qX9_turned : ∀ q ∈ kX9_turned, decode mX9_turned.2.2.1 q.1 = .ok (q.2.1, q.2.2) ∧ am_iok mX9_turned.2.2.2.1 q.1 q.2.1 q.2.2 = true := by decide +kernel
set_option maxRecDepth 100000 in
theorem wX9_turned : Cond.code mX9_turned.2.1 mX9_turned.2.2.1 mX9_turned.2.2.2.1 mX9_turned.2.2.2.2.1 ∈ am_T := List.mem_filter.mpr ⟨List.mem_of_getElem? (i := 1790) rfl, rfl⟩
set_option maxHeartbeats 4000000 in
set_option maxRecDepth 100000 in
theorem tX9_turned (l : Launch) (d : Nat) {s0 : AS} {a1 : Int32} {sE : AS} {rE : Int32} (hf : fX9_turned s0 a1 = some (sE, rE)) : am_Ct l (d + 6) mX9_turned [.inr (.inr ((10, 0, 0), 215)), .inl a1] s0 sE (some (.inl rE)) := by
  refine am_sim l (d + 5) (code := kX9_turned) (by decide +kernel) wX9_turned qX9_turned (Nat.le_of_ble_eq_true rfl) ?_
  intro X hX
  show X 0 [(0, .inr (.inr ((10, 0, 0), 215))), (1, .inl a1)] [] s0
  unfold fX9_turned at hf
  refine am_blk hX 0 3 (And.intro rfl (am_nl (Z := fun s1 => X 5 [(0, .inr (.inr ((10, 0, 0), 215))), (1, .inl a1)] [] s1) hf (fun s1 hf => ?_)))
  obtain ⟨v2, hcv2, hf⟩ := am_r_of hf
  refine am_blk hX 3 4 (And.intro rfl (And.intro rfl (Exists.intro s1 (Exists.intro (some (.inl v2)) (And.intro (tX9_isStep l (d + 3) hcv2) (And.intro (fun hb => ?_) (fun hb => ?_)))))))
  · have hf := am_if hf hb
    show X 16 [(0, .inr (.inr ((10, 0, 0), 215))), (1, .inl a1)] [] s1
    obtain ⟨s4, v3, hcv3, hf⟩ := am_c_of hf
    have hL24 : ∀ (n24 : Nat) (x5 : Int32) (x6 : Int32), fX9_turned_L24 a1 s4 n24 x5 x6 = some (sE, rE) → X 24 [(0, .inr (.inr ((10, 0, 0), 215))), (1, .inl a1), (2, .inl x5), (3, .inl x6)] [] s4 := by
      intro n24
      induction n24 with
      | zero => intro x5 x6 hf; exact am_no (show none = some _ from hf)
      | succ n24 ih24 =>
        intro x5 x6 hf
        obtain ⟨v7, hcv7, hf⟩ := am_r_of hf
        refine am_blk hX 15 4 (And.intro rfl (And.intro rfl (Exists.intro s4 (Exists.intro (some (.inl v7)) (And.intro (tX9_people l (d + 4) hcv7) (And.intro (fun hb => ?_) (fun hb => ?_)))))))
        · have hf := am_it hf hb
          show X 93 [(0, .inr (.inr ((10, 0, 0), 215))), (1, .inl a1), (2, .inl x5), (3, .inl x6)] [] s4
          refine am_blk hX 58 2 (am_ri hf)
        · have hf := am_if hf hb
          show X 32 [(0, .inr (.inr ((10, 0, 0), 215))), (1, .inl a1), (2, .inl x5), (3, .inl x6)] [] s4
          obtain ⟨g8, hf⟩ := am_g_of hf
          refine am_jn hf (fun J85 => ∀ (x9 : Int32), J85 x9 = some (sE, rE) → X 85 [(0, .inr (.inr ((10, 0, 0), 215))), (1, .inl a1), (3, .inl x6)] [.inl x9, .inl x5] s4) ?_ ?_
          · intro x9 hf
            refine am_blk hX 54 2 (am_nl (Z := fun x10 => X 87 [(2, .inl x10), (0, .inr (.inr ((10, 0, 0), 215))), (1, .inl a1), (3, .inl x6)] [] s4) hf (fun x10 hf => ?_))
            refine am_blk hX 56 1 (am_nl (Z := fun x11 => X 90 [(3, .inl x11), (2, .inl x10), (0, .inr (.inr ((10, 0, 0), 215))), (1, .inl a1)] [] s4) hf (fun x11 hf => ?_))
            refine am_blk hX 57 1 (?_)
            show X 24 [(3, .inl x11), (2, .inl x10), (0, .inr (.inr ((10, 0, 0), 215))), (1, .inl a1)] [] s4
            exact am_wk hX [2, 3, 1, 0] (ih24 x10 x11 hf)
          · intro J85 hJ85 hf
            refine am_jn hf (fun J84 => J84 = some (sE, rE) → X 84 [(0, .inr (.inr ((10, 0, 0), 215))), (1, .inl a1), (3, .inl x6)] [.inl x5] s4) ?_ ?_
            · intro hf
              refine am_blk hX 53 1 (?_)
              show X 85 [(0, .inr (.inr ((10, 0, 0), 215))), (1, .inl a1), (3, .inl x6)] [.inl (0 : Int32), .inl x5] s4
              exact am_wk hX [0, 1, 2] (hJ85 (0 : Int32) hf)
            · intro J84 hJ84 hf
              refine am_blk hX 19 7 (And.intro rfl (And.intro rfl (And.intro g8 (And.intro (fun hb => ?_) (fun hb => ?_)))))
              · have hf := am_it hf hb
                show X 84 [(0, .inr (.inr ((10, 0, 0), 215))), (1, .inl a1), (2, .inl x5), (3, .inl x6)] [.inl x5] s4
                exact am_wk hX [0, 1, 3] (hJ84 hf)
              · have hf := am_if hf hb
                show X 43 [(0, .inr (.inr ((10, 0, 0), 215))), (1, .inl a1), (2, .inl x5), (3, .inl x6)] [.inl x5] s4
                obtain ⟨g12, hf⟩ := am_g_of hf
                refine am_blk hX 26 10 (And.intro rfl (And.intro rfl (And.intro g12 (And.intro (fun hb => ?_) (fun hb => ?_)))))
                · have hf := am_it hf hb
                  show X 84 [(0, .inr (.inr ((10, 0, 0), 215))), (1, .inl a1), (2, .inl x5), (3, .inl x6)] [.inl x5] s4
                  exact am_wk hX [0, 1, 3] (hJ84 hf)
                · have hf := am_if hf hb
                  show X 58 [(0, .inr (.inr ((10, 0, 0), 215))), (1, .inl a1), (2, .inl x5), (3, .inl x6)] [.inl x5] s4
                  obtain ⟨g13, hf⟩ := am_g_of hf
                  obtain ⟨g14, hf⟩ := am_g_of hf
                  refine am_blk hX 36 13 (And.intro rfl (And.intro rfl (And.intro g13 (And.intro rfl (And.intro rfl (And.intro g14 (And.intro (fun hb => ?_) (fun hb => ?_))))))))
                  · have hf := am_it hf hb
                    show X 84 [(0, .inr (.inr ((10, 0, 0), 215))), (1, .inl a1), (2, .inl x5), (3, .inl x6)] [.inl x5] s4
                    exact am_wk hX [0, 1, 3] (hJ84 hf)
                  · have hf := am_if hf hb
                    show X 78 [(0, .inr (.inr ((10, 0, 0), 215))), (1, .inl a1), (2, .inl x5), (3, .inl x6)] [.inl x5] s4
                    refine am_blk hX 49 4 (?_)
                    show X 85 [(0, .inr (.inr ((10, 0, 0), 215))), (1, .inl a1), (2, .inl x5), (3, .inl x6)] [.inl ((1 : Int32) <<< (x6 &&& 31)), .inl x5] s4
                    exact am_wk hX [0, 1, 3] (hJ85 ((1 : Int32) <<< (x6 &&& 31)) hf)
    refine am_blk hX 9 6 (And.intro rfl (And.intro rfl (Exists.intro s4 (Exists.intro none (And.intro (tX9_laysNow l (d + 0) hcv3) (?_))))))
    show X 24 [(3, .inl (0 : Int32)), (2, .inl (0 : Int32)), (0, .inr (.inr ((10, 0, 0), 215))), (1, .inl a1)] [] s4
    exact am_wk hX [2, 3, 1, 0] (hL24 am_fu (0 : Int32) (0 : Int32) hf)
  · have hf := am_it hf hb
    show X 13 [(0, .inr (.inr ((10, 0, 0), 215))), (1, .inl a1)] [] s1
    refine am_blk hX 7 2 (am_ri hf)
def fX9_undo (s0 : AS) : Option (AS × Int32) :=
  am_let (am_si s0 215 0 (0 : Int32)) (fun (s1 : AS) => am_r (fX9_isMarch s1) (fun (v2 : Int32) => if v2 = 0 then (some (s1, (-2 : Int32))) else (am_g (¬ ((6 : Int32) < 0 ∨ 35 ≤ (6 : Int32).toNatClampNeg)) (if (s1.1 222 ((6 : Int32).toNatClampNeg)) = 0 then (some (s1, (-5 : Int32))) else (am_g (¬ ((6 : Int32) < 0 ∨ 35 ≤ (6 : Int32).toNatClampNeg)) (am_g (¬ ((6 : Int32) < 0 ∨ 35 ≤ (6 : Int32).toNatClampNeg)) (am_let (am_si s1 222 ((6 : Int32).toNatClampNeg) ((s1.1 222 ((6 : Int32).toNatClampNeg)) - (1 : Int32))) (fun (s6 : AS) => am_g (¬ ((6 : Int32) < 0 ∨ 35 ≤ (6 : Int32).toNatClampNeg)) (some (s6, s6.1 222 ((6 : Int32).toNatClampNeg)))))))))))
def kX9_undo : List (Nat × Instr × Nat) := [(0, .aload_n 0, 1), (1, .iconst 0, 1), (2, .putfield 80, 3), (5, .aload_n 0, 1), (6, .invokevirtual 251, 3), (9, .ifCond .ne 6, 3), (12, .bipush (-2), 2), (14, .ireturn, 1), (15, .aload_n 0, 1), (16, .getfield 34, 3), (19, .bipush 6, 2), (21, .iaload, 1), (22, .ifCond .ne 6, 3), (25, .bipush (-5), 2), (27, .ireturn, 1), (28, .aload_n 0, 1), (29, .getfield 34, 3), (32, .bipush 6, 2), (34, .dup2, 1), (35, .iaload, 1), (36, .iconst 1, 1), (37, .isub, 1), (38, .iastore, 1), (39, .aload_n 0, 1), (40, .getfield 34, 3), (43, .bipush 6, 2), (45, .iaload, 1), (46, .ireturn, 1)]
theorem qX9_undo : ∀ q ∈ kX9_undo, decode mX9_undo.2.2.1 q.1 = .ok (q.2.1, q.2.2) ∧ am_iok mX9_undo.2.2.2.1 q.1 q.2.1 q.2.2 = true := by decide +kernel
set_option maxRecDepth 100000 in
theorem wX9_undo : Cond.code mX9_undo.2.1 mX9_undo.2.2.1 mX9_undo.2.2.2.1 mX9_undo.2.2.2.2.1 ∈ am_T := List.mem_filter.mpr ⟨List.mem_of_getElem? (i := 1999) rfl, rfl⟩
set_option maxHeartbeats 4000000 in
set_option maxRecDepth 100000 in
theorem tX9_undo (l : Launch) (d : Nat) {s0 : AS} {sE : AS} {rE : Int32} (hf : fX9_undo s0 = some (sE, rE)) : am_Ct l (d + 2) mX9_undo [.inr (.inr ((10, 0, 0), 215))] s0 sE (some (.inl rE)) := by
  refine am_sim l (d + 1) (code := kX9_undo) (by decide +kernel) wX9_undo qX9_undo (Nat.le_of_ble_eq_true rfl) ?_
  intro X hX
  show X 0 [(0, .inr (.inr ((10, 0, 0), 215)))] [] s0
  unfold fX9_undo at hf
  refine am_blk hX 0 3 (And.intro rfl (am_nl (Z := fun s1 => X 5 [(0, .inr (.inr ((10, 0, 0), 215)))] [] s1) hf (fun s1 hf => ?_)))
  obtain ⟨v2, hcv2, hf⟩ := am_r_of hf
  refine am_blk hX 3 3 (And.intro rfl (And.intro rfl (Exists.intro s1 (Exists.intro (some (.inl v2)) (And.intro (tX9_isMarch l (d + 0) hcv2) (And.intro (fun hb => ?_) (fun hb => ?_)))))))
  · have hf := am_if hf hb
    show X 15 [(0, .inr (.inr ((10, 0, 0), 215)))] [] s1
    obtain ⟨g3, hf⟩ := am_g_of hf
    refine am_blk hX 8 5 (And.intro rfl (And.intro rfl (And.intro g3 (And.intro (fun hb => ?_) (fun hb => ?_)))))
    · have hf := am_if hf hb
      show X 28 [(0, .inr (.inr ((10, 0, 0), 215)))] [] s1
      obtain ⟨g4, hf⟩ := am_g_of hf
      obtain ⟨g5, hf⟩ := am_g_of hf
      refine am_blk hX 15 8 (And.intro rfl (And.intro rfl (And.intro g4 (And.intro rfl (And.intro g5 (am_nl (Z := fun s6 => X 39 [(0, .inr (.inr ((10, 0, 0), 215)))] [] s6) hf (fun s6 hf => ?_)))))))
      obtain ⟨g7, hf⟩ := am_g_of hf
      refine am_blk hX 23 5 (And.intro rfl (And.intro rfl (And.intro g7 (am_ri hf))))
    · have hf := am_it hf hb
      show X 25 [(0, .inr (.inr ((10, 0, 0), 215)))] [] s1
      refine am_blk hX 13 2 (am_ri hf)
  · have hf := am_it hf hb
    show X 12 [(0, .inr (.inr ((10, 0, 0), 215)))] [] s1
    refine am_blk hX 6 2 (am_ri hf)
def fX9_votes (s0 : AS) (a1 : Int32) (a2 : Int32) : Option (AS × Int32) :=
  am_let (am_si s0 215 0 (0 : Int32)) (fun (s1 : AS) => am_r (fX9_isStep s1 a1) (fun (v2 : Int32) => am_let (some (s1, (-2 : Int32))) (fun J22 => if v2 = 0 then (J22) else (am_r (fX9_isPlace s1 a2.toInt64) (fun (v3 : Int32) => if v3 = 0 then (J22) else (am_c (fX9_laysNow s1) (fun (s5 : AS) (v4 : Unit) => am_r (fX9_votesFor s5 a1 a2 (0 : Int32)) (fun (v6 : Int32) => some (s5, v6)))))))))
def kX9_votes : List (Nat × Instr × Nat) := [(0, .aload_n 0, 1), (1, .iconst 0, 1), (2, .putfield 80, 3), (5, .aload_n 0, 1), (6, .iload_n 1, 1), (7, .invokevirtual 355, 3), (10, .ifCond .eq 12, 3), (13, .aload_n 0, 1), (14, .iload_n 2, 1), (15, .i2l, 1), (16, .invokevirtual 349, 3), (19, .ifCond .ne 6, 3), (22, .bipush (-2), 2), (24, .ireturn, 1), (25, .aload_n 0, 1), (26, .invokevirtual 358, 3), (29, .aload_n 0, 1), (30, .iload_n 1, 1), (31, .iload_n 2, 1), (32, .iconst 0, 1), (33, .invokevirtual 302, 3), (36, .ireturn, 1)]
theorem qX9_votes : ∀ q ∈ kX9_votes, decode mX9_votes.2.2.1 q.1 = .ok (q.2.1, q.2.2) ∧ am_iok mX9_votes.2.2.2.1 q.1 q.2.1 q.2.2 = true := by decide +kernel
set_option maxRecDepth 100000 in
theorem wX9_votes : Cond.code mX9_votes.2.1 mX9_votes.2.2.1 mX9_votes.2.2.2.1 mX9_votes.2.2.2.2.1 ∈ am_T := List.mem_filter.mpr ⟨List.mem_of_getElem? (i := 1706) rfl, rfl⟩
set_option maxHeartbeats 4000000 in
set_option maxRecDepth 100000 in
theorem tX9_votes (l : Launch) (d : Nat) {s0 : AS} {a1 : Int32} {a2 : Int32} {sE : AS} {rE : Int32} (hf : fX9_votes s0 a1 a2 = some (sE, rE)) : am_Ct l (d + 6) mX9_votes [.inr (.inr ((10, 0, 0), 215)), .inl a1, .inl a2] s0 sE (some (.inl rE)) := by
  refine am_sim l (d + 5) (code := kX9_votes) (by decide +kernel) wX9_votes qX9_votes (Nat.le_of_ble_eq_true rfl) ?_
  intro X hX
  show X 0 [(0, .inr (.inr ((10, 0, 0), 215))), (1, .inl a1), (2, .inl a2)] [] s0
  unfold fX9_votes at hf
  refine am_blk hX 0 3 (And.intro rfl (am_nl (Z := fun s1 => X 5 [(0, .inr (.inr ((10, 0, 0), 215))), (1, .inl a1), (2, .inl a2)] [] s1) hf (fun s1 hf => ?_)))
  obtain ⟨v2, hcv2, hf⟩ := am_r_of hf
  refine am_jn hf (fun J22 => J22 = some (sE, rE) → X 22 [] [] s1) ?_ ?_
  · intro hf
    refine am_blk hX 12 2 (am_ri hf)
  · intro J22 hJ22 hf
    refine am_blk hX 3 4 (And.intro rfl (And.intro rfl (Exists.intro s1 (Exists.intro (some (.inl v2)) (And.intro (tX9_isStep l (d + 3) hcv2) (And.intro (fun hb => ?_) (fun hb => ?_)))))))
    · have hf := am_it hf hb
      show X 22 [(0, .inr (.inr ((10, 0, 0), 215))), (1, .inl a1), (2, .inl a2)] [] s1
      exact am_wk hX [] (hJ22 hf)
    · have hf := am_if hf hb
      show X 13 [(0, .inr (.inr ((10, 0, 0), 215))), (1, .inl a1), (2, .inl a2)] [] s1
      obtain ⟨v3, hcv3, hf⟩ := am_r_of hf
      refine am_blk hX 7 5 (And.intro rfl (And.intro rfl (Exists.intro s1 (Exists.intro (some (.inl v3)) (And.intro (tX9_isPlace l (d + 3) hcv3) (And.intro (fun hb => ?_) (fun hb => ?_)))))))
      · have hf := am_if hf hb
        show X 25 [(0, .inr (.inr ((10, 0, 0), 215))), (1, .inl a1), (2, .inl a2)] [] s1
        obtain ⟨s5, v4, hcv4, hf⟩ := am_c_of hf
        obtain ⟨v6, hcv6, hf⟩ := am_r_of hf
        refine am_blk hX 14 8 (And.intro rfl (And.intro rfl (Exists.intro s5 (Exists.intro none (And.intro (tX9_laysNow l (d + 0) hcv4) (And.intro rfl (And.intro rfl (Exists.intro s5 (Exists.intro (some (.inl v6)) (And.intro (tX9_votesFor l (d + 3) hcv6) (am_ri hf)))))))))))
      · have hf := am_it hf hb
        show X 22 [(0, .inr (.inr ((10, 0, 0), 215))), (1, .inl a1), (2, .inl a2)] [] s1
        exact am_wk hX [] (hJ22 hf)
def fX9_waits_L25 (a1 : Int32) (s4 : AS) : Nat → Int32 → Int32 → Option (AS × Int32)
  | 0, _, _ => none
  | n25 + 1, x5, x6 =>
    if (60 : Int32) < x6 then (some (s4, x5)) else (am_g (¬ (x6 < 0 ∨ 61 ≤ x6.toNatClampNeg)) (am_g (¬ (((5 : Int32) * a1) < 0 ∨ 200 ≤ ((5 : Int32) * a1).toNatClampNeg)) (am_let (fun (x9 : Int32) => am_let (x5 + x9) (fun (x10 : Int32) => am_let (x6 + (1 : Int32)) (fun (x11 : Int32) => fX9_waits_L25 a1 s4 n25 x10 x11))) (fun J74 => am_let (J74 (0 : Int32)) (fun J73 => if (s4.1 229 x6.toNatClampNeg) = (s4.1 224 (((5 : Int32) * a1).toNatClampNeg)) then (am_g (¬ (a1 < 0 ∨ 8 ≤ a1.toNatClampNeg)) (am_let (J74 (1 : Int32)) (fun J69 => if (s4.1 233 a1.toNatClampNeg) = (-1 : Int32) then (J69) else (am_g (¬ (a1 < 0 ∨ 8 ≤ a1.toNatClampNeg)) (if (s4.1 233 a1.toNatClampNeg) ≤ x6 then (J73) else (J69)))))) else (J73))))))
def fX9_waits (s0 : AS) (a1 : Int32) : Option (AS × Int32) :=
  am_let (am_si s0 215 0 (0 : Int32)) (fun (s1 : AS) => am_r (fX9_isPerson s1 a1.toInt64) (fun (v2 : Int32) => if v2 = 0 then (some (s1, (-2 : Int32))) else (am_c (fX9_laysNow s1) (fun (s4 : AS) (v3 : Unit) => fX9_waits_L25 a1 s4 am_fu (0 : Int32) (0 : Int32)))))
def kX9_waits : List (Nat × Instr × Nat) := [(0, .aload_n 0, 1), (1, .iconst 0, 1), (2, .putfield 80, 3), (5, .aload_n 0, 1), (6, .iload_n 1, 1), (7, .i2l, 1), (8, .invokevirtual 344, 3), (11, .ifCond .ne 6, 3), (14, .bipush (-2), 2), (16, .ireturn, 1), (17, .aload_n 0, 1), (18, .invokevirtual 358, 3), (21, .iconst 0, 1), (22, .istore_n 2, 1), (23, .iconst 0, 1), (24, .istore_n 3, 1), (25, .iload_n 3, 1), (26, .bipush 60, 2), (28, .if_icmp .gt 54, 3), (31, .iload_n 2, 1), (32, .aload_n 0, 1), (33, .getfield 56, 3), (36, .iload_n 3, 1), (37, .iaload, 1), (38, .aload_n 0, 1), (39, .getfield 40, 3), (42, .iconst 5, 1), (43, .iload_n 1, 1), (44, .imul, 1), (45, .iaload, 1), (46, .if_icmp .ne 27, 3), (49, .aload_n 0, 1), (50, .getfield 68, 3), (53, .iload_n 1, 1), (54, .iaload, 1), (55, .iconst (-1), 1), (56, .if_icmp .eq 13, 3), (59, .aload_n 0, 1), (60, .getfield 68, 3), (63, .iload_n 1, 1), (64, .iaload, 1), (65, .iload_n 3, 1), (66, .if_icmp .le 7, 3), (69, .iconst 1, 1), (70, .goto 4, 3), (73, .iconst 0, 1), (74, .iadd, 1), (75, .istore_n 2, 1), (76, .iinc 3 1, 3), (79, .goto (-54), 3), (82, .iload_n 2, 1), (83, .ireturn, 1)]
theorem qX9_waits : ∀ q ∈ kX9_waits, decode mX9_waits.2.2.1 q.1 = .ok (q.2.1, q.2.2) ∧ am_iok mX9_waits.2.2.2.1 q.1 q.2.1 q.2.2 = true := by decide +kernel
set_option maxRecDepth 100000 in
theorem wX9_waits : Cond.code mX9_waits.2.1 mX9_waits.2.2.1 mX9_waits.2.2.2.1 mX9_waits.2.2.2.2.1 ∈ am_T := List.mem_filter.mpr ⟨List.mem_of_getElem? (i := 1810) rfl, rfl⟩
set_option maxHeartbeats 4000000 in
set_option maxRecDepth 100000 in
theorem tX9_waits (l : Launch) (d : Nat) {s0 : AS} {a1 : Int32} {sE : AS} {rE : Int32} (hf : fX9_waits s0 a1 = some (sE, rE)) : am_Ct l (d + 6) mX9_waits [.inr (.inr ((10, 0, 0), 215)), .inl a1] s0 sE (some (.inl rE)) := by
  refine am_sim l (d + 5) (code := kX9_waits) (by decide +kernel) wX9_waits qX9_waits (Nat.le_of_ble_eq_true rfl) ?_
  intro X hX
  show X 0 [(0, .inr (.inr ((10, 0, 0), 215))), (1, .inl a1)] [] s0
  unfold fX9_waits at hf
  refine am_blk hX 0 3 (And.intro rfl (am_nl (Z := fun s1 => X 5 [(0, .inr (.inr ((10, 0, 0), 215))), (1, .inl a1)] [] s1) hf (fun s1 hf => ?_)))
  obtain ⟨v2, hcv2, hf⟩ := am_r_of hf
  refine am_blk hX 3 5 (And.intro rfl (And.intro rfl (Exists.intro s1 (Exists.intro (some (.inl v2)) (And.intro (tX9_isPerson l (d + 3) hcv2) (And.intro (fun hb => ?_) (fun hb => ?_)))))))
  · have hf := am_if hf hb
    show X 17 [(0, .inr (.inr ((10, 0, 0), 215))), (1, .inl a1)] [] s1
    obtain ⟨s4, v3, hcv3, hf⟩ := am_c_of hf
    have hL25 : ∀ (n25 : Nat) (x5 : Int32) (x6 : Int32), fX9_waits_L25 a1 s4 n25 x5 x6 = some (sE, rE) → X 25 [(0, .inr (.inr ((10, 0, 0), 215))), (1, .inl a1), (2, .inl x5), (3, .inl x6)] [] s4 := by
      intro n25
      induction n25 with
      | zero => intro x5 x6 hf; exact am_no (show none = some _ from hf)
      | succ n25 ih25 =>
        intro x5 x6 hf
        refine am_blk hX 16 3 (And.intro (fun hb => ?_) (fun hb => ?_))
        · have hf := am_it hf hb
          show X 82 [(0, .inr (.inr ((10, 0, 0), 215))), (1, .inl a1), (2, .inl x5), (3, .inl x6)] [] s4
          refine am_blk hX 50 2 (am_ri hf)
        · have hf := am_if hf hb
          show X 31 [(0, .inr (.inr ((10, 0, 0), 215))), (1, .inl a1), (2, .inl x5), (3, .inl x6)] [] s4
          obtain ⟨g7, hf⟩ := am_g_of hf
          obtain ⟨g8, hf⟩ := am_g_of hf
          refine am_jn hf (fun J74 => ∀ (x9 : Int32), J74 x9 = some (sE, rE) → X 74 [(0, .inr (.inr ((10, 0, 0), 215))), (1, .inl a1), (3, .inl x6)] [.inl x9, .inl x5] s4) ?_ ?_
          · intro x9 hf
            refine am_blk hX 46 2 (am_nl (Z := fun x10 => X 76 [(2, .inl x10), (0, .inr (.inr ((10, 0, 0), 215))), (1, .inl a1), (3, .inl x6)] [] s4) hf (fun x10 hf => ?_))
            refine am_blk hX 48 1 (am_nl (Z := fun x11 => X 79 [(3, .inl x11), (2, .inl x10), (0, .inr (.inr ((10, 0, 0), 215))), (1, .inl a1)] [] s4) hf (fun x11 hf => ?_))
            refine am_blk hX 49 1 (?_)
            show X 25 [(3, .inl x11), (2, .inl x10), (0, .inr (.inr ((10, 0, 0), 215))), (1, .inl a1)] [] s4
            exact am_wk hX [2, 3, 1, 0] (ih25 x10 x11 hf)
          · intro J74 hJ74 hf
            refine am_jn hf (fun J73 => J73 = some (sE, rE) → X 73 [(0, .inr (.inr ((10, 0, 0), 215))), (1, .inl a1), (3, .inl x6)] [.inl x5] s4) ?_ ?_
            · intro hf
              refine am_blk hX 45 1 (?_)
              show X 74 [(0, .inr (.inr ((10, 0, 0), 215))), (1, .inl a1), (3, .inl x6)] [.inl (0 : Int32), .inl x5] s4
              exact am_wk hX [0, 1, 2] (hJ74 (0 : Int32) hf)
            · intro J73 hJ73 hf
              refine am_blk hX 19 12 (And.intro rfl (And.intro rfl (And.intro g7 (And.intro rfl (And.intro rfl (And.intro g8 (And.intro (fun hb => ?_) (fun hb => ?_))))))))
              · have hf := am_if hf hb
                show X 73 [(0, .inr (.inr ((10, 0, 0), 215))), (1, .inl a1), (2, .inl x5), (3, .inl x6)] [.inl x5] s4
                exact am_wk hX [0, 1, 3] (hJ73 hf)
              · have hf := am_it hf hb
                show X 49 [(0, .inr (.inr ((10, 0, 0), 215))), (1, .inl a1), (2, .inl x5), (3, .inl x6)] [.inl x5] s4
                obtain ⟨g12, hf⟩ := am_g_of hf
                refine am_jn hf (fun J69 => J69 = some (sE, rE) → X 69 [(0, .inr (.inr ((10, 0, 0), 215))), (1, .inl a1), (3, .inl x6)] [.inl x5] s4) ?_ ?_
                · intro hf
                  refine am_blk hX 43 2 (?_)
                  show X 74 [(0, .inr (.inr ((10, 0, 0), 215))), (1, .inl a1), (3, .inl x6)] [.inl (1 : Int32), .inl x5] s4
                  exact am_wk hX [0, 1, 2] (hJ74 (1 : Int32) hf)
                · intro J69 hJ69 hf
                  refine am_blk hX 31 6 (And.intro rfl (And.intro rfl (And.intro g12 (And.intro (fun hb => ?_) (fun hb => ?_)))))
                  · have hf := am_it hf hb
                    show X 69 [(0, .inr (.inr ((10, 0, 0), 215))), (1, .inl a1), (2, .inl x5), (3, .inl x6)] [.inl x5] s4
                    exact am_wk hX [0, 1, 3] (hJ69 hf)
                  · have hf := am_if hf hb
                    show X 59 [(0, .inr (.inr ((10, 0, 0), 215))), (1, .inl a1), (2, .inl x5), (3, .inl x6)] [.inl x5] s4
                    obtain ⟨g13, hf⟩ := am_g_of hf
                    refine am_blk hX 37 6 (And.intro rfl (And.intro rfl (And.intro g13 (And.intro (fun hb => ?_) (fun hb => ?_)))))
                    · have hf := am_it hf hb
                      show X 73 [(0, .inr (.inr ((10, 0, 0), 215))), (1, .inl a1), (2, .inl x5), (3, .inl x6)] [.inl x5] s4
                      exact am_wk hX [0, 1, 3] (hJ73 hf)
                    · have hf := am_if hf hb
                      show X 69 [(0, .inr (.inr ((10, 0, 0), 215))), (1, .inl a1), (2, .inl x5), (3, .inl x6)] [.inl x5] s4
                      exact am_wk hX [0, 1, 3] (hJ69 hf)
    refine am_blk hX 10 6 (And.intro rfl (And.intro rfl (Exists.intro s4 (Exists.intro none (And.intro (tX9_laysNow l (d + 0) hcv3) (?_))))))
    show X 25 [(3, .inl (0 : Int32)), (2, .inl (0 : Int32)), (0, .inr (.inr ((10, 0, 0), 215))), (1, .inl a1)] [] s4
    exact am_wk hX [2, 3, 1, 0] (hL25 am_fu (0 : Int32) (0 : Int32) hf)
  · have hf := am_it hf hb
    show X 14 [(0, .inr (.inr ((10, 0, 0), 215))), (1, .inl a1)] [] s1
    refine am_blk hX 8 2 (am_ri hf)
def fX9_walks_L44 (a1 : Int32) (s4 : AS) : Nat → Int32 → Int32 → Option (AS × Int32)
  | 0, _, _ => none
  | n44 + 1, x8, x9 =>
    am_g (¬ (a1 < 0 ∨ 8 ≤ a1.toNatClampNeg)) (am_let (fun (x11 : Int32) => if x11 < x9 then (some (s4, x8)) else (am_g (¬ (x9 < 0 ∨ 61 ≤ x9.toNatClampNeg)) (am_let (fun (x13 : Int32) => am_let (x8 + x13) (fun (x14 : Int32) => am_let (x9 + (1 : Int32)) (fun (x15 : Int32) => fX9_walks_L44 a1 s4 n44 x14 x15))) (fun J102 => if (s4.1 229 x9.toNatClampNeg) = (-1 : Int32) then (J102 (0 : Int32)) else (am_g (¬ ((x9 - (1 : Int32)) < 0 ∨ 61 ≤ (x9 - (1 : Int32)).toNatClampNeg)) (am_g (¬ (x9 < 0 ∨ 61 ≤ x9.toNatClampNeg)) (am_r (fX9_roadOf s4 (s4.1 229 ((x9 - (1 : Int32)).toNatClampNeg)) (s4.1 229 x9.toNatClampNeg)) (fun (v18 : Int32) => J102 v18)))))))) (fun J66 => if (s4.1 234 a1.toNatClampNeg) = (-1 : Int32) then (J66 (60 : Int32)) else (am_g (¬ (a1 < 0 ∨ 8 ≤ a1.toNatClampNeg)) (J66 (s4.1 234 a1.toNatClampNeg)))))
def fX9_walks (s0 : AS) (a1 : Int32) : Option (AS × Int32) :=
  am_let (am_si s0 215 0 (0 : Int32)) (fun (s1 : AS) => am_r (fX9_isPerson s1 a1.toInt64) (fun (v2 : Int32) => if v2 = 0 then (some (s1, (-2 : Int32))) else (am_c (fX9_laysNow s1) (fun (s4 : AS) (v3 : Unit) => am_g (¬ (a1 < 0 ∨ 8 ≤ a1.toNatClampNeg)) (if (s4.1 233 a1.toNatClampNeg) = (-1 : Int32) then (some (s4, (-1 : Int32))) else (am_g (¬ (a1 < 0 ∨ 8 ≤ a1.toNatClampNeg)) (am_let ((s4.1 233 a1.toNatClampNeg) + (1 : Int32)) (fun (x7 : Int32) => fX9_walks_L44 a1 s4 am_fu (0 : Int32) x7))))))))
def kX9_walks : List (Nat × Instr × Nat) := [(0, .aload_n 0, 1), (1, .iconst 0, 1), (2, .putfield 80, 3), (5, .aload_n 0, 1), (6, .iload_n 1, 1), (7, .i2l, 1), (8, .invokevirtual 344, 3), (11, .ifCond .ne 6, 3), (14, .bipush (-2), 2), (16, .ireturn, 1), (17, .aload_n 0, 1), (18, .invokevirtual 358, 3), (21, .aload_n 0, 1), (22, .getfield 68, 3), (25, .iload_n 1, 1), (26, .iaload, 1), (27, .iconst (-1), 1), (28, .if_icmp .ne 5, 3), (31, .iconst (-1), 1), (32, .ireturn, 1), (33, .iconst 0, 1), (34, .istore_n 2, 1), (35, .aload_n 0, 1), (36, .getfield 68, 3), (39, .iload_n 1, 1), (40, .iaload, 1), (41, .iconst 1, 1), (42, .iadd, 1), (43, .istore_n 3, 1), (44, .iload_n 3, 1), (45, .aload_n 0, 1), (46, .getfield 71, 3), (49, .iload_n 1, 1), (50, .iaload, 1), (51, .iconst (-1), 1), (52, .if_icmp .ne 8, 3), (55, .bipush 60, 2), (57, .goto 9, 3), (60, .aload_n 0, 1), (61, .getfield 71, 3), (64, .iload_n 1, 1), (65, .iaload, 1), (66, .if_icmp .gt 44, 3), (69, .iload_n 2, 1), (70, .aload_n 0, 1), (71, .getfield 56, 3), (74, .iload_n 3, 1), (75, .iaload, 1), (76, .iconst (-1), 1), (77, .if_icmp .ne 7, 3), (80, .iconst 0, 1), (81, .goto 21, 3), (84, .aload_n 0, 1), (85, .aload_n 0, 1), (86, .getfield 56, 3), (89, .iload_n 3, 1), (90, .iconst 1, 1), (91, .isub, 1), (92, .iaload, 1), (93, .aload_n 0, 1), (94, .getfield 56, 3), (97, .iload_n 3, 1), (98, .iaload, 1), (99, .invokevirtual 364, 3), (102, .iadd, 1), (103, .istore_n 2, 1), (104, .iinc 3 1, 3), (107, .goto (-63), 3), (110, .iload_n 2, 1), (111, .ireturn, 1)]
theorem qX9_walks : ∀ q ∈ kX9_walks, decode mX9_walks.2.2.1 q.1 = .ok (q.2.1, q.2.2) ∧ am_iok mX9_walks.2.2.2.1 q.1 q.2.1 q.2.2 = true := by decide +kernel
set_option maxRecDepth 100000 in
theorem wX9_walks : Cond.code mX9_walks.2.1 mX9_walks.2.2.1 mX9_walks.2.2.2.1 mX9_walks.2.2.2.2.1 ∈ am_T := List.mem_filter.mpr ⟨List.mem_of_getElem? (i := 1786) rfl, rfl⟩
set_option maxHeartbeats 4000000 in
set_option maxRecDepth 100000 in
theorem tX9_walks (l : Launch) (d : Nat) {s0 : AS} {a1 : Int32} {sE : AS} {rE : Int32} (hf : fX9_walks s0 a1 = some (sE, rE)) : am_Ct l (d + 6) mX9_walks [.inr (.inr ((10, 0, 0), 215)), .inl a1] s0 sE (some (.inl rE)) := by
  refine am_sim l (d + 5) (code := kX9_walks) (by decide +kernel) wX9_walks qX9_walks (Nat.le_of_ble_eq_true rfl) ?_
  intro X hX
  show X 0 [(0, .inr (.inr ((10, 0, 0), 215))), (1, .inl a1)] [] s0
  unfold fX9_walks at hf
  refine am_blk hX 0 3 (And.intro rfl (am_nl (Z := fun s1 => X 5 [(0, .inr (.inr ((10, 0, 0), 215))), (1, .inl a1)] [] s1) hf (fun s1 hf => ?_)))
  obtain ⟨v2, hcv2, hf⟩ := am_r_of hf
  refine am_blk hX 3 5 (And.intro rfl (And.intro rfl (Exists.intro s1 (Exists.intro (some (.inl v2)) (And.intro (tX9_isPerson l (d + 3) hcv2) (And.intro (fun hb => ?_) (fun hb => ?_)))))))
  · have hf := am_if hf hb
    show X 17 [(0, .inr (.inr ((10, 0, 0), 215))), (1, .inl a1)] [] s1
    obtain ⟨s4, v3, hcv3, hf⟩ := am_c_of hf
    obtain ⟨g5, hf⟩ := am_g_of hf
    refine am_blk hX 10 8 (And.intro rfl (And.intro rfl (Exists.intro s4 (Exists.intro none (And.intro (tX9_laysNow l (d + 0) hcv3) (And.intro rfl (And.intro rfl (And.intro g5 (And.intro (fun hb => ?_) (fun hb => ?_))))))))))
    · have hf := am_if hf hb
      show X 33 [(0, .inr (.inr ((10, 0, 0), 215))), (1, .inl a1)] [] s4
      obtain ⟨g6, hf⟩ := am_g_of hf
      refine am_blk hX 20 9 (And.intro rfl (And.intro rfl (And.intro g6 (am_nl (Z := fun x7 => X 44 [(3, .inl x7), (2, .inl (0 : Int32)), (0, .inr (.inr ((10, 0, 0), 215))), (1, .inl a1)] [] s4) hf (fun x7 hf => ?_)))))
      have hL44 : ∀ (n44 : Nat) (x8 : Int32) (x9 : Int32), fX9_walks_L44 a1 s4 n44 x8 x9 = some (sE, rE) → X 44 [(0, .inr (.inr ((10, 0, 0), 215))), (1, .inl a1), (2, .inl x8), (3, .inl x9)] [] s4 := by
        intro n44
        induction n44 with
        | zero => intro x8 x9 hf; exact am_no (show none = some _ from hf)
        | succ n44 ih44 =>
          intro x8 x9 hf
          obtain ⟨g10, hf⟩ := am_g_of hf
          refine am_jn hf (fun J66 => ∀ (x11 : Int32), J66 x11 = some (sE, rE) → X 66 [(0, .inr (.inr ((10, 0, 0), 215))), (1, .inl a1), (2, .inl x8), (3, .inl x9)] [.inl x11, .inl x9] s4) ?_ ?_
          · intro x11 hf
            refine am_blk hX 42 1 (And.intro (fun hb => ?_) (fun hb => ?_))
            · have hf := am_it hf hb
              show X 110 [(0, .inr (.inr ((10, 0, 0), 215))), (1, .inl a1), (2, .inl x8), (3, .inl x9)] [] s4
              refine am_blk hX 68 2 (am_ri hf)
            · have hf := am_if hf hb
              show X 69 [(0, .inr (.inr ((10, 0, 0), 215))), (1, .inl a1), (2, .inl x8), (3, .inl x9)] [] s4
              obtain ⟨g12, hf⟩ := am_g_of hf
              refine am_jn hf (fun J102 => ∀ (x13 : Int32), J102 x13 = some (sE, rE) → X 102 [(0, .inr (.inr ((10, 0, 0), 215))), (1, .inl a1), (3, .inl x9)] [.inl x13, .inl x8] s4) ?_ ?_
              · intro x13 hf
                refine am_blk hX 64 2 (am_nl (Z := fun x14 => X 104 [(2, .inl x14), (0, .inr (.inr ((10, 0, 0), 215))), (1, .inl a1), (3, .inl x9)] [] s4) hf (fun x14 hf => ?_))
                refine am_blk hX 66 1 (am_nl (Z := fun x15 => X 107 [(3, .inl x15), (2, .inl x14), (0, .inr (.inr ((10, 0, 0), 215))), (1, .inl a1)] [] s4) hf (fun x15 hf => ?_))
                refine am_blk hX 67 1 (?_)
                show X 44 [(3, .inl x15), (2, .inl x14), (0, .inr (.inr ((10, 0, 0), 215))), (1, .inl a1)] [] s4
                exact am_wk hX [2, 3, 1, 0] (ih44 x14 x15 hf)
              · intro J102 hJ102 hf
                refine am_blk hX 43 7 (And.intro rfl (And.intro rfl (And.intro g12 (And.intro (fun hb => ?_) (fun hb => ?_)))))
                · have hf := am_if hf hb
                  show X 84 [(0, .inr (.inr ((10, 0, 0), 215))), (1, .inl a1), (2, .inl x8), (3, .inl x9)] [.inl x8] s4
                  obtain ⟨g16, hf⟩ := am_g_of hf
                  obtain ⟨g17, hf⟩ := am_g_of hf
                  obtain ⟨v18, hcv18, hf⟩ := am_r_of hf
                  refine am_blk hX 52 12 (And.intro rfl (And.intro rfl (And.intro g16 (And.intro rfl (And.intro rfl (And.intro g17 (And.intro rfl (And.intro rfl (Exists.intro s4 (Exists.intro (some (.inl v18)) (And.intro (tX9_roadOf l (d + 3) hcv18) (?_))))))))))))
                  show X 102 [(0, .inr (.inr ((10, 0, 0), 215))), (1, .inl a1), (2, .inl x8), (3, .inl x9)] [.inl v18, .inl x8] s4
                  exact am_wk hX [0, 1, 3] (hJ102 v18 hf)
                · have hf := am_it hf hb
                  show X 80 [(0, .inr (.inr ((10, 0, 0), 215))), (1, .inl a1), (2, .inl x8), (3, .inl x9)] [.inl x8] s4
                  refine am_blk hX 50 2 (?_)
                  show X 102 [(0, .inr (.inr ((10, 0, 0), 215))), (1, .inl a1), (2, .inl x8), (3, .inl x9)] [.inl (0 : Int32), .inl x8] s4
                  exact am_wk hX [0, 1, 3] (hJ102 (0 : Int32) hf)
          · intro J66 hJ66 hf
            refine am_blk hX 29 7 (And.intro rfl (And.intro rfl (And.intro g10 (And.intro (fun hb => ?_) (fun hb => ?_)))))
            · have hf := am_if hf hb
              show X 60 [(0, .inr (.inr ((10, 0, 0), 215))), (1, .inl a1), (2, .inl x8), (3, .inl x9)] [.inl x9] s4
              obtain ⟨g19, hf⟩ := am_g_of hf
              refine am_blk hX 38 4 (And.intro rfl (And.intro rfl (And.intro g19 (?_))))
              show X 66 [(0, .inr (.inr ((10, 0, 0), 215))), (1, .inl a1), (2, .inl x8), (3, .inl x9)] [.inl (s4.1 234 a1.toNatClampNeg), .inl x9] s4
              exact am_wk hX [0, 1, 2, 3] (hJ66 (s4.1 234 a1.toNatClampNeg) hf)
            · have hf := am_it hf hb
              show X 55 [(0, .inr (.inr ((10, 0, 0), 215))), (1, .inl a1), (2, .inl x8), (3, .inl x9)] [.inl x9] s4
              refine am_blk hX 36 2 (?_)
              show X 66 [(0, .inr (.inr ((10, 0, 0), 215))), (1, .inl a1), (2, .inl x8), (3, .inl x9)] [.inl (60 : Int32), .inl x9] s4
              exact am_wk hX [0, 1, 2, 3] (hJ66 (60 : Int32) hf)
      exact am_wk hX [2, 3, 1, 0] (hL44 am_fu (0 : Int32) x7 hf)
    · have hf := am_it hf hb
      show X 31 [(0, .inr (.inr ((10, 0, 0), 215))), (1, .inl a1)] [] s4
      refine am_blk hX 18 2 (am_ri hf)
  · have hf := am_it hf hb
    show X 14 [(0, .inr (.inr ((10, 0, 0), 215))), (1, .inl a1)] [] s1
    refine am_blk hX 8 2 (am_ri hf)
def fX9_way (s0 : AS) (a1 : Int32) (a2 : Int32) : Option (AS × Int32) :=
  am_let (am_si s0 215 0 (0 : Int32)) (fun (s1 : AS) => am_c (fX9_arePlaces s1 a1 a2) (fun (s3 : AS) (v2 : Int32) => if v2 = 0 then (some (s3, (-2 : Int32))) else (am_g (¬ ((((7 : Int32) * a1) + a2) < 0 ∨ 49 ≤ (((7 : Int32) * a1) + a2).toNatClampNeg)) (am_let (fun (x5 : Int32) => some (s3, x5)) (fun J48 => if (s3.1 228 ((((7 : Int32) * a1) + a2).toNatClampNeg)) < (100000 : Int32) then (am_g (¬ ((((7 : Int32) * a1) + a2) < 0 ∨ 49 ≤ (((7 : Int32) * a1) + a2).toNatClampNeg)) (J48 (s3.1 228 ((((7 : Int32) * a1) + a2).toNatClampNeg)))) else (J48 (-1 : Int32)))))))
def kX9_way : List (Nat × Instr × Nat) := [(0, .aload_n 0, 1), (1, .iconst 0, 1), (2, .putfield 80, 3), (5, .aload_n 0, 1), (6, .iload_n 1, 1), (7, .iload_n 2, 1), (8, .invokevirtual 352, 3), (11, .ifCond .ne 6, 3), (14, .bipush (-2), 2), (16, .ireturn, 1), (17, .aload_n 0, 1), (18, .getfield 53, 3), (21, .bipush 7, 2), (23, .iload_n 1, 1), (24, .imul, 1), (25, .iload_n 2, 1), (26, .iadd, 1), (27, .iaload, 1), (28, .ldc 130, 2), (30, .if_icmp .lt 7, 3), (33, .iconst (-1), 1), (34, .goto 14, 3), (37, .aload_n 0, 1), (38, .getfield 53, 3), (41, .bipush 7, 2), (43, .iload_n 1, 1), (44, .imul, 1), (45, .iload_n 2, 1), (46, .iadd, 1), (47, .iaload, 1), (48, .ireturn, 1)]
theorem qX9_way : ∀ q ∈ kX9_way, decode mX9_way.2.2.1 q.1 = .ok (q.2.1, q.2.2) ∧ am_iok mX9_way.2.2.2.1 q.1 q.2.1 q.2.2 = true := by decide +kernel
set_option maxRecDepth 100000 in
theorem wX9_way : Cond.code mX9_way.2.1 mX9_way.2.2.1 mX9_way.2.2.2.1 mX9_way.2.2.2.2.1 ∈ am_T := List.mem_filter.mpr ⟨List.mem_of_getElem? (i := 1619) rfl, rfl⟩
set_option maxHeartbeats 4000000 in
set_option maxRecDepth 100000 in
theorem tX9_way (l : Launch) (d : Nat) {s0 : AS} {a1 : Int32} {a2 : Int32} {sE : AS} {rE : Int32} (hf : fX9_way s0 a1 a2 = some (sE, rE)) : am_Ct l (d + 4) mX9_way [.inr (.inr ((10, 0, 0), 215)), .inl a1, .inl a2] s0 sE (some (.inl rE)) := by
  refine am_sim l (d + 3) (code := kX9_way) (by decide +kernel) wX9_way qX9_way (Nat.le_of_ble_eq_true rfl) ?_
  intro X hX
  show X 0 [(0, .inr (.inr ((10, 0, 0), 215))), (1, .inl a1), (2, .inl a2)] [] s0
  unfold fX9_way at hf
  refine am_blk hX 0 3 (And.intro rfl (am_nl (Z := fun s1 => X 5 [(0, .inr (.inr ((10, 0, 0), 215))), (1, .inl a1), (2, .inl a2)] [] s1) hf (fun s1 hf => ?_)))
  obtain ⟨s3, v2, hcv2, hf⟩ := am_c_of hf
  refine am_blk hX 3 5 (And.intro rfl (And.intro rfl (Exists.intro s3 (Exists.intro (some (.inl v2)) (And.intro (tX9_arePlaces l (d + 0) hcv2) (And.intro (fun hb => ?_) (fun hb => ?_)))))))
  · have hf := am_if hf hb
    show X 17 [(0, .inr (.inr ((10, 0, 0), 215))), (1, .inl a1), (2, .inl a2)] [] s3
    obtain ⟨g4, hf⟩ := am_g_of hf
    refine am_jn hf (fun J48 => ∀ (x5 : Int32), J48 x5 = some (sE, rE) → X 48 [] [.inl x5] s3) ?_ ?_
    · intro x5 hf
      refine am_blk hX 30 1 (am_ri hf)
    · intro J48 hJ48 hf
      refine am_blk hX 10 10 (And.intro rfl (And.intro rfl (And.intro g4 (And.intro (fun hb => ?_) (fun hb => ?_)))))
      · have hf := am_it hf hb
        show X 37 [(0, .inr (.inr ((10, 0, 0), 215))), (1, .inl a1), (2, .inl a2)] [] s3
        obtain ⟨g6, hf⟩ := am_g_of hf
        refine am_blk hX 22 8 (And.intro rfl (And.intro rfl (And.intro g6 (?_))))
        show X 48 [(0, .inr (.inr ((10, 0, 0), 215))), (1, .inl a1), (2, .inl a2)] [.inl (s3.1 228 ((((7 : Int32) * a1) + a2).toNatClampNeg))] s3
        exact am_wk hX [] (hJ48 (s3.1 228 ((((7 : Int32) * a1) + a2).toNatClampNeg)) hf)
      · have hf := am_if hf hb
        show X 33 [(0, .inr (.inr ((10, 0, 0), 215))), (1, .inl a1), (2, .inl a2)] [] s3
        refine am_blk hX 20 2 (?_)
        show X 48 [(0, .inr (.inr ((10, 0, 0), 215))), (1, .inl a1), (2, .inl a2)] [.inl (-1 : Int32)] s3
        exact am_wk hX [] (hJ48 (-1 : Int32) hf)
  · have hf := am_it hf hb
    show X 14 [(0, .inr (.inr ((10, 0, 0), 215))), (1, .inl a1), (2, .inl a2)] [] s3
    refine am_blk hX 8 2 (am_ri hf)
def fX9_weighs_L24 (a1 : Int32) (s4 : AS) : Nat → Int32 → Int32 → Option (AS × Int32)
  | 0, _, _ => none
  | n24 + 1, x5, x6 =>
    am_r (fX9_people s4) (fun (v7 : Int32) => if v7 ≤ x6 then (some (s4, x5)) else (am_g (¬ (a1 < 0 ∨ 61 ≤ a1.toNatClampNeg)) (am_r (fX9_isBit (s4.1 230 a1.toNatClampNeg) x6) (fun (v9 : Int32) => am_let (fun (x10 : Int32) => am_let (x5 + x10) (fun (x11 : Int32) => am_let (x6 + (1 : Int32)) (fun (x12 : Int32) => fX9_weighs_L24 a1 s4 n24 x11 x12))) (fun J60 => if v9 = 0 then (J60 (0 : Int32)) else (am_g (¬ ((((5 : Int32) * x6) + (4 : Int32)) < 0 ∨ 200 ≤ (((5 : Int32) * x6) + (4 : Int32)).toNatClampNeg)) (J60 (s4.1 224 ((((5 : Int32) * x6) + (4 : Int32)).toNatClampNeg)))))))))
def fX9_weighs (s0 : AS) (a1 : Int32) : Option (AS × Int32) :=
  am_let (am_si s0 215 0 (0 : Int32)) (fun (s1 : AS) => am_r (fX9_isStep s1 a1) (fun (v2 : Int32) => if v2 = 0 then (some (s1, (-2 : Int32))) else (am_c (fX9_laysNow s1) (fun (s4 : AS) (v3 : Unit) => fX9_weighs_L24 a1 s4 am_fu (0 : Int32) (0 : Int32)))))
def kX9_weighs : List (Nat × Instr × Nat) := [(0, .aload_n 0, 1), (1, .iconst 0, 1), (2, .putfield 80, 3), (5, .aload_n 0, 1), (6, .iload_n 1, 1), (7, .invokevirtual 355, 3), (10, .ifCond .ne 6, 3), (13, .bipush (-2), 2), (15, .ireturn, 1), (16, .aload_n 0, 1), (17, .invokevirtual 358, 3), (20, .iconst 0, 1), (21, .istore_n 2, 1), (22, .iconst 0, 1), (23, .istore_n 3, 1), (24, .iload_n 3, 1), (25, .aload_n 0, 1), (26, .invokevirtual 248, 3), (29, .if_icmp .ge 39, 3), (32, .iload_n 2, 1), (33, .aload_n 0, 1), (34, .getfield 59, 3), (37, .iload_n 1, 1), (38, .iaload, 1), (39, .iload_n 3, 1), (40, .invokestatic 280, 3), (43, .ifCond .eq 16, 3), (46, .aload_n 0, 1), (47, .getfield 40, 3), (50, .iconst 5, 1), (51, .iload_n 3, 1), (52, .imul, 1), (53, .iconst 4, 1), (54, .iadd, 1), (55, .iaload, 1), (56, .goto 4, 3), (59, .iconst 0, 1), (60, .iadd, 1), (61, .istore_n 2, 1), (62, .iinc 3 1, 3), (65, .goto (-41), 3), (68, .iload_n 2, 1), (69, .ireturn, 1)]
theorem qX9_weighs : ∀ q ∈ kX9_weighs, decode mX9_weighs.2.2.1 q.1 = .ok (q.2.1, q.2.2) ∧ am_iok mX9_weighs.2.2.2.1 q.1 q.2.1 q.2.2 = true := by decide +kernel
set_option maxRecDepth 100000 in
theorem wX9_weighs : Cond.code mX9_weighs.2.1 mX9_weighs.2.2.1 mX9_weighs.2.2.2.1 mX9_weighs.2.2.2.2.1 ∈ am_T := List.mem_filter.mpr ⟨List.mem_of_getElem? (i := 1766) rfl, rfl⟩
set_option maxHeartbeats 4000000 in
set_option maxRecDepth 100000 in
theorem tX9_weighs (l : Launch) (d : Nat) {s0 : AS} {a1 : Int32} {sE : AS} {rE : Int32} (hf : fX9_weighs s0 a1 = some (sE, rE)) : am_Ct l (d + 6) mX9_weighs [.inr (.inr ((10, 0, 0), 215)), .inl a1] s0 sE (some (.inl rE)) := by
  refine am_sim l (d + 5) (code := kX9_weighs) (by decide +kernel) wX9_weighs qX9_weighs (Nat.le_of_ble_eq_true rfl) ?_
  intro X hX
  show X 0 [(0, .inr (.inr ((10, 0, 0), 215))), (1, .inl a1)] [] s0
  unfold fX9_weighs at hf
  refine am_blk hX 0 3 (And.intro rfl (am_nl (Z := fun s1 => X 5 [(0, .inr (.inr ((10, 0, 0), 215))), (1, .inl a1)] [] s1) hf (fun s1 hf => ?_)))
  obtain ⟨v2, hcv2, hf⟩ := am_r_of hf
  refine am_blk hX 3 4 (And.intro rfl (And.intro rfl (Exists.intro s1 (Exists.intro (some (.inl v2)) (And.intro (tX9_isStep l (d + 3) hcv2) (And.intro (fun hb => ?_) (fun hb => ?_)))))))
  · have hf := am_if hf hb
    show X 16 [(0, .inr (.inr ((10, 0, 0), 215))), (1, .inl a1)] [] s1
    obtain ⟨s4, v3, hcv3, hf⟩ := am_c_of hf
    have hL24 : ∀ (n24 : Nat) (x5 : Int32) (x6 : Int32), fX9_weighs_L24 a1 s4 n24 x5 x6 = some (sE, rE) → X 24 [(0, .inr (.inr ((10, 0, 0), 215))), (1, .inl a1), (2, .inl x5), (3, .inl x6)] [] s4 := by
      intro n24
      induction n24 with
      | zero => intro x5 x6 hf; exact am_no (show none = some _ from hf)
      | succ n24 ih24 =>
        intro x5 x6 hf
        obtain ⟨v7, hcv7, hf⟩ := am_r_of hf
        refine am_blk hX 15 4 (And.intro rfl (And.intro rfl (Exists.intro s4 (Exists.intro (some (.inl v7)) (And.intro (tX9_people l (d + 4) hcv7) (And.intro (fun hb => ?_) (fun hb => ?_)))))))
        · have hf := am_it hf hb
          show X 68 [(0, .inr (.inr ((10, 0, 0), 215))), (1, .inl a1), (2, .inl x5), (3, .inl x6)] [] s4
          refine am_blk hX 41 2 (am_ri hf)
        · have hf := am_if hf hb
          show X 32 [(0, .inr (.inr ((10, 0, 0), 215))), (1, .inl a1), (2, .inl x5), (3, .inl x6)] [] s4
          obtain ⟨g8, hf⟩ := am_g_of hf
          obtain ⟨v9, hcv9, hf⟩ := am_r_of hf
          refine am_jn hf (fun J60 => ∀ (x10 : Int32), J60 x10 = some (sE, rE) → X 60 [(0, .inr (.inr ((10, 0, 0), 215))), (1, .inl a1), (3, .inl x6)] [.inl x10, .inl x5] s4) ?_ ?_
          · intro x10 hf
            refine am_blk hX 37 2 (am_nl (Z := fun x11 => X 62 [(2, .inl x11), (0, .inr (.inr ((10, 0, 0), 215))), (1, .inl a1), (3, .inl x6)] [] s4) hf (fun x11 hf => ?_))
            refine am_blk hX 39 1 (am_nl (Z := fun x12 => X 65 [(3, .inl x12), (2, .inl x11), (0, .inr (.inr ((10, 0, 0), 215))), (1, .inl a1)] [] s4) hf (fun x12 hf => ?_))
            refine am_blk hX 40 1 (?_)
            show X 24 [(3, .inl x12), (2, .inl x11), (0, .inr (.inr ((10, 0, 0), 215))), (1, .inl a1)] [] s4
            exact am_wk hX [2, 3, 1, 0] (ih24 x11 x12 hf)
          · intro J60 hJ60 hf
            refine am_blk hX 19 8 (And.intro rfl (And.intro rfl (And.intro g8 (And.intro rfl (Exists.intro s4 (Exists.intro (some (.inl v9)) (And.intro (tX9_isBit l (d + 4) hcv9) (And.intro (fun hb => ?_) (fun hb => ?_)))))))))
            · have hf := am_it hf hb
              show X 59 [(0, .inr (.inr ((10, 0, 0), 215))), (1, .inl a1), (2, .inl x5), (3, .inl x6)] [.inl x5] s4
              refine am_blk hX 36 1 (?_)
              show X 60 [(0, .inr (.inr ((10, 0, 0), 215))), (1, .inl a1), (2, .inl x5), (3, .inl x6)] [.inl (0 : Int32), .inl x5] s4
              exact am_wk hX [0, 1, 3] (hJ60 (0 : Int32) hf)
            · have hf := am_if hf hb
              show X 46 [(0, .inr (.inr ((10, 0, 0), 215))), (1, .inl a1), (2, .inl x5), (3, .inl x6)] [.inl x5] s4
              obtain ⟨g13, hf⟩ := am_g_of hf
              refine am_blk hX 27 9 (And.intro rfl (And.intro rfl (And.intro g13 (?_))))
              show X 60 [(0, .inr (.inr ((10, 0, 0), 215))), (1, .inl a1), (2, .inl x5), (3, .inl x6)] [.inl (s4.1 224 ((((5 : Int32) * x6) + (4 : Int32)).toNatClampNeg)), .inl x5] s4
              exact am_wk hX [0, 1, 3] (hJ60 (s4.1 224 ((((5 : Int32) * x6) + (4 : Int32)).toNatClampNeg)) hf)
    refine am_blk hX 9 6 (And.intro rfl (And.intro rfl (Exists.intro s4 (Exists.intro none (And.intro (tX9_laysNow l (d + 0) hcv3) (?_))))))
    show X 24 [(3, .inl (0 : Int32)), (2, .inl (0 : Int32)), (0, .inr (.inr ((10, 0, 0), 215))), (1, .inl a1)] [] s4
    exact am_wk hX [2, 3, 1, 0] (hL24 am_fu (0 : Int32) (0 : Int32) hf)
  · have hf := am_it hf hb
    show X 13 [(0, .inr (.inr ((10, 0, 0), 215))), (1, .inl a1)] [] s1
    refine am_blk hX 7 2 (am_ri hf)
def fX9_why (s0 : AS) : Option (AS × Int32) :=
  am_let (am_si s0 215 0 (0 : Int32)) (fun (s1 : AS) => am_r (fX9_isMarch s1) (fun (v2 : Int32) => if v2 = 0 then (some (s1, (-2 : Int32))) else (am_c (fX9_laysNow s1) (fun (s4 : AS) (v3 : Unit) => some (s4, s4.1 215 46)))))
def kX9_why : List (Nat × Instr × Nat) := [(0, .aload_n 0, 1), (1, .iconst 0, 1), (2, .putfield 80, 3), (5, .aload_n 0, 1), (6, .invokevirtual 251, 3), (9, .ifCond .ne 6, 3), (12, .bipush (-2), 2), (14, .ireturn, 1), (15, .aload_n 0, 1), (16, .invokevirtual 358, 3), (19, .aload_n 0, 1), (20, .getfield 312, 3), (23, .ireturn, 1)]
theorem qX9_why : ∀ q ∈ kX9_why, decode mX9_why.2.2.1 q.1 = .ok (q.2.1, q.2.2) ∧ am_iok mX9_why.2.2.2.1 q.1 q.2.1 q.2.2 = true := by decide +kernel
set_option maxRecDepth 100000 in
theorem wX9_why : Cond.code mX9_why.2.1 mX9_why.2.2.1 mX9_why.2.2.2.1 mX9_why.2.2.2.2.1 ∈ am_T := List.mem_filter.mpr ⟨List.mem_of_getElem? (i := 1722) rfl, rfl⟩
set_option maxHeartbeats 4000000 in
set_option maxRecDepth 100000 in
theorem tX9_why (l : Launch) (d : Nat) {s0 : AS} {sE : AS} {rE : Int32} (hf : fX9_why s0 = some (sE, rE)) : am_Ct l (d + 6) mX9_why [.inr (.inr ((10, 0, 0), 215))] s0 sE (some (.inl rE)) := by
  refine am_sim l (d + 5) (code := kX9_why) (by decide +kernel) wX9_why qX9_why (Nat.le_of_ble_eq_true rfl) ?_
  intro X hX
  show X 0 [(0, .inr (.inr ((10, 0, 0), 215)))] [] s0
  unfold fX9_why at hf
  refine am_blk hX 0 3 (And.intro rfl (am_nl (Z := fun s1 => X 5 [(0, .inr (.inr ((10, 0, 0), 215)))] [] s1) hf (fun s1 hf => ?_)))
  obtain ⟨v2, hcv2, hf⟩ := am_r_of hf
  refine am_blk hX 3 3 (And.intro rfl (And.intro rfl (Exists.intro s1 (Exists.intro (some (.inl v2)) (And.intro (tX9_isMarch l (d + 4) hcv2) (And.intro (fun hb => ?_) (fun hb => ?_)))))))
  · have hf := am_if hf hb
    show X 15 [(0, .inr (.inr ((10, 0, 0), 215)))] [] s1
    obtain ⟨s4, v3, hcv3, hf⟩ := am_c_of hf
    refine am_blk hX 8 5 (And.intro rfl (And.intro rfl (Exists.intro s4 (Exists.intro none (And.intro (tX9_laysNow l (d + 0) hcv3) (And.intro rfl (am_ri hf)))))))
  · have hf := am_it hf hb
    show X 12 [(0, .inr (.inr ((10, 0, 0), 215)))] [] s1
    refine am_blk hX 6 2 (am_ri hf)
def fX9_write (s0 : AS) (a1 : Int32) (a2 : Int32) (a3 : Int64) : Option (AS × Int32) :=
  am_let (am_si s0 215 0 (0 : Int32)) (fun (s1 : AS) => am_r (fX9_isSlot a1) (fun (v2 : Int32) => if v2 = 0 then (some (s1, (-2 : Int32))) else (am_g (¬ (a1 < 0 ∨ 4 ≤ a1.toNatClampNeg)) (if (s1.1 216 a1.toNatClampNeg) = (-1 : Int32) then (some (s1, (-6 : Int32))) else (am_g (¬ (a1 < 0 ∨ 4 ≤ a1.toNatClampNeg)) (am_r (fX9_in a2.toInt64 (0 : Int64) (((s1.1 217 a1.toNatClampNeg) - (1 : Int32)).toInt64)) (fun (v5 : Int32) => if v5 = 0 then (some (s1, (-7 : Int32))) else (am_g (¬ (a1 < 0 ∨ 4 ≤ a1.toNatClampNeg)) (am_r (fX9_cut a3 (s1.1 216 a1.toNatClampNeg)) (fun (v7 : Int64) => am_g (¬ ((((60 : Int32) * a1) + a2) < 0 ∨ 240 ≤ (((60 : Int32) * a1) + a2).toNatClampNeg)) (am_let (am_sj s1 218 ((((60 : Int32) * a1) + a2).toNatClampNeg) v7) (fun (s9 : AS) => some (s9, (0 : Int32))))))))))))))
def kX9_write : List (Nat × Instr × Nat) := [(0, .aload_n 0, 1), (1, .iconst 0, 1), (2, .putfield 80, 3), (5, .iload_n 1, 1), (6, .invokestatic 89, 3), (9, .ifCond .ne 6, 3), (12, .bipush (-2), 2), (14, .ireturn, 1), (15, .aload_n 0, 1), (16, .getfield 7, 3), (19, .iload_n 1, 1), (20, .iaload, 1), (21, .iconst (-1), 1), (22, .if_icmp .ne 6, 3), (25, .bipush (-6), 2), (27, .ireturn, 1), (28, .iload_n 2, 1), (29, .i2l, 1), (30, .lconst 0, 1), (31, .aload_n 0, 1), (32, .getfield 13, 3), (35, .iload_n 1, 1), (36, .iaload, 1), (37, .iconst 1, 1), (38, .isub, 1), (39, .i2l, 1), (40, .invokestatic 85, 3), (43, .ifCond .ne 6, 3), (46, .bipush (-7), 2), (48, .ireturn, 1), (49, .aload_n 0, 1), (50, .getfield 16, 3), (53, .bipush 60, 2), (55, .iload_n 1, 1), (56, .imul, 1), (57, .iload_n 2, 1), (58, .iadd, 1), (59, .lload_n 3, 1), (60, .aload_n 0, 1), (61, .getfield 7, 3), (64, .iload_n 1, 1), (65, .iaload, 1), (66, .invokestatic 93, 3), (69, .lastore, 1), (70, .iconst 0, 1), (71, .ireturn, 1)]
theorem qX9_write : ∀ q ∈ kX9_write, decode mX9_write.2.2.1 q.1 = .ok (q.2.1, q.2.2) ∧ am_iok mX9_write.2.2.2.1 q.1 q.2.1 q.2.2 = true := by decide +kernel
set_option maxRecDepth 100000 in
theorem wX9_write : Cond.code mX9_write.2.1 mX9_write.2.2.1 mX9_write.2.2.2.1 mX9_write.2.2.2.2.1 ∈ am_T := List.mem_filter.mpr ⟨List.mem_of_getElem? (i := 1458) rfl, rfl⟩
set_option maxHeartbeats 4000000 in
set_option maxRecDepth 100000 in
theorem tX9_write (l : Launch) (d : Nat) {s0 : AS} {a1 : Int32} {a2 : Int32} {a3 : Int64} {sE : AS} {rE : Int32} (hf : fX9_write s0 a1 a2 a3 = some (sE, rE)) : am_Ct l (d + 3) mX9_write [.inr (.inr ((10, 0, 0), 215)), .inl a1, .inl a2, .inr (.inl a3)] s0 sE (some (.inl rE)) := by
  refine am_sim l (d + 2) (code := kX9_write) (by decide +kernel) wX9_write qX9_write (Nat.le_of_ble_eq_true rfl) ?_
  intro X hX
  show X 0 [(0, .inr (.inr ((10, 0, 0), 215))), (1, .inl a1), (2, .inl a2), (3, .inr (.inl a3))] [] s0
  unfold fX9_write at hf
  refine am_blk hX 0 3 (And.intro rfl (am_nl (Z := fun s1 => X 5 [(0, .inr (.inr ((10, 0, 0), 215))), (1, .inl a1), (2, .inl a2), (3, .inr (.inl a3))] [] s1) hf (fun s1 hf => ?_)))
  obtain ⟨v2, hcv2, hf⟩ := am_r_of hf
  refine am_blk hX 3 3 (And.intro rfl (Exists.intro s1 (Exists.intro (some (.inl v2)) (And.intro (tX9_isSlot l (d + 0) hcv2) (And.intro (fun hb => ?_) (fun hb => ?_))))))
  · have hf := am_if hf hb
    show X 15 [(0, .inr (.inr ((10, 0, 0), 215))), (1, .inl a1), (2, .inl a2), (3, .inr (.inl a3))] [] s1
    obtain ⟨g3, hf⟩ := am_g_of hf
    refine am_blk hX 8 6 (And.intro rfl (And.intro rfl (And.intro g3 (And.intro (fun hb => ?_) (fun hb => ?_)))))
    · have hf := am_if hf hb
      show X 28 [(0, .inr (.inr ((10, 0, 0), 215))), (1, .inl a1), (2, .inl a2), (3, .inr (.inl a3))] [] s1
      obtain ⟨g4, hf⟩ := am_g_of hf
      obtain ⟨v5, hcv5, hf⟩ := am_r_of hf
      refine am_blk hX 16 12 (And.intro rfl (And.intro rfl (And.intro g4 (And.intro rfl (Exists.intro s1 (Exists.intro (some (.inl v5)) (And.intro (tX9_in l (d + 1) hcv5) (And.intro (fun hb => ?_) (fun hb => ?_)))))))))
      · have hf := am_if hf hb
        show X 49 [(0, .inr (.inr ((10, 0, 0), 215))), (1, .inl a1), (2, .inl a2), (3, .inr (.inl a3))] [] s1
        obtain ⟨g6, hf⟩ := am_g_of hf
        obtain ⟨v7, hcv7, hf⟩ := am_r_of hf
        obtain ⟨g8, hf⟩ := am_g_of hf
        refine am_blk hX 30 14 (And.intro rfl (And.intro rfl (And.intro rfl (And.intro g6 (And.intro rfl (Exists.intro s1 (Exists.intro (some (.inr (.inl v7))) (And.intro (tX9_cut l (d + 1) hcv7) (And.intro rfl (And.intro g8 (am_nl (Z := fun s9 => X 70 [(0, .inr (.inr ((10, 0, 0), 215))), (1, .inl a1), (2, .inl a2), (3, .inr (.inl a3))] [] s9) hf (fun s9 hf => ?_))))))))))))
        refine am_blk hX 44 2 (am_ri hf)
      · have hf := am_it hf hb
        show X 46 [(0, .inr (.inr ((10, 0, 0), 215))), (1, .inl a1), (2, .inl a2), (3, .inr (.inl a3))] [] s1
        refine am_blk hX 28 2 (am_ri hf)
    · have hf := am_it hf hb
      show X 25 [(0, .inr (.inr ((10, 0, 0), 215))), (1, .inl a1), (2, .inl a2), (3, .inr (.inl a3))] [] s1
      refine am_blk hX 14 2 (am_ri hf)
  · have hf := am_it hf hb
    show X 12 [(0, .inr (.inr ((10, 0, 0), 215))), (1, .inl a1), (2, .inl a2), (3, .inr (.inl a3))] [] s1
    refine am_blk hX 6 2 (am_ri hf)
