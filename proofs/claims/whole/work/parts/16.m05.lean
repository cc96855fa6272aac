/-! METHODS, printed by gen.py. -/
def fX8_buys_L25 (a1 : Int32) (s0 : AS) : Nat → Int32 → Int32 → Option Int32
  | 0, _, _ => none
  | n25 + 1, x2, x3 =>
    if (64 : Int32) ≤ x3 then (some x2) else (am_r (fX3_costOf s0 25 x3) (fun (v4 : Int32) => am_let (fun (x5 : Int32) => am_let (x3 + (1 : Int32)) (fun (x6 : Int32) => fX8_buys_L25 a1 s0 n25 x5 x6)) (fun J56 => if a1 < v4 then (J56 x2) else (am_r (fX3_contentBy s0 25 x3) (fun (v7 : Int32) => am_let (if x2 < v7 then v7 else x2) (fun (x8 : Int32) => J56 x8))))))
def fX8_buys (s0 : AS) (a1 : Int32) : Option Int32 :=
  am_r (fX8_isMarch s0) (fun (v1 : Int32) => am_let (some (-2 : Int32)) (fun J18 => if v1 = 0 then (J18) else (if a1 < 0 then (J18) else (if a1 ≤ (600 : Int32) then (fX8_buys_L25 a1 s0 am_fu (0 : Int32) (0 : Int32)) else (J18)))))
def kX8_buys : List (Nat × Instr × Nat) := [(0, .aload_n 0, 1), (1, .invokevirtual 126, 3), (4, .ifCond .eq 14, 3), (7, .iload_n 1, 1), (8, .ifCond .lt 10, 3), (11, .iload_n 1, 1), (12, .sipush 600, 3), (15, .if_icmp .le 6, 3), (18, .bipush (-2), 2), (20, .ireturn, 1), (21, .iconst 0, 1), (22, .istore_n 2, 1), (23, .iconst 0, 1), (24, .istore_n 3, 1), (25, .iload_n 3, 1), (26, .bipush 64, 2), (28, .if_icmp .ge 34, 3), (31, .aload_n 0, 1), (32, .getfield 29, 3), (35, .iload_n 3, 1), (36, .invokevirtual 291, 3), (39, .iload_n 1, 1), (40, .if_icmp .gt 16, 3), (43, .iload_n 2, 1), (44, .aload_n 0, 1), (45, .getfield 29, 3), (48, .iload_n 3, 1), (49, .invokevirtual 303, 3), (52, .invokestatic 269, 3), (55, .istore_n 2, 1), (56, .iinc 3 1, 3), (59, .goto (-34), 3), (62, .iload_n 2, 1), (63, .ireturn, 1)]
theorem qX8_buys : ∀ q ∈ kX8_buys, decode mX8_buys.2.2.1 q.1 = .ok (q.2.1, q.2.2) ∧ am_iok mX8_buys.2.2.2.1 q.1 q.2.1 q.2.2 = true := by decide +kernel
set_option maxRecDepth 100000 in
theorem wX8_buys : Cond.code mX8_buys.2.1 mX8_buys.2.2.1 mX8_buys.2.2.2.1 mX8_buys.2.2.2.2.1 ∈ am_T := List.mem_filter.mpr ⟨List.mem_of_getElem? (i := 1056) rfl, rfl⟩
set_option maxHeartbeats 4000000 in
set_option maxRecDepth 100000 in
theorem tX8_buys (l : Launch) (d : Nat) {s0 : AS} {a1 : Int32} {rE : Int32} (hf : fX8_buys s0 a1 = some rE) : am_Ct l (d + 3) mX8_buys [.inr (.inr ((9, 0, 0), 0)), .inl a1] s0 s0 (some (.inl rE)) := by
  refine am_sim l (d + 2) (code := kX8_buys) (by decide +kernel) wX8_buys qX8_buys (Nat.le_of_ble_eq_true rfl) ?_
  intro X hX
  show X 0 [(0, .inr (.inr ((9, 0, 0), 0))), (1, .inl a1)] [] s0
  unfold fX8_buys at hf
  obtain ⟨v1, hcv1, hf⟩ := am_r_of hf
  refine am_jn hf (fun J18 => J18 = some rE → X 18 [] [] s0) ?_ ?_
  · intro hf
    refine am_blk hX 8 2 (am_rpi hf)
  · intro J18 hJ18 hf
    refine am_blk hX 0 3 (And.intro rfl (And.intro rfl (Exists.intro s0 (Exists.intro (some (.inl v1)) (And.intro (tX8_isMarch l (d + 1) hcv1) (And.intro (fun hb => ?_) (fun hb => ?_)))))))
    · have hf := am_it hf hb
      show X 18 [(0, .inr (.inr ((9, 0, 0), 0))), (1, .inl a1)] [] s0
      exact am_wk hX [] (hJ18 hf)
    · have hf := am_if hf hb
      show X 7 [(0, .inr (.inr ((9, 0, 0), 0))), (1, .inl a1)] [] s0
      refine am_blk hX 3 2 (And.intro (fun hb => ?_) (fun hb => ?_))
      · have hf := am_it hf hb
        show X 18 [(0, .inr (.inr ((9, 0, 0), 0))), (1, .inl a1)] [] s0
        exact am_wk hX [] (hJ18 hf)
      · have hf := am_if hf hb
        show X 11 [(0, .inr (.inr ((9, 0, 0), 0))), (1, .inl a1)] [] s0
        refine am_blk hX 5 3 (And.intro (fun hb => ?_) (fun hb => ?_))
        · have hf := am_it hf hb
          show X 21 [(0, .inr (.inr ((9, 0, 0), 0))), (1, .inl a1)] [] s0
          have hL25 : ∀ (n25 : Nat) (x2 : Int32) (x3 : Int32), fX8_buys_L25 a1 s0 n25 x2 x3 = some rE → X 25 [(0, .inr (.inr ((9, 0, 0), 0))), (1, .inl a1), (2, .inl x2), (3, .inl x3)] [] s0 := by
            intro n25
            induction n25 with
            | zero => intro x2 x3 hf; exact am_no (show none = some _ from hf)
            | succ n25 ih25 =>
              intro x2 x3 hf
              refine am_blk hX 14 3 (And.intro (fun hb => ?_) (fun hb => ?_))
              · have hf := am_it hf hb
                show X 62 [(0, .inr (.inr ((9, 0, 0), 0))), (1, .inl a1), (2, .inl x2), (3, .inl x3)] [] s0
                refine am_blk hX 32 2 (am_rpi hf)
              · have hf := am_if hf hb
                show X 31 [(0, .inr (.inr ((9, 0, 0), 0))), (1, .inl a1), (2, .inl x2), (3, .inl x3)] [] s0
                obtain ⟨v4, hcv4, hf⟩ := am_r_of hf
                refine am_jn hf (fun J56 => ∀ (x5 : Int32), J56 x5 = some rE → X 56 [(0, .inr (.inr ((9, 0, 0), 0))), (1, .inl a1), (2, .inl x5), (3, .inl x3)] [] s0) ?_ ?_
                · intro x5 hf
                  refine am_blk hX 30 1 (am_nl (Z := fun x6 => X 59 [(3, .inl x6), (0, .inr (.inr ((9, 0, 0), 0))), (1, .inl a1), (2, .inl x5)] [] s0) hf (fun x6 hf => ?_))
                  refine am_blk hX 31 1 (?_)
                  show X 25 [(3, .inl x6), (0, .inr (.inr ((9, 0, 0), 0))), (1, .inl a1), (2, .inl x5)] [] s0
                  exact am_wk hX [1, 2, 3, 0] (ih25 x5 x6 hf)
                · intro J56 hJ56 hf
                  refine am_blk hX 17 6 (And.intro rfl (And.intro rfl (And.intro rfl (Exists.intro s0 (Exists.intro (some (.inl v4)) (And.intro (tX3_costOf l (d + 0) hcv4) (And.intro (fun hb => ?_) (fun hb => ?_))))))))
                  · have hf := am_it hf hb
                    show X 56 [(0, .inr (.inr ((9, 0, 0), 0))), (1, .inl a1), (2, .inl x2), (3, .inl x3)] [] s0
                    exact am_wk hX [0, 1, 2, 3] (hJ56 x2 hf)
                  · have hf := am_if hf hb
                    show X 43 [(0, .inr (.inr ((9, 0, 0), 0))), (1, .inl a1), (2, .inl x2), (3, .inl x3)] [] s0
                    obtain ⟨v7, hcv7, hf⟩ := am_r_of hf
                    refine am_blk hX 23 7 (And.intro rfl (And.intro rfl (And.intro rfl (Exists.intro s0 (Exists.intro (some (.inl v7)) (And.intro (tX3_contentBy l (d + 0) hcv7) (And.intro rfl (am_nl (Z := fun x8 => X 56 [(2, .inl x8), (0, .inr (.inr ((9, 0, 0), 0))), (1, .inl a1), (3, .inl x3)] [] s0) hf (fun x8 hf => ?_)))))))))
                    exact am_wk hX [1, 2, 0, 3] (hJ56 x8 hf)
          refine am_blk hX 10 4 (?_)
          show X 25 [(3, .inl (0 : Int32)), (2, .inl (0 : Int32)), (0, .inr (.inr ((9, 0, 0), 0))), (1, .inl a1)] [] s0
          exact am_wk hX [2, 3, 1, 0] (hL25 am_fu (0 : Int32) (0 : Int32) hf)
        · have hf := am_if hf hb
          show X 18 [(0, .inr (.inr ((9, 0, 0), 0))), (1, .inl a1)] [] s0
          exact am_wk hX [] (hJ18 hf)
def fX8_voteOf (s0 : AS) (a1 : Int32) (a2 : Int32) : Option Int32 :=
  am_g (¬ (a2 < 0 ∨ 61 ≤ a2.toNatClampNeg)) (am_let (s0.1 164 a2.toNatClampNeg) (fun (x2 : Int32) => am_let (fun (x3 : Int32) => some x3) (fun J38 => if x2 = (-1 : Int32) then (J38 (-1 : Int32)) else (am_g (¬ (a1 < 0 ∨ 8 ≤ a1.toNatClampNeg)) (am_g (¬ ((1 : Int32) < 0 ∨ 5 ≤ (1 : Int32).toNatClampNeg)) (am_r (fX7_nextOf s0 138 x2 (s0.1 (38 + a1.toNatClampNeg) ((1 : Int32).toNatClampNeg))) (fun (v6 : Int32) => J38 v6)))))))
def kX8_voteOf : List (Nat × Instr × Nat) := [(0, .aload_n 0, 1), (1, .getfield 61, 3), (4, .getfield 212, 3), (7, .iload_n 2, 1), (8, .iaload, 1), (9, .istore_n 3, 1), (10, .iload_n 3, 1), (11, .iconst (-1), 1), (12, .if_icmp .ne 7, 3), (15, .iconst (-1), 1), (16, .goto 22, 3), (19, .aload_n 0, 1), (20, .getfield 54, 3), (23, .iload_n 3, 1), (24, .aload_n 0, 1), (25, .getfield 29, 3), (28, .getfield 140, 3), (31, .iload_n 1, 1), (32, .aaload, 1), (33, .iconst 1, 1), (34, .iaload, 1), (35, .invokevirtual 172, 3), (38, .ireturn, 1)]
theorem qX8_voteOf : ∀ q ∈ kX8_voteOf, decode mX8_voteOf.2.2.1 q.1 = .ok (q.2.1, q.2.2) ∧ am_iok mX8_voteOf.2.2.2.1 q.1 q.2.1 q.2.2 = true := by decide +kernel
set_option maxRecDepth 100000 in
theorem wX8_voteOf : Cond.code mX8_voteOf.2.1 mX8_voteOf.2.2.1 mX8_voteOf.2.2.2.1 mX8_voteOf.2.2.2.2.1 ∈ am_T := List.mem_filter.mpr ⟨List.mem_of_getElem? (i := 866) rfl, rfl⟩
set_option maxHeartbeats 4000000 in
set_option maxRecDepth 100000 in
theorem tX8_voteOf (l : Launch) (d : Nat) {s0 : AS} {a1 : Int32} {a2 : Int32} {rE : Int32} (hf : fX8_voteOf s0 a1 a2 = some rE) : am_Ct l (d + 3) mX8_voteOf [.inr (.inr ((9, 0, 0), 0)), .inl a1, .inl a2] s0 s0 (some (.inl rE)) := by
  refine am_sim l (d + 2) (code := kX8_voteOf) (by decide +kernel) wX8_voteOf qX8_voteOf (Nat.le_of_ble_eq_true rfl) ?_
  intro X hX
  show X 0 [(0, .inr (.inr ((9, 0, 0), 0))), (1, .inl a1), (2, .inl a2)] [] s0
  unfold fX8_voteOf at hf
  obtain ⟨g1, hf⟩ := am_g_of hf
  refine am_blk hX 0 6 (And.intro rfl (And.intro rfl (And.intro rfl (And.intro g1 (am_nl (Z := fun x2 => X 10 [(3, .inl x2), (0, .inr (.inr ((9, 0, 0), 0))), (1, .inl a1), (2, .inl a2)] [] s0) hf (fun x2 hf => ?_))))))
  refine am_jn hf (fun J38 => ∀ (x3 : Int32), J38 x3 = some rE → X 38 [] [.inl x3] s0) ?_ ?_
  · intro x3 hf
    refine am_blk hX 22 1 (am_rpi hf)
  · intro J38 hJ38 hf
    refine am_blk hX 6 3 (And.intro (fun hb => ?_) (fun hb => ?_))
    · have hf := am_if hf hb
      show X 19 [(3, .inl x2), (0, .inr (.inr ((9, 0, 0), 0))), (1, .inl a1), (2, .inl a2)] [] s0
      obtain ⟨g4, hf⟩ := am_g_of hf
      obtain ⟨g5, hf⟩ := am_g_of hf
      obtain ⟨v6, hcv6, hf⟩ := am_r_of hf
      refine am_blk hX 11 11 (And.intro rfl (And.intro rfl (And.intro rfl (And.intro g4 (And.intro rfl (And.intro g5 (And.intro rfl (And.intro rfl (Exists.intro s0 (Exists.intro (some (.inl v6)) (And.intro (tX7_nextOf l (d + 0) hcv6) (?_))))))))))))
      show X 38 [(3, .inl x2), (0, .inr (.inr ((9, 0, 0), 0))), (1, .inl a1), (2, .inl a2)] [.inl v6] s0
      exact am_wk hX [] (hJ38 v6 hf)
    · have hf := am_it hf hb
      show X 15 [(3, .inl x2), (0, .inr (.inr ((9, 0, 0), 0))), (1, .inl a1), (2, .inl a2)] [] s0
      refine am_blk hX 9 2 (?_)
      show X 38 [(3, .inl x2), (0, .inr (.inr ((9, 0, 0), 0))), (1, .inl a1), (2, .inl a2)] [.inl (-1 : Int32)] s0
      exact am_wk hX [] (hJ38 (-1 : Int32) hf)
def fX8_votesFor_L5 (a1 : Int32) (a2 : Int32) (s0 : AS) : Nat → Int32 → Int32 → Option Int32
  | 0, _, _ => none
  | n5 + 1, x1, x2 =>
    if (s0.1 25 6) ≤ x2 then (some x1) else (am_r (fX8_isIn s0 x2 a1) (fun (v3 : Int32) => am_let (fun (x4 : Int32) => am_let (x2 + (1 : Int32)) (fun (x5 : Int32) => fX8_votesFor_L5 a1 a2 s0 n5 x4 x5)) (fun J41 => if v3 = 0 then (J41 x1) else (am_r (fX8_voteOf s0 x2 a1) (fun (v6 : Int32) => if v6 = a2 then (am_let (x1 + (1 : Int32)) (fun (x7 : Int32) => J41 x7)) else (J41 x1))))))
def fX8_votesFor (s0 : AS) (a1 : Int32) (a2 : Int32) : Option Int32 :=
  fX8_votesFor_L5 a1 a2 s0 am_fu (0 : Int32) (0 : Int32)
def kX8_votesFor : List (Nat × Instr × Nat) := [(0, .iconst 0, 1), (1, .istore_n 3, 1), (2, .iconst 0, 1), (3, .istore 4, 2), (5, .iload 4, 2), (7, .aload_n 0, 1), (8, .getfield 29, 3), (11, .getfield 123, 3), (14, .if_icmp .ge 33, 3), (17, .aload_n 0, 1), (18, .iload 4, 2), (20, .iload_n 1, 1), (21, .invokevirtual 219, 3), (24, .ifCond .eq 17, 3), (27, .aload_n 0, 1), (28, .iload 4, 2), (30, .iload_n 1, 1), (31, .invokevirtual 222, 3), (34, .iload_n 2, 1), (35, .if_icmp .ne 6, 3), (38, .iinc 3 1, 3), (41, .iinc 4 1, 3), (44, .goto (-39), 3), (47, .iload_n 3, 1), (48, .ireturn, 1)]
theorem qX8_votesFor : ∀ q ∈ kX8_votesFor, decode mX8_votesFor.2.2.1 q.1 = .ok (q.2.1, q.2.2) ∧ am_iok mX8_votesFor.2.2.2.1 q.1 q.2.1 q.2.2 = true := by decide +kernel
set_option maxRecDepth 100000 in
theorem wX8_votesFor : Cond.code mX8_votesFor.2.1 mX8_votesFor.2.2.1 mX8_votesFor.2.2.2.1 mX8_votesFor.2.2.2.2.1 ∈ am_T := List.mem_filter.mpr ⟨List.mem_of_getElem? (i := 858) rfl, rfl⟩
set_option maxHeartbeats 4000000 in
set_option maxRecDepth 100000 in
theorem tX8_votesFor (l : Launch) (d : Nat) {s0 : AS} {a1 : Int32} {a2 : Int32} {rE : Int32} (hf : fX8_votesFor s0 a1 a2 = some rE) : am_Ct l (d + 4) mX8_votesFor [.inr (.inr ((9, 0, 0), 0)), .inl a1, .inl a2] s0 s0 (some (.inl rE)) := by
  refine am_sim l (d + 3) (code := kX8_votesFor) (by decide +kernel) wX8_votesFor qX8_votesFor (Nat.le_of_ble_eq_true rfl) ?_
  intro X hX
  show X 0 [(0, .inr (.inr ((9, 0, 0), 0))), (1, .inl a1), (2, .inl a2)] [] s0
  unfold fX8_votesFor at hf
  have hL5 : ∀ (n5 : Nat) (x1 : Int32) (x2 : Int32), fX8_votesFor_L5 a1 a2 s0 n5 x1 x2 = some rE → X 5 [(0, .inr (.inr ((9, 0, 0), 0))), (1, .inl a1), (2, .inl a2), (3, .inl x1), (4, .inl x2)] [] s0 := by
    intro n5
    induction n5 with
    | zero => intro x1 x2 hf; exact am_no (show none = some _ from hf)
    | succ n5 ih5 =>
      intro x1 x2 hf
      refine am_blk hX 4 5 (And.intro rfl (And.intro rfl (And.intro (fun hb => ?_) (fun hb => ?_))))
      · have hf := am_it hf hb
        show X 47 [(0, .inr (.inr ((9, 0, 0), 0))), (1, .inl a1), (2, .inl a2), (3, .inl x1), (4, .inl x2)] [] s0
        refine am_blk hX 23 2 (am_rpi hf)
      · have hf := am_if hf hb
        show X 17 [(0, .inr (.inr ((9, 0, 0), 0))), (1, .inl a1), (2, .inl a2), (3, .inl x1), (4, .inl x2)] [] s0
        obtain ⟨v3, hcv3, hf⟩ := am_r_of hf
        refine am_jn hf (fun J41 => ∀ (x4 : Int32), J41 x4 = some rE → X 41 [(0, .inr (.inr ((9, 0, 0), 0))), (1, .inl a1), (2, .inl a2), (3, .inl x4), (4, .inl x2)] [] s0) ?_ ?_
        · intro x4 hf
          refine am_blk hX 21 1 (am_nl (Z := fun x5 => X 44 [(4, .inl x5), (0, .inr (.inr ((9, 0, 0), 0))), (1, .inl a1), (2, .inl a2), (3, .inl x4)] [] s0) hf (fun x5 hf => ?_))
          refine am_blk hX 22 1 (?_)
          show X 5 [(4, .inl x5), (0, .inr (.inr ((9, 0, 0), 0))), (1, .inl a1), (2, .inl a2), (3, .inl x4)] [] s0
          exact am_wk hX [1, 2, 3, 4, 0] (ih5 x4 x5 hf)
        · intro J41 hJ41 hf
          refine am_blk hX 9 5 (And.intro rfl (And.intro rfl (Exists.intro s0 (Exists.intro (some (.inl v3)) (And.intro (tX8_isIn l (d + 1) hcv3) (And.intro (fun hb => ?_) (fun hb => ?_)))))))
          · have hf := am_it hf hb
            show X 41 [(0, .inr (.inr ((9, 0, 0), 0))), (1, .inl a1), (2, .inl a2), (3, .inl x1), (4, .inl x2)] [] s0
            exact am_wk hX [0, 1, 2, 3, 4] (hJ41 x1 hf)
          · have hf := am_if hf hb
            show X 27 [(0, .inr (.inr ((9, 0, 0), 0))), (1, .inl a1), (2, .inl a2), (3, .inl x1), (4, .inl x2)] [] s0
            obtain ⟨v6, hcv6, hf⟩ := am_r_of hf
            refine am_blk hX 14 6 (And.intro rfl (And.intro rfl (Exists.intro s0 (Exists.intro (some (.inl v6)) (And.intro (tX8_voteOf l (d + 0) hcv6) (And.intro (fun hb => ?_) (fun hb => ?_)))))))
            · have hf := am_if hf hb
              show X 41 [(0, .inr (.inr ((9, 0, 0), 0))), (1, .inl a1), (2, .inl a2), (3, .inl x1), (4, .inl x2)] [] s0
              exact am_wk hX [0, 1, 2, 3, 4] (hJ41 x1 hf)
            · have hf := am_it hf hb
              show X 38 [(0, .inr (.inr ((9, 0, 0), 0))), (1, .inl a1), (2, .inl a2), (3, .inl x1), (4, .inl x2)] [] s0
              refine am_blk hX 20 1 (am_nl (Z := fun x7 => X 41 [(3, .inl x7), (0, .inr (.inr ((9, 0, 0), 0))), (1, .inl a1), (2, .inl a2), (4, .inl x2)] [] s0) hf (fun x7 hf => ?_))
              exact am_wk hX [1, 2, 3, 0, 4] (hJ41 x7 hf)
  refine am_blk hX 0 4 (?_)
  show X 5 [(4, .inl (0 : Int32)), (3, .inl (0 : Int32)), (0, .inr (.inr ((9, 0, 0), 0))), (1, .inl a1), (2, .inl a2)] [] s0
  exact am_wk hX [2, 3, 4, 1, 0] (hL5 am_fu (0 : Int32) (0 : Int32) hf)
def fX8_carries (s0 : AS) (a1 : Int32) : Option (AS × Int32) :=
  am_r (fX8_isStep s0 a1) (fun (v1 : Int32) => if v1 = 0 then (some (s0, (-2 : Int32))) else (am_c (fX8_tell s0) (fun (s3 : AS) (v2 : Unit) => am_g (¬ (a1 < 0 ∨ 61 ≤ a1.toNatClampNeg)) (am_let (fun (x5 : Int32) => some (s3, x5)) (fun J46 => if (s3.1 166 a1.toNatClampNeg) = (-1 : Int32) then (J46 (-1 : Int32)) else (am_g (¬ (a1 < 0 ∨ 61 ≤ a1.toNatClampNeg)) (am_r (fX8_votesFor s3 a1 (s3.1 166 a1.toNatClampNeg)) (fun (v7 : Int32) => J46 v7))))))))
def kX8_carries : List (Nat × Instr × Nat) := [(0, .aload_n 0, 1), (1, .iload_n 1, 1), (2, .invokevirtual 209, 3), (5, .ifCond .ne 6, 3), (8, .bipush (-2), 2), (10, .ireturn, 1), (11, .aload_n 0, 1), (12, .invokevirtual 165, 3), (15, .aload_n 0, 1), (16, .getfield 61, 3), (19, .getfield 260, 3), (22, .iload_n 1, 1), (23, .iaload, 1), (24, .iconst (-1), 1), (25, .if_icmp .ne 7, 3), (28, .iconst (-1), 1), (29, .goto 17, 3), (32, .aload_n 0, 1), (33, .iload_n 1, 1), (34, .aload_n 0, 1), (35, .getfield 61, 3), (38, .getfield 260, 3), (41, .iload_n 1, 1), (42, .iaload, 1), (43, .invokevirtual 225, 3), (46, .ireturn, 1)]
theorem qX8_carries : ∀ q ∈ kX8_carries, decode mX8_carries.2.2.1 q.1 = .ok (q.2.1, q.2.2) ∧ am_iok mX8_carries.2.2.2.1 q.1 q.2.1 q.2.2 = true := by decide +kernel
set_option maxRecDepth 100000 in
theorem wX8_carries : Cond.code mX8_carries.2.1 mX8_carries.2.2.1 mX8_carries.2.2.2.1 mX8_carries.2.2.2.2.1 ∈ am_T := List.mem_filter.mpr ⟨List.mem_of_getElem? (i := 950) rfl, rfl⟩
set_option maxHeartbeats 4000000 in
set_option maxRecDepth 100000 in
theorem tX8_carries (l : Launch) (d : Nat) {s0 : AS} {a1 : Int32} {sE : AS} {rE : Int32} (hf : fX8_carries s0 a1 = some (sE, rE)) : am_Ct l (d + 6) mX8_carries [.inr (.inr ((9, 0, 0), 0)), .inl a1] s0 sE (some (.inl rE)) := by
  refine am_sim l (d + 5) (code := kX8_carries) (by decide +kernel) wX8_carries qX8_carries (Nat.le_of_ble_eq_true rfl) ?_
  intro X hX
  show X 0 [(0, .inr (.inr ((9, 0, 0), 0))), (1, .inl a1)] [] s0
  unfold fX8_carries at hf
  obtain ⟨v1, hcv1, hf⟩ := am_r_of hf
  refine am_blk hX 0 4 (And.intro rfl (And.intro rfl (Exists.intro s0 (Exists.intro (some (.inl v1)) (And.intro (tX8_isStep l (d + 3) hcv1) (And.intro (fun hb => ?_) (fun hb => ?_)))))))
  · have hf := am_if hf hb
    show X 11 [(0, .inr (.inr ((9, 0, 0), 0))), (1, .inl a1)] [] s0
    obtain ⟨s3, v2, hcv2, hf⟩ := am_c_of hf
    obtain ⟨g4, hf⟩ := am_g_of hf
    refine am_jn hf (fun J46 => ∀ (x5 : Int32), J46 x5 = some (sE, rE) → X 46 [] [.inl x5] s3) ?_ ?_
    · intro x5 hf
      refine am_blk hX 25 1 (am_ri hf)
    · intro J46 hJ46 hf
      refine am_blk hX 6 9 (And.intro rfl (And.intro rfl (Exists.intro s3 (Exists.intro none (And.intro (tX8_tell l (d + 0) hcv2) (And.intro rfl (And.intro rfl (And.intro rfl (And.intro g4 (And.intro (fun hb => ?_) (fun hb => ?_)))))))))))
      · have hf := am_if hf hb
        show X 32 [(0, .inr (.inr ((9, 0, 0), 0))), (1, .inl a1)] [] s3
        obtain ⟨g6, hf⟩ := am_g_of hf
        obtain ⟨v7, hcv7, hf⟩ := am_r_of hf
        refine am_blk hX 17 8 (And.intro rfl (And.intro rfl (And.intro rfl (And.intro g6 (And.intro rfl (And.intro rfl (Exists.intro s3 (Exists.intro (some (.inl v7)) (And.intro (tX8_votesFor l (d + 1) hcv7) (?_))))))))))
        show X 46 [(0, .inr (.inr ((9, 0, 0), 0))), (1, .inl a1)] [.inl v7] s3
        exact am_wk hX [] (hJ46 v7 hf)
      · have hf := am_it hf hb
        show X 28 [(0, .inr (.inr ((9, 0, 0), 0))), (1, .inl a1)] [] s3
        refine am_blk hX 15 2 (?_)
        show X 46 [(0, .inr (.inr ((9, 0, 0), 0))), (1, .inl a1)] [.inl (-1 : Int32)] s3
        exact am_wk hX [] (hJ46 (-1 : Int32) hf)
  · have hf := am_it hf hb
    show X 8 [(0, .inr (.inr ((9, 0, 0), 0))), (1, .inl a1)] [] s0
    refine am_blk hX 4 2 (am_ri hf)
def fX8_inItWith_L5 (a1 : Int32) (a2 : Int32) (s0 : AS) : Nat → Int32 → Int32 → Option Int32
  | 0, _, _ => none
  | n5 + 1, x1, x2 =>
    if (s0.1 25 6) ≤ x2 then (some x1) else (am_r (fX8_isIn s0 x2 a1) (fun (v3 : Int32) => am_let (fun (x4 : Int32) => am_let (x2 + (1 : Int32)) (fun (x5 : Int32) => fX8_inItWith_L5 a1 a2 s0 n5 x4 x5)) (fun J46 => if v3 = 0 then (J46 x1) else (am_g (¬ (x2 < 0 ∨ 8 ≤ x2.toNatClampNeg)) (am_g (¬ ((2 : Int32) < 0 ∨ 5 ≤ (2 : Int32).toNatClampNeg)) (if (s0.1 (38 + x2.toNatClampNeg) ((2 : Int32).toNatClampNeg)) = a2 then (am_let (x1 + (1 : Int32)) (fun (x8 : Int32) => J46 x8)) else (J46 x1)))))))
def fX8_inItWith (s0 : AS) (a1 : Int32) (a2 : Int32) : Option Int32 :=
  fX8_inItWith_L5 a1 a2 s0 am_fu (0 : Int32) (0 : Int32)
def kX8_inItWith : List (Nat × Instr × Nat) := [(0, .iconst 0, 1), (1, .istore_n 3, 1), (2, .iconst 0, 1), (3, .istore 4, 2), (5, .iload 4, 2), (7, .aload_n 0, 1), (8, .getfield 29, 3), (11, .getfield 123, 3), (14, .if_icmp .ge 38, 3), (17, .aload_n 0, 1), (18, .iload 4, 2), (20, .iload_n 1, 1), (21, .invokevirtual 219, 3), (24, .ifCond .eq 22, 3), (27, .aload_n 0, 1), (28, .getfield 29, 3), (31, .getfield 140, 3), (34, .iload 4, 2), (36, .aaload, 1), (37, .iconst 2, 1), (38, .iaload, 1), (39, .iload_n 2, 1), (40, .if_icmp .ne 6, 3), (43, .iinc 3 1, 3), (46, .iinc 4 1, 3), (49, .goto (-44), 3), (52, .iload_n 3, 1), (53, .ireturn, 1)]
theorem qX8_inItWith : ∀ q ∈ kX8_inItWith, decode mX8_inItWith.2.2.1 q.1 = .ok (q.2.1, q.2.2) ∧ am_iok mX8_inItWith.2.2.2.1 q.1 q.2.1 q.2.2 = true := by decide +kernel
set_option maxRecDepth 100000 in
theorem wX8_inItWith : Cond.code mX8_inItWith.2.1 mX8_inItWith.2.2.1 mX8_inItWith.2.2.2.1 mX8_inItWith.2.2.2.2.1 ∈ am_T := List.mem_filter.mpr ⟨List.mem_of_getElem? (i := 938) rfl, rfl⟩
set_option maxHeartbeats 4000000 in
set_option maxRecDepth 100000 in
theorem tX8_inItWith (l : Launch) (d : Nat) {s0 : AS} {a1 : Int32} {a2 : Int32} {rE : Int32} (hf : fX8_inItWith s0 a1 a2 = some rE) : am_Ct l (d + 3) mX8_inItWith [.inr (.inr ((9, 0, 0), 0)), .inl a1, .inl a2] s0 s0 (some (.inl rE)) := by
  refine am_sim l (d + 2) (code := kX8_inItWith) (by decide +kernel) wX8_inItWith qX8_inItWith (Nat.le_of_ble_eq_true rfl) ?_
  intro X hX
  show X 0 [(0, .inr (.inr ((9, 0, 0), 0))), (1, .inl a1), (2, .inl a2)] [] s0
  unfold fX8_inItWith at hf
  have hL5 : ∀ (n5 : Nat) (x1 : Int32) (x2 : Int32), fX8_inItWith_L5 a1 a2 s0 n5 x1 x2 = some rE → X 5 [(0, .inr (.inr ((9, 0, 0), 0))), (1, .inl a1), (2, .inl a2), (3, .inl x1), (4, .inl x2)] [] s0 := by
    intro n5
    induction n5 with
    | zero => intro x1 x2 hf; exact am_no (show none = some _ from hf)
    | succ n5 ih5 =>
      intro x1 x2 hf
      refine am_blk hX 4 5 (And.intro rfl (And.intro rfl (And.intro (fun hb => ?_) (fun hb => ?_))))
      · have hf := am_it hf hb
        show X 52 [(0, .inr (.inr ((9, 0, 0), 0))), (1, .inl a1), (2, .inl a2), (3, .inl x1), (4, .inl x2)] [] s0
        refine am_blk hX 26 2 (am_rpi hf)
      · have hf := am_if hf hb
        show X 17 [(0, .inr (.inr ((9, 0, 0), 0))), (1, .inl a1), (2, .inl a2), (3, .inl x1), (4, .inl x2)] [] s0
        obtain ⟨v3, hcv3, hf⟩ := am_r_of hf
        refine am_jn hf (fun J46 => ∀ (x4 : Int32), J46 x4 = some rE → X 46 [(0, .inr (.inr ((9, 0, 0), 0))), (1, .inl a1), (2, .inl a2), (3, .inl x4), (4, .inl x2)] [] s0) ?_ ?_
        · intro x4 hf
          refine am_blk hX 24 1 (am_nl (Z := fun x5 => X 49 [(4, .inl x5), (0, .inr (.inr ((9, 0, 0), 0))), (1, .inl a1), (2, .inl a2), (3, .inl x4)] [] s0) hf (fun x5 hf => ?_))
          refine am_blk hX 25 1 (?_)
          show X 5 [(4, .inl x5), (0, .inr (.inr ((9, 0, 0), 0))), (1, .inl a1), (2, .inl a2), (3, .inl x4)] [] s0
          exact am_wk hX [1, 2, 3, 4, 0] (ih5 x4 x5 hf)
        · intro J46 hJ46 hf
          refine am_blk hX 9 5 (And.intro rfl (And.intro rfl (Exists.intro s0 (Exists.intro (some (.inl v3)) (And.intro (tX8_isIn l (d + 0) hcv3) (And.intro (fun hb => ?_) (fun hb => ?_)))))))
          · have hf := am_it hf hb
            show X 46 [(0, .inr (.inr ((9, 0, 0), 0))), (1, .inl a1), (2, .inl a2), (3, .inl x1), (4, .inl x2)] [] s0
            exact am_wk hX [0, 1, 2, 3, 4] (hJ46 x1 hf)
          · have hf := am_if hf hb
            show X 27 [(0, .inr (.inr ((9, 0, 0), 0))), (1, .inl a1), (2, .inl a2), (3, .inl x1), (4, .inl x2)] [] s0
            obtain ⟨g6, hf⟩ := am_g_of hf
            obtain ⟨g7, hf⟩ := am_g_of hf
            refine am_blk hX 14 9 (And.intro rfl (And.intro rfl (And.intro g6 (And.intro rfl (And.intro g7 (And.intro (fun hb => ?_) (fun hb => ?_)))))))
            · have hf := am_if hf hb
              show X 46 [(0, .inr (.inr ((9, 0, 0), 0))), (1, .inl a1), (2, .inl a2), (3, .inl x1), (4, .inl x2)] [] s0
              exact am_wk hX [0, 1, 2, 3, 4] (hJ46 x1 hf)
            · have hf := am_it hf hb
              show X 43 [(0, .inr (.inr ((9, 0, 0), 0))), (1, .inl a1), (2, .inl a2), (3, .inl x1), (4, .inl x2)] [] s0
              refine am_blk hX 23 1 (am_nl (Z := fun x8 => X 46 [(3, .inl x8), (0, .inr (.inr ((9, 0, 0), 0))), (1, .inl a1), (2, .inl a2), (4, .inl x2)] [] s0) hf (fun x8 hf => ?_))
              exact am_wk hX [1, 2, 3, 0, 4] (hJ46 x8 hf)
  refine am_blk hX 0 4 (?_)
  show X 5 [(4, .inl (0 : Int32)), (3, .inl (0 : Int32)), (0, .inr (.inr ((9, 0, 0), 0))), (1, .inl a1), (2, .inl a2)] [] s0
  exact am_wk hX [2, 3, 4, 1, 0] (hL5 am_fu (0 : Int32) (0 : Int32) hf)
def fX8_cause_L22 (a1 : Int32) (s3 : AS) : Nat → Int32 → Int32 → Int32 → Option (AS × Int32)
  | 0, _, _, _ => none
  | n22 + 1, x4, x5, x6 =>
    if (6 : Int32) ≤ x6 then (some (s3, x4)) else (am_r (fX8_inItWith s3 a1 x6) (fun (v7 : Int32) => am_let (fun (x8 : Int32) (x9 : Int32) => am_let (x6 + (1 : Int32)) (fun (x10 : Int32) => fX8_cause_L22 a1 s3 n22 x8 x9 x10)) (fun J50 => if v7 ≤ x5 then (J50 x4 x5) else (J50 x6 v7))))
def fX8_cause (s0 : AS) (a1 : Int32) : Option (AS × Int32) :=
  am_r (fX8_isStep s0 a1) (fun (v1 : Int32) => if v1 = 0 then (some (s0, (-2 : Int32))) else (am_c (fX8_tell s0) (fun (s3 : AS) (v2 : Unit) => fX8_cause_L22 a1 s3 am_fu (-1 : Int32) (0 : Int32) (0 : Int32))))
def kX8_cause : List (Nat × Instr × Nat) := [(0, .aload_n 0, 1), (1, .iload_n 1, 1), (2, .invokevirtual 209, 3), (5, .ifCond .ne 6, 3), (8, .bipush (-2), 2), (10, .ireturn, 1), (11, .aload_n 0, 1), (12, .invokevirtual 165, 3), (15, .iconst (-1), 1), (16, .istore_n 2, 1), (17, .iconst 0, 1), (18, .istore_n 3, 1), (19, .iconst 0, 1), (20, .istore 4, 2), (22, .iload 4, 2), (24, .bipush 6, 2), (26, .if_icmp .ge 30, 3), (29, .aload_n 0, 1), (30, .iload_n 1, 1), (31, .iload 4, 2), (33, .invokevirtual 257, 3), (36, .istore 5, 2), (38, .iload 5, 2), (40, .iload_n 3, 1), (41, .if_icmp .le 9, 3), (44, .iload 5, 2), (46, .istore_n 3, 1), (47, .iload 4, 2), (49, .istore_n 2, 1), (50, .iinc 4 1, 3), (53, .goto (-31), 3), (56, .iload_n 2, 1), (57, .ireturn, 1)]
theorem qX8_cause : ∀ q ∈ kX8_cause, decode mX8_cause.2.2.1 q.1 = .ok (q.2.1, q.2.2) ∧ am_iok mX8_cause.2.2.2.1 q.1 q.2.1 q.2.2 = true := by decide +kernel
set_option maxRecDepth 100000 in
theorem wX8_cause : Cond.code mX8_cause.2.1 mX8_cause.2.2.1 mX8_cause.2.2.2.1 mX8_cause.2.2.2.2.1 ∈ am_T := List.mem_filter.mpr ⟨List.mem_of_getElem? (i := 934) rfl, rfl⟩
set_option maxHeartbeats 4000000 in
set_option maxRecDepth 100000 in
theorem tX8_cause (l : Launch) (d : Nat) {s0 : AS} {a1 : Int32} {sE : AS} {rE : Int32} (hf : fX8_cause s0 a1 = some (sE, rE)) : am_Ct l (d + 6) mX8_cause [.inr (.inr ((9, 0, 0), 0)), .inl a1] s0 sE (some (.inl rE)) := by
  refine am_sim l (d + 5) (code := kX8_cause) (by decide +kernel) wX8_cause qX8_cause (Nat.le_of_ble_eq_true rfl) ?_
  intro X hX
  show X 0 [(0, .inr (.inr ((9, 0, 0), 0))), (1, .inl a1)] [] s0
  unfold fX8_cause at hf
  obtain ⟨v1, hcv1, hf⟩ := am_r_of hf
  refine am_blk hX 0 4 (And.intro rfl (And.intro rfl (Exists.intro s0 (Exists.intro (some (.inl v1)) (And.intro (tX8_isStep l (d + 3) hcv1) (And.intro (fun hb => ?_) (fun hb => ?_)))))))
  · have hf := am_if hf hb
    show X 11 [(0, .inr (.inr ((9, 0, 0), 0))), (1, .inl a1)] [] s0
    obtain ⟨s3, v2, hcv2, hf⟩ := am_c_of hf
    have hL22 : ∀ (n22 : Nat) (x4 : Int32) (x5 : Int32) (x6 : Int32), fX8_cause_L22 a1 s3 n22 x4 x5 x6 = some (sE, rE) → X 22 [(0, .inr (.inr ((9, 0, 0), 0))), (1, .inl a1), (2, .inl x4), (3, .inl x5), (4, .inl x6)] [] s3 := by
      intro n22
      induction n22 with
      | zero => intro x4 x5 x6 hf; exact am_no (show none = some _ from hf)
      | succ n22 ih22 =>
        intro x4 x5 x6 hf
        refine am_blk hX 14 3 (And.intro (fun hb => ?_) (fun hb => ?_))
        · have hf := am_it hf hb
          show X 56 [(0, .inr (.inr ((9, 0, 0), 0))), (1, .inl a1), (2, .inl x4), (3, .inl x5), (4, .inl x6)] [] s3
          refine am_blk hX 31 2 (am_ri hf)
        · have hf := am_if hf hb
          show X 29 [(0, .inr (.inr ((9, 0, 0), 0))), (1, .inl a1), (2, .inl x4), (3, .inl x5), (4, .inl x6)] [] s3
          obtain ⟨v7, hcv7, hf⟩ := am_r_of hf
          refine am_jn hf (fun J50 => ∀ (x8 : Int32) (x9 : Int32), J50 x8 x9 = some (sE, rE) → X 50 [(0, .inr (.inr ((9, 0, 0), 0))), (1, .inl a1), (2, .inl x8), (3, .inl x9), (4, .inl x6)] [] s3) ?_ ?_
          · intro x8 x9 hf
            refine am_blk hX 29 1 (am_nl (Z := fun x10 => X 53 [(4, .inl x10), (0, .inr (.inr ((9, 0, 0), 0))), (1, .inl a1), (2, .inl x8), (3, .inl x9)] [] s3) hf (fun x10 hf => ?_))
            refine am_blk hX 30 1 (?_)
            show X 22 [(4, .inl x10), (0, .inr (.inr ((9, 0, 0), 0))), (1, .inl a1), (2, .inl x8), (3, .inl x9)] [] s3
            exact am_wk hX [1, 2, 3, 4, 0] (ih22 x8 x9 x10 hf)
          · intro J50 hJ50 hf
            refine am_blk hX 17 8 (And.intro rfl (And.intro rfl (Exists.intro s3 (Exists.intro (some (.inl v7)) (And.intro (tX8_inItWith l (d + 2) hcv7) (And.intro (fun hb => ?_) (fun hb => ?_)))))))
            · have hf := am_it hf hb
              show X 50 [(5, .inl v7), (0, .inr (.inr ((9, 0, 0), 0))), (1, .inl a1), (2, .inl x4), (3, .inl x5), (4, .inl x6)] [] s3
              exact am_wk hX [1, 2, 3, 4, 5] (hJ50 x4 x5 hf)
            · have hf := am_if hf hb
              show X 44 [(5, .inl v7), (0, .inr (.inr ((9, 0, 0), 0))), (1, .inl a1), (2, .inl x4), (3, .inl x5), (4, .inl x6)] [] s3
              refine am_blk hX 25 4 (?_)
              show X 50 [(2, .inl x6), (3, .inl v7), (5, .inl v7), (0, .inr (.inr ((9, 0, 0), 0))), (1, .inl a1), (4, .inl x6)] [] s3
              exact am_wk hX [3, 4, 0, 1, 5] (hJ50 x6 v7 hf)
    refine am_blk hX 6 8 (And.intro rfl (And.intro rfl (Exists.intro s3 (Exists.intro none (And.intro (tX8_tell l (d + 0) hcv2) (?_))))))
    show X 22 [(4, .inl (0 : Int32)), (3, .inl (0 : Int32)), (2, .inl (-1 : Int32)), (0, .inr (.inr ((9, 0, 0), 0))), (1, .inl a1)] [] s3
    exact am_wk hX [3, 4, 2, 1, 0] (hL22 am_fu (-1 : Int32) (0 : Int32) (0 : Int32) hf)
  · have hf := am_it hf hb
    show X 8 [(0, .inr (.inr ((9, 0, 0), 0))), (1, .inl a1)] [] s0
    refine am_blk hX 4 2 (am_ri hf)
def fX8_isPlace (s0 : AS) (a1 : Int32) : Option Int32 :=
  am_let (fun (x1 : Int32) => am_g (x1 = 0 ∨ x1 = 1) (some x1)) (fun J20 => am_let (J20 (0 : Int32)) (fun J19 => if a1 < 0 then (J19) else (if (s0.1 25 1) ≤ a1 then (J19) else (J20 (1 : Int32)))))
def kX8_isPlace : List (Nat × Instr × Nat) := [(0, .iload_n 1, 1), (1, .ifCond .lt 18, 3), (4, .iload_n 1, 1), (5, .aload_n 0, 1), (6, .getfield 29, 3), (9, .getfield 117, 3), (12, .if_icmp .ge 7, 3), (15, .iconst 1, 1), (16, .goto 4, 3), (19, .iconst 0, 1), (20, .ireturn, 1)]
theorem qX8_isPlace : ∀ q ∈ kX8_isPlace, decode mX8_isPlace.2.2.1 q.1 = .ok (q.2.1, q.2.2) ∧ am_iok mX8_isPlace.2.2.2.1 q.1 q.2.1 q.2.2 = true := by decide +kernel
set_option maxRecDepth 100000 in
theorem wX8_isPlace : Cond.code mX8_isPlace.2.1 mX8_isPlace.2.2.1 mX8_isPlace.2.2.2.1 mX8_isPlace.2.2.2.2.1 ∈ am_T := List.mem_filter.mpr ⟨List.mem_of_getElem? (i := 704) rfl, rfl⟩
set_option maxHeartbeats 4000000 in
set_option maxRecDepth 100000 in
theorem tX8_isPlace (l : Launch) (d : Nat) {s0 : AS} {a1 : Int32} {rE : Int32} (hf : fX8_isPlace s0 a1 = some rE) : am_Ct l (d + 1) mX8_isPlace [.inr (.inr ((9, 0, 0), 0)), .inl a1] s0 s0 (some (.inl rE)) := by
  refine am_sim l (d + 0) (code := kX8_isPlace) (by decide +kernel) wX8_isPlace qX8_isPlace (Nat.le_of_ble_eq_true rfl) ?_
  intro X hX
  show X 0 [(0, .inr (.inr ((9, 0, 0), 0))), (1, .inl a1)] [] s0
  unfold fX8_isPlace at hf
  refine am_jn hf (fun J20 => ∀ (x1 : Int32), J20 x1 = some rE → X 20 [] [.inl x1] s0) ?_ ?_
  · intro x1 hf
    obtain ⟨g2, hf⟩ := am_g_of hf
    refine am_blk hX 10 1 (And.intro g2 (am_rpi hf))
  · intro J20 hJ20 hf
    refine am_jn hf (fun J19 => J19 = some rE → X 19 [] [] s0) ?_ ?_
    · intro hf
      refine am_blk hX 9 1 (?_)
      show X 20 [] [.inl (0 : Int32)] s0
      exact am_wk hX [] (hJ20 (0 : Int32) hf)
    · intro J19 hJ19 hf
      refine am_blk hX 0 2 (And.intro (fun hb => ?_) (fun hb => ?_))
      · have hf := am_it hf hb
        show X 19 [(0, .inr (.inr ((9, 0, 0), 0))), (1, .inl a1)] [] s0
        exact am_wk hX [] (hJ19 hf)
      · have hf := am_if hf hb
        show X 4 [(0, .inr (.inr ((9, 0, 0), 0))), (1, .inl a1)] [] s0
        refine am_blk hX 2 5 (And.intro rfl (And.intro rfl (And.intro (fun hb => ?_) (fun hb => ?_))))
        · have hf := am_it hf hb
          show X 19 [(0, .inr (.inr ((9, 0, 0), 0))), (1, .inl a1)] [] s0
          exact am_wk hX [] (hJ19 hf)
        · have hf := am_if hf hb
          show X 15 [(0, .inr (.inr ((9, 0, 0), 0))), (1, .inl a1)] [] s0
          refine am_blk hX 7 2 (?_)
          show X 20 [(0, .inr (.inr ((9, 0, 0), 0))), (1, .inl a1)] [.inl (1 : Int32)] s0
          exact am_wk hX [] (hJ20 (1 : Int32) hf)
def fX8_isRainyStep (s0 : AS) (a1 : Int32) : Option Int32 :=
  am_r (fX8_isMarch s0) (fun (v1 : Int32) => am_let (fun (x2 : Int32) => am_g (x2 = 0 ∨ x2 = 1) (some x2)) (fun J22 => am_let (J22 (0 : Int32)) (fun J21 => if v1 = 0 then (J21) else (if a1 < 0 then (J21) else (if (8 : Int32) < a1 then (J21) else (J22 (1 : Int32)))))))
def kX8_isRainyStep : List (Nat × Instr × Nat) := [(0, .aload_n 0, 1), (1, .invokevirtual 126, 3), (4, .ifCond .eq 17, 3), (7, .iload_n 1, 1), (8, .ifCond .lt 13, 3), (11, .iload_n 1, 1), (12, .bipush 8, 2), (14, .if_icmp .gt 7, 3), (17, .iconst 1, 1), (18, .goto 4, 3), (21, .iconst 0, 1), (22, .ireturn, 1)]
theorem qX8_isRainyStep : ∀ q ∈ kX8_isRainyStep, decode mX8_isRainyStep.2.2.1 q.1 = .ok (q.2.1, q.2.2) ∧ am_iok mX8_isRainyStep.2.2.2.1 q.1 q.2.1 q.2.2 = true := by decide +kernel
set_option maxRecDepth 100000 in
theorem wX8_isRainyStep : Cond.code mX8_isRainyStep.2.1 mX8_isRainyStep.2.2.1 mX8_isRainyStep.2.2.2.1 mX8_isRainyStep.2.2.2.2.1 ∈ am_T := List.mem_filter.mpr ⟨List.mem_of_getElem? (i := 1160) rfl, rfl⟩
set_option maxHeartbeats 4000000 in
set_option maxRecDepth 100000 in
theorem tX8_isRainyStep (l : Launch) (d : Nat) {s0 : AS} {a1 : Int32} {rE : Int32} (hf : fX8_isRainyStep s0 a1 = some rE) : am_Ct l (d + 2) mX8_isRainyStep [.inr (.inr ((9, 0, 0), 0)), .inl a1] s0 s0 (some (.inl rE)) := by
  refine am_sim l (d + 1) (code := kX8_isRainyStep) (by decide +kernel) wX8_isRainyStep qX8_isRainyStep (Nat.le_of_ble_eq_true rfl) ?_
  intro X hX
  show X 0 [(0, .inr (.inr ((9, 0, 0), 0))), (1, .inl a1)] [] s0
  unfold fX8_isRainyStep at hf
  obtain ⟨v1, hcv1, hf⟩ := am_r_of hf
  refine am_jn hf (fun J22 => ∀ (x2 : Int32), J22 x2 = some rE → X 22 [] [.inl x2] s0) ?_ ?_
  · intro x2 hf
    obtain ⟨g3, hf⟩ := am_g_of hf
    refine am_blk hX 11 1 (And.intro g3 (am_rpi hf))
  · intro J22 hJ22 hf
    refine am_jn hf (fun J21 => J21 = some rE → X 21 [] [] s0) ?_ ?_
    · intro hf
      refine am_blk hX 10 1 (?_)
      show X 22 [] [.inl (0 : Int32)] s0
      exact am_wk hX [] (hJ22 (0 : Int32) hf)
    · intro J21 hJ21 hf
      refine am_blk hX 0 3 (And.intro rfl (And.intro rfl (Exists.intro s0 (Exists.intro (some (.inl v1)) (And.intro (tX8_isMarch l (d + 0) hcv1) (And.intro (fun hb => ?_) (fun hb => ?_)))))))
      · have hf := am_it hf hb
        show X 21 [(0, .inr (.inr ((9, 0, 0), 0))), (1, .inl a1)] [] s0
        exact am_wk hX [] (hJ21 hf)
      · have hf := am_if hf hb
        show X 7 [(0, .inr (.inr ((9, 0, 0), 0))), (1, .inl a1)] [] s0
        refine am_blk hX 3 2 (And.intro (fun hb => ?_) (fun hb => ?_))
        · have hf := am_it hf hb
          show X 21 [(0, .inr (.inr ((9, 0, 0), 0))), (1, .inl a1)] [] s0
          exact am_wk hX [] (hJ21 hf)
        · have hf := am_if hf hb
          show X 11 [(0, .inr (.inr ((9, 0, 0), 0))), (1, .inl a1)] [] s0
          refine am_blk hX 5 3 (And.intro (fun hb => ?_) (fun hb => ?_))
          · have hf := am_it hf hb
            show X 21 [(0, .inr (.inr ((9, 0, 0), 0))), (1, .inl a1)] [] s0
            exact am_wk hX [] (hJ21 hf)
          · have hf := am_if hf hb
            show X 17 [(0, .inr (.inr ((9, 0, 0), 0))), (1, .inl a1)] [] s0
            refine am_blk hX 8 2 (?_)
            show X 22 [(0, .inr (.inr ((9, 0, 0), 0))), (1, .inl a1)] [.inl (1 : Int32)] s0
            exact am_wk hX [] (hJ22 (1 : Int32) hf)
def fX8_isPartOfFraction (a1 : Int32) : Option Int32 :=
  am_let (fun (x1 : Int32) => am_g (x1 = 0 ∨ x1 = 1) (some x1)) (fun J14 => am_let (J14 (1 : Int32)) (fun J9 => if a1 = 0 then (J9) else (if a1 = (1 : Int32) then (J9) else (J14 (0 : Int32)))))
def kX8_isPartOfFraction : List (Nat × Instr × Nat) := [(0, .iload_n 1, 1), (1, .ifCond .eq 8, 3), (4, .iload_n 1, 1), (5, .iconst 1, 1), (6, .if_icmp .ne 7, 3), (9, .iconst 1, 1), (10, .goto 4, 3), (13, .iconst 0, 1), (14, .ireturn, 1)]
theorem qX8_isPartOfFraction : ∀ q ∈ kX8_isPartOfFraction, decode mX8_isPartOfFraction.2.2.1 q.1 = .ok (q.2.1, q.2.2) ∧ am_iok mX8_isPartOfFraction.2.2.2.1 q.1 q.2.1 q.2.2 = true := by decide +kernel
set_option maxRecDepth 100000 in
theorem wX8_isPartOfFraction : Cond.code mX8_isPartOfFraction.2.1 mX8_isPartOfFraction.2.2.1 mX8_isPartOfFraction.2.2.2.1 mX8_isPartOfFraction.2.2.2.2.1 ∈ am_T := List.mem_filter.mpr ⟨List.mem_of_getElem? (i := 1164) rfl, rfl⟩
set_option maxHeartbeats 4000000 in
set_option maxRecDepth 100000 in
theorem tX8_isPartOfFraction (l : Launch) (d : Nat) {s0 : AS} {a1 : Int32} {rE : Int32} (hf : fX8_isPartOfFraction a1 = some rE) : am_Ct l (d + 1) mX8_isPartOfFraction [.inr (.inr ((9, 0, 0), 0)), .inl a1] s0 s0 (some (.inl rE)) := by
  refine am_sim l (d + 0) (code := kX8_isPartOfFraction) (by decide +kernel) wX8_isPartOfFraction qX8_isPartOfFraction (Nat.le_of_ble_eq_true rfl) ?_
  intro X hX
  show X 0 [(0, .inr (.inr ((9, 0, 0), 0))), (1, .inl a1)] [] s0
  unfold fX8_isPartOfFraction at hf
  refine am_jn hf (fun J14 => ∀ (x1 : Int32), J14 x1 = some rE → X 14 [] [.inl x1] s0) ?_ ?_
  · intro x1 hf
    obtain ⟨g2, hf⟩ := am_g_of hf
    refine am_blk hX 8 1 (And.intro g2 (am_rpi hf))
  · intro J14 hJ14 hf
    refine am_jn hf (fun J9 => J9 = some rE → X 9 [] [] s0) ?_ ?_
    · intro hf
      refine am_blk hX 5 2 (?_)
      show X 14 [] [.inl (1 : Int32)] s0
      exact am_wk hX [] (hJ14 (1 : Int32) hf)
    · intro J9 hJ9 hf
      refine am_blk hX 0 2 (And.intro (fun hb => ?_) (fun hb => ?_))
      · have hf := am_it hf hb
        show X 9 [(0, .inr (.inr ((9, 0, 0), 0))), (1, .inl a1)] [] s0
        exact am_wk hX [] (hJ9 hf)
      · have hf := am_if hf hb
        show X 4 [(0, .inr (.inr ((9, 0, 0), 0))), (1, .inl a1)] [] s0
        refine am_blk hX 2 3 (And.intro (fun hb => ?_) (fun hb => ?_))
        · have hf := am_if hf hb
          show X 13 [(0, .inr (.inr ((9, 0, 0), 0))), (1, .inl a1)] [] s0
          refine am_blk hX 7 1 (?_)
          show X 14 [(0, .inr (.inr ((9, 0, 0), 0))), (1, .inl a1)] [.inl (0 : Int32)] s0
          exact am_wk hX [] (hJ14 (0 : Int32) hf)
        · have hf := am_it hf hb
          show X 9 [(0, .inr (.inr ((9, 0, 0), 0))), (1, .inl a1)] [] s0
          exact am_wk hX [] (hJ9 hf)
def fX8_weightOf_L5 (a1 : Int32) (a2 : Int32) (s0 : AS) : Nat → Int64 → Int32 → Option Int64
  | 0, _, _ => none
  | n5 + 1, x1, x2 =>
    if a2 ≤ x2 then (some x1) else (am_r (fX8_holds a1 x2) (fun (v3 : Int32) => am_let (fun (x4 : Int64) => am_let (x1 * x4) (fun (x5 : Int64) => am_let (x2 + (1 : Int32)) (fun (x6 : Int32) => fX8_weightOf_L5 a1 a2 s0 n5 x5 x6))) (fun J43 => if v3 = 0 then (J43 (((10 : Int32) - (s0.1 25 4)).toInt64)) else (J43 ((s0.1 25 4).toInt64)))))
def fX8_weightOf (s0 : AS) (a1 : Int32) (a2 : Int32) : Option Int64 :=
  fX8_weightOf_L5 a1 a2 s0 am_fu (1 : Int64) (0 : Int32)
def kX8_weightOf : List (Nat × Instr × Nat) := [(0, .lconst 1, 1), (1, .lstore_n 3, 1), (2, .iconst 0, 1), (3, .istore 5, 2), (5, .iload 5, 2), (7, .iload_n 2, 1), (8, .if_icmp .ge 43, 3), (11, .lload_n 3, 1), (12, .iload_n 1, 1), (13, .iload 5, 2), (15, .invokestatic 175, 3), (18, .ifCond .eq 14, 3), (21, .aload_n 0, 1), (22, .getfield 29, 3), (25, .getfield 149, 3), (28, .i2l, 1), (29, .goto 14, 3), (32, .bipush 10, 2), (34, .aload_n 0, 1), (35, .getfield 29, 3), (38, .getfield 149, 3), (41, .isub, 1), (42, .i2l, 1), (43, .lmul, 1), (44, .lstore_n 3, 1), (45, .iinc 5 1, 3), (48, .goto (-43), 3), (51, .lload_n 3, 1), (52, .lreturn, 1)]
theorem qX8_weightOf : ∀ q ∈ kX8_weightOf, decode mX8_weightOf.2.2.1 q.1 = .ok (q.2.1, q.2.2) ∧ am_iok mX8_weightOf.2.2.2.1 q.1 q.2.1 q.2.2 = true := by decide +kernel
set_option maxRecDepth 100000 in
theorem wX8_weightOf : Cond.code mX8_weightOf.2.1 mX8_weightOf.2.2.1 mX8_weightOf.2.2.2.1 mX8_weightOf.2.2.2.2.1 ∈ am_T := List.mem_filter.mpr ⟨List.mem_of_getElem? (i := 1169) rfl, rfl⟩
set_option maxHeartbeats 4000000 in
set_option maxRecDepth 100000 in
theorem tX8_weightOf (l : Launch) (d : Nat) {s0 : AS} {a1 : Int32} {a2 : Int32} {rE : Int64} (hf : fX8_weightOf s0 a1 a2 = some rE) : am_Ct l (d + 2) mX8_weightOf [.inr (.inr ((9, 0, 0), 0)), .inl a1, .inl a2] s0 s0 (some (.inr (.inl rE))) := by
  refine am_sim l (d + 1) (code := kX8_weightOf) (by decide +kernel) wX8_weightOf qX8_weightOf (Nat.le_of_ble_eq_true rfl) ?_
  intro X hX
  show X 0 [(0, .inr (.inr ((9, 0, 0), 0))), (1, .inl a1), (2, .inl a2)] [] s0
  unfold fX8_weightOf at hf
  have hL5 : ∀ (n5 : Nat) (x1 : Int64) (x2 : Int32), fX8_weightOf_L5 a1 a2 s0 n5 x1 x2 = some rE → X 5 [(0, .inr (.inr ((9, 0, 0), 0))), (1, .inl a1), (2, .inl a2), (3, .inr (.inl x1)), (5, .inl x2)] [] s0 := by
    intro n5
    induction n5 with
    | zero => intro x1 x2 hf; exact am_no (show none = some _ from hf)
    | succ n5 ih5 =>
      intro x1 x2 hf
      refine am_blk hX 4 3 (And.intro (fun hb => ?_) (fun hb => ?_))
      · have hf := am_it hf hb
        show X 51 [(0, .inr (.inr ((9, 0, 0), 0))), (1, .inl a1), (2, .inl a2), (3, .inr (.inl x1)), (5, .inl x2)] [] s0
        refine am_blk hX 27 2 (And.intro rfl (am_rpl hf))
      · have hf := am_if hf hb
        show X 11 [(0, .inr (.inr ((9, 0, 0), 0))), (1, .inl a1), (2, .inl a2), (3, .inr (.inl x1)), (5, .inl x2)] [] s0
        obtain ⟨v3, hcv3, hf⟩ := am_r_of hf
        refine am_jn hf (fun J43 => ∀ (x4 : Int64), J43 x4 = some rE → X 43 [(0, .inr (.inr ((9, 0, 0), 0))), (1, .inl a1), (2, .inl a2), (5, .inl x2)] [.inr (.inl x4), .inr (.inl x1)] s0) ?_ ?_
        · intro x4 hf
          refine am_blk hX 23 2 (am_nl (Z := fun x5 => X 45 [(3, .inr (.inl x5)), (0, .inr (.inr ((9, 0, 0), 0))), (1, .inl a1), (2, .inl a2), (5, .inl x2)] [] s0) hf (fun x5 hf => ?_))
          refine am_blk hX 25 1 (am_nl (Z := fun x6 => X 48 [(5, .inl x6), (3, .inr (.inl x5)), (0, .inr (.inr ((9, 0, 0), 0))), (1, .inl a1), (2, .inl a2)] [] s0) hf (fun x6 hf => ?_))
          refine am_blk hX 26 1 (?_)
          show X 5 [(5, .inl x6), (3, .inr (.inl x5)), (0, .inr (.inr ((9, 0, 0), 0))), (1, .inl a1), (2, .inl a2)] [] s0
          exact am_wk hX [2, 3, 4, 1, 0] (ih5 x5 x6 hf)
        · intro J43 hJ43 hf
          refine am_blk hX 7 5 (And.intro rfl (Exists.intro s0 (Exists.intro (some (.inl v3)) (And.intro (tX8_holds l (d + 0) hcv3) (And.intro (fun hb => ?_) (fun hb => ?_))))))
          · have hf := am_it hf hb
            show X 32 [(0, .inr (.inr ((9, 0, 0), 0))), (1, .inl a1), (2, .inl a2), (3, .inr (.inl x1)), (5, .inl x2)] [.inr (.inl x1)] s0
            refine am_blk hX 17 6 (And.intro rfl (And.intro rfl (?_)))
            show X 43 [(0, .inr (.inr ((9, 0, 0), 0))), (1, .inl a1), (2, .inl a2), (3, .inr (.inl x1)), (5, .inl x2)] [.inr (.inl (((10 : Int32) - (s0.1 25 4)).toInt64)), .inr (.inl x1)] s0
            exact am_wk hX [0, 1, 2, 4] (hJ43 (((10 : Int32) - (s0.1 25 4)).toInt64) hf)
          · have hf := am_if hf hb
            show X 21 [(0, .inr (.inr ((9, 0, 0), 0))), (1, .inl a1), (2, .inl a2), (3, .inr (.inl x1)), (5, .inl x2)] [.inr (.inl x1)] s0
            refine am_blk hX 12 5 (And.intro rfl (And.intro rfl (?_)))
            show X 43 [(0, .inr (.inr ((9, 0, 0), 0))), (1, .inl a1), (2, .inl a2), (3, .inr (.inl x1)), (5, .inl x2)] [.inr (.inl ((s0.1 25 4).toInt64)), .inr (.inl x1)] s0
            exact am_wk hX [0, 1, 2, 4] (hJ43 ((s0.1 25 4).toInt64) hf)
  refine am_blk hX 0 4 (?_)
  show X 5 [(5, .inl (0 : Int32)), (3, .inr (.inl (1 : Int64))), (0, .inr (.inr ((9, 0, 0), 0))), (1, .inl a1), (2, .inl a2)] [] s0
  exact am_wk hX [2, 3, 4, 1, 0] (hL5 am_fu (1 : Int64) (0 : Int32) hf)
def fX8_goInRain (s0 : AS) (a1 : Int64) (a3 : Int32) : Option (AS × Unit) :=
  am_c (fX8_asItIs s0) (fun (s2 : AS) (v1 : Unit) => am_let (am_sj s2 172 6 a1) (fun (s3 : AS) => am_let (am_si s3 172 5 a3) (fun (s4 : AS) => am_c (fX6_go s4 198 25 172) (fun (s6 : AS) (v5 : Unit) => some (s6, ())))))
def kX8_goInRain : List (Nat × Instr × Nat) := [(0, .aload_n 0, 1), (1, .invokevirtual 195, 3), (4, .aload_n 0, 1), (5, .getfield 68, 3), (8, .lload_n 1, 1), (9, .putfield 405, 3), (12, .aload_n 0, 1), (13, .getfield 68, 3), (16, .iload_n 3, 1), (17, .putfield 409, 3), (20, .aload_n 0, 1), (21, .getfield 75, 3), (24, .aload_n 0, 1), (25, .getfield 29, 3), (28, .aload_n 0, 1), (29, .getfield 68, 3), (32, .invokevirtual 198, 3), (35, .return_, 1)]
theorem qX8_goInRain : ∀ q ∈ kX8_goInRain, decode mX8_goInRain.2.2.1 q.1 = .ok (q.2.1, q.2.2) ∧ am_iok mX8_goInRain.2.2.2.1 q.1 q.2.1 q.2.2 = true := by decide +kernel
set_option maxRecDepth 100000 in
theorem wX8_goInRain : Cond.code mX8_goInRain.2.1 mX8_goInRain.2.2.1 mX8_goInRain.2.2.2.1 mX8_goInRain.2.2.2.2.1 ∈ am_T := List.mem_filter.mpr ⟨List.mem_of_getElem? (i := 1173) rfl, rfl⟩
set_option maxHeartbeats 4000000 in
set_option maxRecDepth 100000 in
theorem tX8_goInRain (l : Launch) (d : Nat) {s0 : AS} {a1 : Int64} {a3 : Int32} {sE : AS} {rE : Unit} (hf : fX8_goInRain s0 a1 a3 = some (sE, rE)) : am_Ct l (d + 5) mX8_goInRain [.inr (.inr ((9, 0, 0), 0)), .inr (.inl a1), .inl a3] s0 sE none := by
  refine am_sim l (d + 4) (code := kX8_goInRain) (by decide +kernel) wX8_goInRain qX8_goInRain (Nat.le_of_ble_eq_true rfl) ?_
  intro X hX
  show X 0 [(0, .inr (.inr ((9, 0, 0), 0))), (1, .inr (.inl a1)), (3, .inl a3)] [] s0
  unfold fX8_goInRain at hf
  obtain ⟨s2, v1, hcv1, hf⟩ := am_c_of hf
  refine am_blk hX 0 6 (And.intro rfl (And.intro rfl (Exists.intro s2 (Exists.intro none (And.intro (tX8_asItIs l (d + 2) hcv1) (And.intro rfl (And.intro rfl (am_nl (Z := fun s3 => X 12 [(0, .inr (.inr ((9, 0, 0), 0))), (1, .inr (.inl a1)), (3, .inl a3)] [] s3) hf (fun s3 hf => ?_)))))))))
  refine am_blk hX 6 4 (And.intro rfl (And.intro rfl (am_nl (Z := fun s4 => X 20 [(0, .inr (.inr ((9, 0, 0), 0))), (1, .inr (.inl a1)), (3, .inl a3)] [] s4) hf (fun s4 hf => ?_))))
  obtain ⟨s6, v5, hcv5, hf⟩ := am_c_of hf
  refine am_blk hX 10 8 (And.intro rfl (And.intro rfl (And.intro rfl (And.intro rfl (And.intro rfl (Exists.intro s6 (Exists.intro none (And.intro (tX6_go l (d + 0) hcv5) (And.intro rfl (am_rv hf))))))))))
def fX8_tens_L4 (a0 : Int32) : Nat → Int64 → Int32 → Option Int64
  | 0, _, _ => none
  | n4 + 1, x1, x2 =>
    if a0 ≤ x2 then (some x1) else (am_let (x1 * (10 : Int64)) (fun (x3 : Int64) => am_let (x2 + (1 : Int32)) (fun (x4 : Int32) => fX8_tens_L4 a0 n4 x3 x4)))
def fX8_tens (a0 : Int32) : Option Int64 :=
  fX8_tens_L4 a0 am_fu (1 : Int64) (0 : Int32)
def kX8_tens : List (Nat × Instr × Nat) := [(0, .lconst 1, 1), (1, .lstore_n 1, 1), (2, .iconst 0, 1), (3, .istore_n 3, 1), (4, .iload_n 3, 1), (5, .iload_n 0, 1), (6, .if_icmp .ge 15, 3), (9, .lload_n 1, 1), (10, .ldc2_w 412, 3), (13, .lmul, 1), (14, .lstore_n 1, 1), (15, .iinc 3 1, 3), (18, .goto (-14), 3), (21, .lload_n 1, 1), (22, .lreturn, 1)]
theorem qX8_tens : ∀ q ∈ kX8_tens, decode mX8_tens.2.2.1 q.1 = .ok (q.2.1, q.2.2) ∧ am_iok mX8_tens.2.2.2.1 q.1 q.2.1 q.2.2 = true := by decide +kernel
set_option maxRecDepth 100000 in
theorem wX8_tens : Cond.code mX8_tens.2.1 mX8_tens.2.2.1 mX8_tens.2.2.2.1 mX8_tens.2.2.2.2.1 ∈ am_T := List.mem_filter.mpr ⟨List.mem_of_getElem? (i := 1176) rfl, rfl⟩
set_option maxHeartbeats 4000000 in
set_option maxRecDepth 100000 in
theorem tX8_tens (l : Launch) (d : Nat) {s0 : AS} {a0 : Int32} {rE : Int64} (hf : fX8_tens a0 = some rE) : am_Ct l (d + 1) mX8_tens [.inl a0] s0 s0 (some (.inr (.inl rE))) := by
  refine am_sim l (d + 0) (code := kX8_tens) (by decide +kernel) wX8_tens qX8_tens (Nat.le_of_ble_eq_true rfl) ?_
  intro X hX
  show X 0 [(0, .inl a0)] [] s0
  unfold fX8_tens at hf
  have hL4 : ∀ (n4 : Nat) (x1 : Int64) (x2 : Int32), fX8_tens_L4 a0 n4 x1 x2 = some rE → X 4 [(0, .inl a0), (1, .inr (.inl x1)), (3, .inl x2)] [] s0 := by
    intro n4
    induction n4 with
    | zero => intro x1 x2 hf; exact am_no (show none = some _ from hf)
    | succ n4 ih4 =>
      intro x1 x2 hf
      refine am_blk hX 4 3 (And.intro (fun hb => ?_) (fun hb => ?_))
      · have hf := am_it hf hb
        show X 21 [(0, .inl a0), (1, .inr (.inl x1)), (3, .inl x2)] [] s0
        refine am_blk hX 13 2 (And.intro rfl (am_rpl hf))
      · have hf := am_if hf hb
        show X 9 [(0, .inl a0), (1, .inr (.inl x1)), (3, .inl x2)] [] s0
        refine am_blk hX 7 4 (am_nl (Z := fun x3 => X 15 [(1, .inr (.inl x3)), (0, .inl a0), (3, .inl x2)] [] s0) hf (fun x3 hf => ?_))
        refine am_blk hX 11 1 (am_nl (Z := fun x4 => X 18 [(3, .inl x4), (1, .inr (.inl x3)), (0, .inl a0)] [] s0) hf (fun x4 hf => ?_))
        refine am_blk hX 12 1 (?_)
        show X 4 [(3, .inl x4), (1, .inr (.inl x3)), (0, .inl a0)] [] s0
        exact am_wk hX [2, 1, 0] (ih4 x3 x4 hf)
  refine am_blk hX 0 4 (?_)
  show X 4 [(3, .inl (0 : Int32)), (1, .inr (.inl (1 : Int64))), (0, .inl a0)] [] s0
  exact am_wk hX [2, 1, 0] (hL4 am_fu (1 : Int64) (0 : Int32) hf)
def fX8_commonDivisor_L3 (J33 : Int64 → Option Int64) : Nat → Int64 → Int64 → Int32 → Option Int64
  | 0, _, _, _ => none
  | n3 + 1, x2, x3, x4 =>
    if (200 : Int32) ≤ x4 then (J33 x2) else (if (lg_cmp x3 (0 : Int64)) = 0 then (J33 x2) else (am_g (¬ x3 = 0) (am_let (x2 - x2 / x3 * x3) (fun (x6 : Int64) => am_let (x4 + (1 : Int32)) (fun (x7 : Int32) => fX8_commonDivisor_L3 J33 n3 x3 x6 x7)))))
def fX8_commonDivisor (a0 : Int64) (a2 : Int64) : Option Int64 :=
  am_let (fun (x1 : Int64) => some x1) (fun J33 => fX8_commonDivisor_L3 J33 am_fu a0 a2 (0 : Int32))
def kX8_commonDivisor : List (Nat × Instr × Nat) := [(0, .iconst 0, 1), (1, .istore 4, 2), (3, .iload 4, 2), (5, .sipush 200, 3), (8, .if_icmp .ge 25, 3), (11, .lload_n 2, 1), (12, .lconst 0, 1), (13, .lcmp, 1), (14, .ifCond .eq 19, 3), (17, .lload_n 0, 1), (18, .lload_n 2, 1), (19, .lrem, 1), (20, .lstore 5, 2), (22, .lload_n 2, 1), (23, .lstore_n 0, 1), (24, .lload 5, 2), (26, .lstore_n 2, 1), (27, .iinc 4 1, 3), (30, .goto (-27), 3), (33, .lload_n 0, 1), (34, .lreturn, 1)]
theorem qX8_commonDivisor : ∀ q ∈ kX8_commonDivisor, decode mX8_commonDivisor.2.2.1 q.1 = .ok (q.2.1, q.2.2) ∧ am_iok mX8_commonDivisor.2.2.2.1 q.1 q.2.1 q.2.2 = true := by decide +kernel
set_option maxRecDepth 100000 in
theorem wX8_commonDivisor : Cond.code mX8_commonDivisor.2.1 mX8_commonDivisor.2.2.1 mX8_commonDivisor.2.2.2.1 mX8_commonDivisor.2.2.2.2.1 ∈ am_T := List.mem_filter.mpr ⟨List.mem_of_getElem? (i := 1183) rfl, rfl⟩
set_option maxHeartbeats 4000000 in
set_option maxRecDepth 100000 in
theorem tX8_commonDivisor (l : Launch) (d : Nat) {s0 : AS} {a0 : Int64} {a2 : Int64} {rE : Int64} (hf : fX8_commonDivisor a0 a2 = some rE) : am_Ct l (d + 1) mX8_commonDivisor [.inr (.inl a0), .inr (.inl a2)] s0 s0 (some (.inr (.inl rE))) := by
  refine am_sim l (d + 0) (code := kX8_commonDivisor) (by decide +kernel) wX8_commonDivisor qX8_commonDivisor (Nat.le_of_ble_eq_true rfl) ?_
  intro X hX
  show X 0 [(0, .inr (.inl a0)), (2, .inr (.inl a2))] [] s0
  unfold fX8_commonDivisor at hf
  refine am_jn hf (fun J33 => ∀ (x1 : Int64), J33 x1 = some rE → X 33 [(0, .inr (.inl x1))] [] s0) ?_ ?_
  · intro x1 hf
    refine am_blk hX 19 2 (And.intro rfl (am_rpl hf))
  · intro J33 hJ33 hf
    have hL3 : ∀ (n3 : Nat) (x2 : Int64) (x3 : Int64) (x4 : Int32), fX8_commonDivisor_L3 J33 n3 x2 x3 x4 = some rE → X 3 [(0, .inr (.inl x2)), (2, .inr (.inl x3)), (4, .inl x4)] [] s0 := by
      intro n3
      induction n3 with
      | zero => intro x2 x3 x4 hf; exact am_no (show none = some _ from hf)
      | succ n3 ih3 =>
        intro x2 x3 x4 hf
        refine am_blk hX 2 3 (And.intro (fun hb => ?_) (fun hb => ?_))
        · have hf := am_it hf hb
          show X 33 [(0, .inr (.inl x2)), (2, .inr (.inl x3)), (4, .inl x4)] [] s0
          exact am_wk hX [0] (hJ33 x2 hf)
        · have hf := am_if hf hb
          show X 11 [(0, .inr (.inl x2)), (2, .inr (.inl x3)), (4, .inl x4)] [] s0
          refine am_blk hX 5 4 (And.intro (fun hb => ?_) (fun hb => ?_))
          · have hf := am_it hf hb
            show X 33 [(0, .inr (.inl x2)), (2, .inr (.inl x3)), (4, .inl x4)] [] s0
            exact am_wk hX [0] (hJ33 x2 hf)
          · have hf := am_if hf hb
            show X 17 [(0, .inr (.inl x2)), (2, .inr (.inl x3)), (4, .inl x4)] [] s0
            obtain ⟨g5, hf⟩ := am_g_of hf
            refine am_blk hX 9 4 (And.intro g5 (am_nl (Z := fun x6 => X 22 [(5, .inr (.inl x6)), (0, .inr (.inl x2)), (2, .inr (.inl x3)), (4, .inl x4)] [] s0) hf (fun x6 hf => ?_)))
            refine am_blk hX 13 5 (am_nl (Z := fun x7 => X 30 [(4, .inl x7), (2, .inr (.inl x6)), (0, .inr (.inl x3)), (5, .inr (.inl x6))] [] s0) hf (fun x7 hf => ?_))
            refine am_blk hX 18 1 (?_)
            show X 3 [(4, .inl x7), (2, .inr (.inl x6)), (0, .inr (.inl x3)), (5, .inr (.inl x6))] [] s0
            exact am_wk hX [2, 1, 0] (ih3 x3 x6 x7 hf)
    refine am_blk hX 0 2 (?_)
    show X 3 [(4, .inl (0 : Int32)), (0, .inr (.inl a0)), (2, .inr (.inl a2))] [] s0
    exact am_wk hX [1, 2, 0] (hL3 am_fu a0 a2 (0 : Int32) hf)
def fX8_partOf (a0 : Int64) (a2 : Int64) (a4 : Int32) : Option Int64 :=
  am_r (fX8_commonDivisor a2 a0) (fun (v1 : Int64) => if 0 < (lg_cmp v1 (0 : Int64)) then (am_let (fun (x2 : Int64) => am_g (¬ v1 = 0) (some (x2 / v1))) (fun J28 => if a4 = 0 then (J28 a0) else (J28 a2))) else (some (-2 : Int64)))
def kX8_partOf : List (Nat × Instr × Nat) := [(0, .lload_n 2, 1), (1, .lload_n 0, 1), (2, .invokestatic 414, 3), (5, .lstore 5, 2), (7, .lload 5, 2), (9, .lconst 0, 1), (10, .lcmp, 1), (11, .ifCond .gt 7, 3), (14, .ldc2_w 387, 3), (17, .lreturn, 1), (18, .iload 4, 2), (20, .ifCond .ne 7, 3), (23, .lload_n 0, 1), (24, .goto 4, 3), (27, .lload_n 2, 1), (28, .lload 5, 2), (30, .ldiv, 1), (31, .lreturn, 1)]
theorem qX8_partOf : ∀ q ∈ kX8_partOf, decode mX8_partOf.2.2.1 q.1 = .ok (q.2.1, q.2.2) ∧ am_iok mX8_partOf.2.2.2.1 q.1 q.2.1 q.2.2 = true := by decide +kernel
set_option maxRecDepth 100000 in
theorem wX8_partOf : Cond.code mX8_partOf.2.1 mX8_partOf.2.2.1 mX8_partOf.2.2.2.1 mX8_partOf.2.2.2.2.1 ∈ am_T := List.mem_filter.mpr ⟨List.mem_of_getElem? (i := 1180) rfl, rfl⟩
set_option maxHeartbeats 4000000 in
set_option maxRecDepth 100000 in
theorem tX8_partOf (l : Launch) (d : Nat) {s0 : AS} {a0 : Int64} {a2 : Int64} {a4 : Int32} {rE : Int64} (hf : fX8_partOf a0 a2 a4 = some rE) : am_Ct l (d + 2) mX8_partOf [.inr (.inl a0), .inr (.inl a2), .inl a4] s0 s0 (some (.inr (.inl rE))) := by
  refine am_sim l (d + 1) (code := kX8_partOf) (by decide +kernel) wX8_partOf qX8_partOf (Nat.le_of_ble_eq_true rfl) ?_
  intro X hX
  show X 0 [(0, .inr (.inl a0)), (2, .inr (.inl a2)), (4, .inl a4)] [] s0
  unfold fX8_partOf at hf
  obtain ⟨v1, hcv1, hf⟩ := am_r_of hf
  refine am_blk hX 0 8 (And.intro rfl (Exists.intro s0 (Exists.intro (some (.inr (.inl v1))) (And.intro (tX8_commonDivisor l (d + 0) hcv1) (And.intro (fun hb => ?_) (fun hb => ?_))))))
  · have hf := am_it hf hb
    show X 18 [(5, .inr (.inl v1)), (0, .inr (.inl a0)), (2, .inr (.inl a2)), (4, .inl a4)] [] s0
    refine am_jn hf (fun J28 => ∀ (x2 : Int64), J28 x2 = some rE → X 28 [(5, .inr (.inl v1))] [.inr (.inl x2)] s0) ?_ ?_
    · intro x2 hf
      obtain ⟨g3, hf⟩ := am_g_of hf
      refine am_blk hX 15 3 (And.intro g3 (And.intro rfl (am_rpl hf)))
    · intro J28 hJ28 hf
      refine am_blk hX 10 2 (And.intro (fun hb => ?_) (fun hb => ?_))
      · have hf := am_if hf hb
        show X 27 [(5, .inr (.inl v1)), (0, .inr (.inl a0)), (2, .inr (.inl a2)), (4, .inl a4)] [] s0
        refine am_blk hX 14 1 (?_)
        show X 28 [(5, .inr (.inl v1)), (0, .inr (.inl a0)), (2, .inr (.inl a2)), (4, .inl a4)] [.inr (.inl a2)] s0
        exact am_wk hX [0] (hJ28 a2 hf)
      · have hf := am_it hf hb
        show X 23 [(5, .inr (.inl v1)), (0, .inr (.inl a0)), (2, .inr (.inl a2)), (4, .inl a4)] [] s0
        refine am_blk hX 12 2 (?_)
        show X 28 [(5, .inr (.inl v1)), (0, .inr (.inl a0)), (2, .inr (.inl a2)), (4, .inl a4)] [.inr (.inl a0)] s0
        exact am_wk hX [0] (hJ28 a0 hf)
  · have hf := am_if hf hb
    show X 14 [(5, .inr (.inl v1)), (0, .inr (.inl a0)), (2, .inr (.inl a2)), (4, .inl a4)] [] s0
    refine am_blk hX 8 2 (And.intro rfl (am_rpl hf))
def fX8_chance_L38 (a1 : Int32) (a2 : Int32) (a3 : Int32) : Nat → AS → Int64 → Int32 → Option (AS × Int64)
  | 0, _, _, _ => none
  | n38 + 1, s6, x7, x8 =>
    if ((1 : Int32) <<< (a2 &&& 31)) ≤ x8 then (am_r (fX8_tens a2) (fun (v9 : Int64) => am_r (fX8_partOf x7 v9 a3) (fun (v10 : Int64) => some (s6, v10)))) else (am_r (fX8_weightOf s6 x8 a2) (fun (v11 : Int64) => am_let (fun (s12 : AS) (x13 : Int64) => am_let (x8 + (1 : Int32)) (fun (x14 : Int32) => fX8_chance_L38 a1 a2 a3 n38 s12 x13 x14)) (fun J95 => if (lg_cmp v11 (0 : Int64)) ≤ 0 then (J95 s6 x7) else (am_c (fX8_goInRain s6 x8.toInt64 a2) (fun (s16 : AS) (v15 : Unit) => am_r (fX8_holds (s16.1 198 8) a1) (fun (v17 : Int32) => am_let (fun (x18 : Int64) => am_let (x7 + x18) (fun (x19 : Int64) => J95 s16 x19)) (fun J92 => if v17 = 0 then (J92 (0 : Int64)) else (J92 v11))))))))
def fX8_chance (s0 : AS) (a1 : Int32) (a2 : Int32) (a3 : Int32) : Option (AS × Int64) :=
  am_r (fX8_isPlace s0 a1) (fun (v1 : Int32) => am_let (some (s0, (-2 : Int64))) (fun J24 => if v1 = 0 then (J24) else (am_r (fX8_isRainyStep s0 a2) (fun (v2 : Int32) => if v2 = 0 then (J24) else (am_r (fX8_isPartOfFraction a3) (fun (v3 : Int32) => if v3 = 0 then (J24) else (am_c (fX8_tell s0) (fun (s5 : AS) (v4 : Unit) => fX8_chance_L38 a1 a2 a3 am_fu s5 (0 : Int64) (0 : Int32)))))))))
def kX8_chance : List (Nat × Instr × Nat) := [(0, .aload_n 0, 1), (1, .iload_n 1, 1), (2, .invokevirtual 162, 3), (5, .ifCond .eq 19, 3), (8, .aload_n 0, 1), (9, .iload_n 2, 1), (10, .invokevirtual 381, 3), (13, .ifCond .eq 11, 3), (16, .aload_n 0, 1), (17, .iload_n 3, 1), (18, .invokevirtual 384, 3), (21, .ifCond .ne 7, 3), (24, .ldc2_w 387, 3), (27, .lreturn, 1), (28, .aload_n 0, 1), (29, .invokevirtual 165, 3), (32, .lconst 0, 1), (33, .lstore 4, 2), (35, .iconst 0, 1), (36, .istore 6, 2), (38, .iload 6, 2), (40, .iconst 1, 1), (41, .iload_n 2, 1), (42, .ishl, 1), (43, .if_icmp .ge 58, 3), (46, .aload_n 0, 1), (47, .iload 6, 2), (49, .iload_n 2, 1), (50, .invokevirtual 389, 3), (53, .lstore 7, 2), (55, .lload 7, 2), (57, .lconst 0, 1), (58, .lcmp, 1), (59, .ifCond .le 36, 3), (62, .aload_n 0, 1), (63, .iload 6, 2), (65, .i2l, 1), (66, .iload_n 2, 1), (67, .invokevirtual 393, 3), (70, .lload 4, 2), (72, .aload_n 0, 1), (73, .getfield 75, 3), (76, .getfield 272, 3), (79, .iload_n 1, 1), (80, .invokestatic 175, 3), (83, .ifCond .eq 8, 3), (86, .lload 7, 2), (88, .goto 4, 3), (91, .lconst 0, 1), (92, .ladd, 1), (93, .lstore 4, 2), (95, .iinc 6 1, 3), (98, .goto (-60), 3), (101, .lload 4, 2), (103, .iload_n 2, 1), (104, .invokestatic 397, 3), (107, .iload_n 3, 1), (108, .invokestatic 401, 3), (111, .lreturn, 1)]
theorem qX8_chance : ∀ q ∈ kX8_chance, decode mX8_chance.2.2.1 q.1 = .ok (q.2.1, q.2.2) ∧ am_iok mX8_chance.2.2.2.1 q.1 q.2.1 q.2.2 = true := by decide +kernel
set_option maxRecDepth 100000 in
theorem wX8_chance : Cond.code mX8_chance.2.1 mX8_chance.2.2.1 mX8_chance.2.2.2.1 mX8_chance.2.2.2.2.1 ∈ am_T := List.mem_filter.mpr ⟨List.mem_of_getElem? (i := 1156) rfl, rfl⟩
set_option maxHeartbeats 4000000 in
set_option maxRecDepth 100000 in
theorem tX8_chance (l : Launch) (d : Nat) {s0 : AS} {a1 : Int32} {a2 : Int32} {a3 : Int32} {sE : AS} {rE : Int64} (hf : fX8_chance s0 a1 a2 a3 = some (sE, rE)) : am_Ct l (d + 6) mX8_chance [.inr (.inr ((9, 0, 0), 0)), .inl a1, .inl a2, .inl a3] s0 sE (some (.inr (.inl rE))) := by
  refine am_sim l (d + 5) (code := kX8_chance) (by decide +kernel) wX8_chance qX8_chance (Nat.le_of_ble_eq_true rfl) ?_
  intro X hX
  show X 0 [(0, .inr (.inr ((9, 0, 0), 0))), (1, .inl a1), (2, .inl a2), (3, .inl a3)] [] s0
  unfold fX8_chance at hf
  obtain ⟨v1, hcv1, hf⟩ := am_r_of hf
  refine am_jn hf (fun J24 => J24 = some (sE, rE) → X 24 [] [] s0) ?_ ?_
  · intro hf
    refine am_blk hX 12 2 (And.intro rfl (am_rl hf))
  · intro J24 hJ24 hf
    refine am_blk hX 0 4 (And.intro rfl (And.intro rfl (Exists.intro s0 (Exists.intro (some (.inl v1)) (And.intro (tX8_isPlace l (d + 4) hcv1) (And.intro (fun hb => ?_) (fun hb => ?_)))))))
    · have hf := am_it hf hb
      show X 24 [(0, .inr (.inr ((9, 0, 0), 0))), (1, .inl a1), (2, .inl a2), (3, .inl a3)] [] s0
      exact am_wk hX [] (hJ24 hf)
    · have hf := am_if hf hb
      show X 8 [(0, .inr (.inr ((9, 0, 0), 0))), (1, .inl a1), (2, .inl a2), (3, .inl a3)] [] s0
      obtain ⟨v2, hcv2, hf⟩ := am_r_of hf
      refine am_blk hX 4 4 (And.intro rfl (And.intro rfl (Exists.intro s0 (Exists.intro (some (.inl v2)) (And.intro (tX8_isRainyStep l (d + 3) hcv2) (And.intro (fun hb => ?_) (fun hb => ?_)))))))
      · have hf := am_it hf hb
        show X 24 [(0, .inr (.inr ((9, 0, 0), 0))), (1, .inl a1), (2, .inl a2), (3, .inl a3)] [] s0
        exact am_wk hX [] (hJ24 hf)
      · have hf := am_if hf hb
        show X 16 [(0, .inr (.inr ((9, 0, 0), 0))), (1, .inl a1), (2, .inl a2), (3, .inl a3)] [] s0
        obtain ⟨v3, hcv3, hf⟩ := am_r_of hf
        refine am_blk hX 8 4 (And.intro rfl (And.intro rfl (Exists.intro s0 (Exists.intro (some (.inl v3)) (And.intro (tX8_isPartOfFraction l (d + 4) hcv3) (And.intro (fun hb => ?_) (fun hb => ?_)))))))
        · have hf := am_if hf hb
          show X 28 [(0, .inr (.inr ((9, 0, 0), 0))), (1, .inl a1), (2, .inl a2), (3, .inl a3)] [] s0
          obtain ⟨s5, v4, hcv4, hf⟩ := am_c_of hf
          have hL38 : ∀ (n38 : Nat) (s6 : AS) (x7 : Int64) (x8 : Int32), fX8_chance_L38 a1 a2 a3 n38 s6 x7 x8 = some (sE, rE) → X 38 [(0, .inr (.inr ((9, 0, 0), 0))), (1, .inl a1), (2, .inl a2), (3, .inl a3), (4, .inr (.inl x7)), (6, .inl x8)] [] s6 := by
            intro n38
            induction n38 with
            | zero => intro s6 x7 x8 hf; exact am_no (show none = some _ from hf)
            | succ n38 ih38 =>
              intro s6 x7 x8 hf
              refine am_blk hX 20 5 (And.intro (fun hb => ?_) (fun hb => ?_))
              · have hf := am_it hf hb
                show X 101 [(0, .inr (.inr ((9, 0, 0), 0))), (1, .inl a1), (2, .inl a2), (3, .inl a3), (4, .inr (.inl x7)), (6, .inl x8)] [] s6
                obtain ⟨v9, hcv9, hf⟩ := am_r_of hf
                obtain ⟨v10, hcv10, hf⟩ := am_r_of hf
                refine am_blk hX 53 6 (And.intro rfl (Exists.intro s6 (Exists.intro (some (.inr (.inl v9))) (And.intro (tX8_tens l (d + 4) hcv9) (And.intro rfl (Exists.intro s6 (Exists.intro (some (.inr (.inl v10))) (And.intro (tX8_partOf l (d + 3) hcv10) (And.intro rfl (am_rl hf))))))))))
              · have hf := am_if hf hb
                show X 46 [(0, .inr (.inr ((9, 0, 0), 0))), (1, .inl a1), (2, .inl a2), (3, .inl a3), (4, .inr (.inl x7)), (6, .inl x8)] [] s6
                obtain ⟨v11, hcv11, hf⟩ := am_r_of hf
                refine am_jn hf (fun J95 => ∀ (s12 : AS) (x13 : Int64), J95 s12 x13 = some (sE, rE) → X 95 [(0, .inr (.inr ((9, 0, 0), 0))), (1, .inl a1), (2, .inl a2), (3, .inl a3), (4, .inr (.inl x13)), (6, .inl x8)] [] s12) ?_ ?_
                · intro s12 x13 hf
                  refine am_blk hX 51 1 (am_nl (Z := fun x14 => X 98 [(6, .inl x14), (0, .inr (.inr ((9, 0, 0), 0))), (1, .inl a1), (2, .inl a2), (3, .inl a3), (4, .inr (.inl x13))] [] s12) hf (fun x14 hf => ?_))
                  refine am_blk hX 52 1 (?_)
                  show X 38 [(6, .inl x14), (0, .inr (.inr ((9, 0, 0), 0))), (1, .inl a1), (2, .inl a2), (3, .inl a3), (4, .inr (.inl x13))] [] s12
                  exact am_wk hX [1, 2, 3, 4, 5, 0] (ih38 s12 x13 x14 hf)
                · intro J95 hJ95 hf
                  refine am_blk hX 25 9 (And.intro rfl (And.intro rfl (Exists.intro s6 (Exists.intro (some (.inr (.inl v11))) (And.intro (tX8_weightOf l (d + 3) hcv11) (And.intro (fun hb => ?_) (fun hb => ?_)))))))
                  · have hf := am_it hf hb
                    show X 95 [(7, .inr (.inl v11)), (0, .inr (.inr ((9, 0, 0), 0))), (1, .inl a1), (2, .inl a2), (3, .inl a3), (4, .inr (.inl x7)), (6, .inl x8)] [] s6
                    exact am_wk hX [1, 2, 3, 4, 5, 6] (hJ95 s6 x7 hf)
                  · have hf := am_if hf hb
                    show X 62 [(7, .inr (.inl v11)), (0, .inr (.inr ((9, 0, 0), 0))), (1, .inl a1), (2, .inl a2), (3, .inl a3), (4, .inr (.inl x7)), (6, .inl x8)] [] s6
                    obtain ⟨s16, v15, hcv15, hf⟩ := am_c_of hf
                    obtain ⟨v17, hcv17, hf⟩ := am_r_of hf
                    refine am_jn hf (fun J92 => ∀ (x18 : Int64), J92 x18 = some (sE, rE) → X 92 [(0, .inr (.inr ((9, 0, 0), 0))), (1, .inl a1), (2, .inl a2), (3, .inl a3), (6, .inl x8)] [.inr (.inl x18), .inr (.inl x7)] s16) ?_ ?_
                    · intro x18 hf
                      refine am_blk hX 49 2 (am_nl (Z := fun x19 => X 95 [(4, .inr (.inl x19)), (0, .inr (.inr ((9, 0, 0), 0))), (1, .inl a1), (2, .inl a2), (3, .inl a3), (6, .inl x8)] [] s16) hf (fun x19 hf => ?_))
                      exact am_wk hX [1, 2, 3, 4, 0, 5] (hJ95 s16 x19 hf)
                    · intro J92 hJ92 hf
                      refine am_blk hX 34 12 (And.intro rfl (And.intro rfl (Exists.intro s16 (Exists.intro none (And.intro (tX8_goInRain l (d + 0) hcv15) (And.intro rfl (And.intro rfl (And.intro rfl (Exists.intro s16 (Exists.intro (some (.inl v17)) (And.intro (tX8_holds l (d + 4) hcv17) (And.intro (fun hb => ?_) (fun hb => ?_)))))))))))))
                      · have hf := am_it hf hb
                        show X 91 [(7, .inr (.inl v11)), (0, .inr (.inr ((9, 0, 0), 0))), (1, .inl a1), (2, .inl a2), (3, .inl a3), (4, .inr (.inl x7)), (6, .inl x8)] [.inr (.inl x7)] s16
                        refine am_blk hX 48 1 (?_)
                        show X 92 [(7, .inr (.inl v11)), (0, .inr (.inr ((9, 0, 0), 0))), (1, .inl a1), (2, .inl a2), (3, .inl a3), (4, .inr (.inl x7)), (6, .inl x8)] [.inr (.inl (0 : Int64)), .inr (.inl x7)] s16
                        exact am_wk hX [1, 2, 3, 4, 6] (hJ92 (0 : Int64) hf)
                      · have hf := am_if hf hb
                        show X 86 [(7, .inr (.inl v11)), (0, .inr (.inr ((9, 0, 0), 0))), (1, .inl a1), (2, .inl a2), (3, .inl a3), (4, .inr (.inl x7)), (6, .inl x8)] [.inr (.inl x7)] s16
                        refine am_blk hX 46 2 (?_)
                        show X 92 [(7, .inr (.inl v11)), (0, .inr (.inr ((9, 0, 0), 0))), (1, .inl a1), (2, .inl a2), (3, .inl a3), (4, .inr (.inl x7)), (6, .inl x8)] [.inr (.inl v11), .inr (.inl x7)] s16
                        exact am_wk hX [1, 2, 3, 4, 6] (hJ92 v11 hf)
          refine am_blk hX 14 6 (And.intro rfl (And.intro rfl (Exists.intro s5 (Exists.intro none (And.intro (tX8_tell l (d + 0) hcv4) (?_))))))
          show X 38 [(6, .inl (0 : Int32)), (4, .inr (.inl (0 : Int64))), (0, .inr (.inr ((9, 0, 0), 0))), (1, .inl a1), (2, .inl a2), (3, .inl a3)] [] s5
          exact am_wk hX [2, 3, 4, 5, 1, 0] (hL38 am_fu s5 (0 : Int64) (0 : Int32) hf)
        · have hf := am_it hf hb
          show X 24 [(0, .inr (.inr ((9, 0, 0), 0))), (1, .inl a1), (2, .inl a2), (3, .inl a3)] [] s0
          exact am_wk hX [] (hJ24 hf)
def fX8_comes (s0 : AS) (a1 : Int32) : Option (AS × Int32) :=
  am_r (fX8_isPlace s0 a1) (fun (v1 : Int32) => if v1 = 0 then (some (s0, (-2 : Int32))) else (am_c (fX8_tell s0) (fun (s3 : AS) (v2 : Unit) => am_r (fX6_firstAt s3 163 a1 (0 : Int32)) (fun (v4 : Int32) => some (s3, v4)))))
def kX8_comes : List (Nat × Instr × Nat) := [(0, .aload_n 0, 1), (1, .iload_n 1, 1), (2, .invokevirtual 162, 3), (5, .ifCond .ne 6, 3), (8, .bipush (-2), 2), (10, .ireturn, 1), (11, .aload_n 0, 1), (12, .invokevirtual 165, 3), (15, .aload_n 0, 1), (16, .getfield 61, 3), (19, .iload_n 1, 1), (20, .iconst 0, 1), (21, .invokevirtual 240, 3), (24, .ireturn, 1)]
theorem qX8_comes : ∀ q ∈ kX8_comes, decode mX8_comes.2.2.1 q.1 = .ok (q.2.1, q.2.2) ∧ am_iok mX8_comes.2.2.2.1 q.1 q.2.1 q.2.2 = true := by decide +kernel
set_option maxRecDepth 100000 in
theorem wX8_comes : Cond.code mX8_comes.2.1 mX8_comes.2.2.1 mX8_comes.2.2.2.1 mX8_comes.2.2.2.2.1 ∈ am_T := List.mem_filter.mpr ⟨List.mem_of_getElem? (i := 886) rfl, rfl⟩
set_option maxHeartbeats 4000000 in
set_option maxRecDepth 100000 in
theorem tX8_comes (l : Launch) (d : Nat) {s0 : AS} {a1 : Int32} {sE : AS} {rE : Int32} (hf : fX8_comes s0 a1 = some (sE, rE)) : am_Ct l (d + 6) mX8_comes [.inr (.inr ((9, 0, 0), 0)), .inl a1] s0 sE (some (.inl rE)) := by
  refine am_sim l (d + 5) (code := kX8_comes) (by decide +kernel) wX8_comes qX8_comes (Nat.le_of_ble_eq_true rfl) ?_
  intro X hX
  show X 0 [(0, .inr (.inr ((9, 0, 0), 0))), (1, .inl a1)] [] s0
  unfold fX8_comes at hf
  obtain ⟨v1, hcv1, hf⟩ := am_r_of hf
  refine am_blk hX 0 4 (And.intro rfl (And.intro rfl (Exists.intro s0 (Exists.intro (some (.inl v1)) (And.intro (tX8_isPlace l (d + 4) hcv1) (And.intro (fun hb => ?_) (fun hb => ?_)))))))
  · have hf := am_if hf hb
    show X 11 [(0, .inr (.inr ((9, 0, 0), 0))), (1, .inl a1)] [] s0
    obtain ⟨s3, v2, hcv2, hf⟩ := am_c_of hf
    obtain ⟨v4, hcv4, hf⟩ := am_r_of hf
    refine am_blk hX 6 8 (And.intro rfl (And.intro rfl (Exists.intro s3 (Exists.intro none (And.intro (tX8_tell l (d + 0) hcv2) (And.intro rfl (And.intro rfl (And.intro rfl (Exists.intro s3 (Exists.intro (some (.inl v4)) (And.intro (tX6_firstAt l (d + 4) hcv4) (am_ri hf))))))))))))
  · have hf := am_it hf hb
    show X 8 [(0, .inr (.inr ((9, 0, 0), 0))), (1, .inl a1)] [] s0
    refine am_blk hX 4 2 (am_ri hf)
def fX8_comesAnswered (s0 : AS) (a1 : Int32) (a2 : Int32) : Option (AS × Int32) :=
  am_c (fX8_asItIs s0) (fun (s2 : AS) (v1 : Unit) => am_let (am_si s2 172 2 a2) (fun (s3 : AS) => am_let (am_si s3 172 4 a1) (fun (s4 : AS) => am_c (fX6_go s4 198 25 172) (fun (s6 : AS) (v5 : Unit) => am_r (fX8_holds (s6.1 198 8) a1) (fun (v7 : Int32) => am_g (v7 = 0 ∨ v7 = 1) (some (s6, v7)))))))
def kX8_comesAnswered : List (Nat × Instr × Nat) := [(0, .aload_n 0, 1), (1, .invokevirtual 195, 3), (4, .aload_n 0, 1), (5, .getfield 68, 3), (8, .iload_n 2, 1), (9, .putfield 284, 3), (12, .aload_n 0, 1), (13, .getfield 68, 3), (16, .iload_n 1, 1), (17, .putfield 285, 3), (20, .aload_n 0, 1), (21, .getfield 75, 3), (24, .aload_n 0, 1), (25, .getfield 29, 3), (28, .aload_n 0, 1), (29, .getfield 68, 3), (32, .invokevirtual 198, 3), (35, .aload_n 0, 1), (36, .getfield 75, 3), (39, .getfield 272, 3), (42, .iload_n 1, 1), (43, .invokestatic 175, 3), (46, .ireturn, 1)]
theorem qX8_comesAnswered : ∀ q ∈ kX8_comesAnswered, decode mX8_comesAnswered.2.2.1 q.1 = .ok (q.2.1, q.2.2) ∧ am_iok mX8_comesAnswered.2.2.2.1 q.1 q.2.1 q.2.2 = true := by decide +kernel
set_option maxRecDepth 100000 in
theorem wX8_comesAnswered : Cond.code mX8_comesAnswered.2.1 mX8_comesAnswered.2.2.1 mX8_comesAnswered.2.2.2.1 mX8_comesAnswered.2.2.2.2.1 ∈ am_T := List.mem_filter.mpr ⟨List.mem_of_getElem? (i := 1024) rfl, rfl⟩
set_option maxHeartbeats 4000000 in
set_option maxRecDepth 100000 in
theorem tX8_comesAnswered (l : Launch) (d : Nat) {s0 : AS} {a1 : Int32} {a2 : Int32} {sE : AS} {rE : Int32} (hf : fX8_comesAnswered s0 a1 a2 = some (sE, rE)) : am_Ct l (d + 5) mX8_comesAnswered [.inr (.inr ((9, 0, 0), 0)), .inl a1, .inl a2] s0 sE (some (.inl rE)) := by
  refine am_sim l (d + 4) (code := kX8_comesAnswered) (by decide +kernel) wX8_comesAnswered qX8_comesAnswered (Nat.le_of_ble_eq_true rfl) ?_
  intro X hX
  show X 0 [(0, .inr (.inr ((9, 0, 0), 0))), (1, .inl a1), (2, .inl a2)] [] s0
  unfold fX8_comesAnswered at hf
  obtain ⟨s2, v1, hcv1, hf⟩ := am_c_of hf
  refine am_blk hX 0 6 (And.intro rfl (And.intro rfl (Exists.intro s2 (Exists.intro none (And.intro (tX8_asItIs l (d + 2) hcv1) (And.intro rfl (And.intro rfl (am_nl (Z := fun s3 => X 12 [(0, .inr (.inr ((9, 0, 0), 0))), (1, .inl a1), (2, .inl a2)] [] s3) hf (fun s3 hf => ?_)))))))))
  refine am_blk hX 6 4 (And.intro rfl (And.intro rfl (am_nl (Z := fun s4 => X 20 [(0, .inr (.inr ((9, 0, 0), 0))), (1, .inl a1), (2, .inl a2)] [] s4) hf (fun s4 hf => ?_))))
  obtain ⟨s6, v5, hcv5, hf⟩ := am_c_of hf
  obtain ⟨v7, hcv7, hf⟩ := am_r_of hf
  obtain ⟨g8, hf⟩ := am_g_of hf
  refine am_blk hX 10 13 (And.intro rfl (And.intro rfl (And.intro rfl (And.intro rfl (And.intro rfl (Exists.intro s6 (Exists.intro none (And.intro (tX6_go l (d + 0) hcv5) (And.intro rfl (And.intro rfl (And.intro rfl (Exists.intro s6 (Exists.intro (some (.inl v7)) (And.intro (tX8_holds l (d + 3) hcv7) (And.intro g8 (am_ri hf))))))))))))))))
def fX8_comesBarred (s0 : AS) (a1 : Int32) (a2 : Int32) : Option (AS × Int32) :=
  am_c (fX7_measure s0 173 25 a2) (fun (s2 : AS) (v1 : Unit) => am_c (fX1_begin s2 172 25 (s2.1 47 1) 173) (fun (s4 : AS) (v3 : Unit) => am_let (am_si s4 172 4 a1) (fun (s5 : AS) => am_c (fX6_go s5 198 25 172) (fun (s7 : AS) (v6 : Unit) => am_r (fX8_holds (s7.1 198 8) a1) (fun (v8 : Int32) => am_g (v8 = 0 ∨ v8 = 1) (some (s7, v8)))))))
def kX8_comesBarred : List (Nat × Instr × Nat) := [(0, .aload_n 0, 1), (1, .getfield 72, 3), (4, .aload_n 0, 1), (5, .getfield 29, 3), (8, .iload_n 2, 1), (9, .invokevirtual 191, 3), (12, .aload_n 0, 1), (13, .getfield 68, 3), (16, .aload_n 0, 1), (17, .getfield 29, 3), (20, .aload_n 0, 1), (21, .getfield 35, 3), (24, .getfield 202, 3), (27, .aload_n 0, 1), (28, .getfield 72, 3), (31, .invokevirtual 205, 3), (34, .aload_n 0, 1), (35, .getfield 68, 3), (38, .iload_n 1, 1), (39, .putfield 285, 3), (42, .aload_n 0, 1), (43, .getfield 75, 3), (46, .aload_n 0, 1), (47, .getfield 29, 3), (50, .aload_n 0, 1), (51, .getfield 68, 3), (54, .invokevirtual 198, 3), (57, .aload_n 0, 1), (58, .getfield 75, 3), (61, .getfield 272, 3), (64, .iload_n 1, 1), (65, .invokestatic 175, 3), (68, .ireturn, 1)]
theorem qX8_comesBarred : ∀ q ∈ kX8_comesBarred, decode mX8_comesBarred.2.2.1 q.1 = .ok (q.2.1, q.2.2) ∧ am_iok mX8_comesBarred.2.2.2.1 q.1 q.2.1 q.2.2 = true := by decide +kernel
set_option maxRecDepth 100000 in
theorem wX8_comesBarred : Cond.code mX8_comesBarred.2.1 mX8_comesBarred.2.2.1 mX8_comesBarred.2.2.2.1 mX8_comesBarred.2.2.2.2.1 ∈ am_T := List.mem_filter.mpr ⟨List.mem_of_getElem? (i := 1068) rfl, rfl⟩
set_option maxHeartbeats 4000000 in
set_option maxRecDepth 100000 in
theorem tX8_comesBarred (l : Launch) (d : Nat) {s0 : AS} {a1 : Int32} {a2 : Int32} {sE : AS} {rE : Int32} (hf : fX8_comesBarred s0 a1 a2 = some (sE, rE)) : am_Ct l (d + 5) mX8_comesBarred [.inr (.inr ((9, 0, 0), 0)), .inl a1, .inl a2] s0 sE (some (.inl rE)) := by
  refine am_sim l (d + 4) (code := kX8_comesBarred) (by decide +kernel) wX8_comesBarred qX8_comesBarred (Nat.le_of_ble_eq_true rfl) ?_
  intro X hX
  show X 0 [(0, .inr (.inr ((9, 0, 0), 0))), (1, .inl a1), (2, .inl a2)] [] s0
  unfold fX8_comesBarred at hf
  obtain ⟨s2, v1, hcv1, hf⟩ := am_c_of hf
  obtain ⟨s4, v3, hcv3, hf⟩ := am_c_of hf
  refine am_blk hX 0 20 (And.intro rfl (And.intro rfl (And.intro rfl (And.intro rfl (Exists.intro s2 (Exists.intro none (And.intro (tX7_measure l (d + 1) hcv1) (And.intro rfl (And.intro rfl (And.intro rfl (And.intro rfl (And.intro rfl (And.intro rfl (And.intro rfl (Exists.intro s4 (Exists.intro none (And.intro (tX1_begin l (d + 3) hcv3) (And.intro rfl (And.intro rfl (am_nl (Z := fun s5 => X 42 [(0, .inr (.inr ((9, 0, 0), 0))), (1, .inl a1), (2, .inl a2)] [] s5) hf (fun s5 hf => ?_)))))))))))))))))))))
  obtain ⟨s7, v6, hcv6, hf⟩ := am_c_of hf
  obtain ⟨v8, hcv8, hf⟩ := am_r_of hf
  obtain ⟨g9, hf⟩ := am_g_of hf
  refine am_blk hX 20 13 (And.intro rfl (And.intro rfl (And.intro rfl (And.intro rfl (And.intro rfl (Exists.intro s7 (Exists.intro none (And.intro (tX6_go l (d + 0) hcv6) (And.intro rfl (And.intro rfl (And.intro rfl (Exists.intro s7 (Exists.intro (some (.inl v8)) (And.intro (tX8_holds l (d + 3) hcv8) (And.intro g9 (am_ri hf))))))))))))))))
def fX8_content (s0 : AS) (a1 : Int32) : Option Int32 :=
  am_r (fX8_isMarch s0) (fun (v1 : Int32) => am_let (some (-2 : Int32)) (fun J17 => if v1 = 0 then (J17) else (if a1 < 0 then (J17) else (if a1 < (64 : Int32) then (am_r (fX3_contentBy s0 25 a1) (fun (v2 : Int32) => some v2)) else (J17)))))
def kX8_content : List (Nat × Instr × Nat) := [(0, .aload_n 0, 1), (1, .invokevirtual 126, 3), (4, .ifCond .eq 13, 3), (7, .iload_n 1, 1), (8, .ifCond .lt 9, 3), (11, .iload_n 1, 1), (12, .bipush 64, 2), (14, .if_icmp .lt 6, 3), (17, .bipush (-2), 2), (19, .ireturn, 1), (20, .aload_n 0, 1), (21, .getfield 29, 3), (24, .iload_n 1, 1), (25, .invokevirtual 303, 3), (28, .ireturn, 1)]
theorem qX8_content : ∀ q ∈ kX8_content, decode mX8_content.2.2.1 q.1 = .ok (q.2.1, q.2.2) ∧ am_iok mX8_content.2.2.2.1 q.1 q.2.1 q.2.2 = true := by decide +kernel
set_option maxRecDepth 100000 in
theorem wX8_content : Cond.code mX8_content.2.1 mX8_content.2.2.1 mX8_content.2.2.2.1 mX8_content.2.2.2.2.1 ∈ am_T := List.mem_filter.mpr ⟨List.mem_of_getElem? (i := 1048) rfl, rfl⟩
set_option maxHeartbeats 4000000 in
set_option maxRecDepth 100000 in
theorem tX8_content (l : Launch) (d : Nat) {s0 : AS} {a1 : Int32} {rE : Int32} (hf : fX8_content s0 a1 = some rE) : am_Ct l (d + 3) mX8_content [.inr (.inr ((9, 0, 0), 0)), .inl a1] s0 s0 (some (.inl rE)) := by
  refine am_sim l (d + 2) (code := kX8_content) (by decide +kernel) wX8_content qX8_content (Nat.le_of_ble_eq_true rfl) ?_
  intro X hX
  show X 0 [(0, .inr (.inr ((9, 0, 0), 0))), (1, .inl a1)] [] s0
  unfold fX8_content at hf
  obtain ⟨v1, hcv1, hf⟩ := am_r_of hf
  refine am_jn hf (fun J17 => J17 = some rE → X 17 [] [] s0) ?_ ?_
  · intro hf
    refine am_blk hX 8 2 (am_rpi hf)
  · intro J17 hJ17 hf
    refine am_blk hX 0 3 (And.intro rfl (And.intro rfl (Exists.intro s0 (Exists.intro (some (.inl v1)) (And.intro (tX8_isMarch l (d + 1) hcv1) (And.intro (fun hb => ?_) (fun hb => ?_)))))))
    · have hf := am_it hf hb
      show X 17 [(0, .inr (.inr ((9, 0, 0), 0))), (1, .inl a1)] [] s0
      exact am_wk hX [] (hJ17 hf)
    · have hf := am_if hf hb
      show X 7 [(0, .inr (.inr ((9, 0, 0), 0))), (1, .inl a1)] [] s0
      refine am_blk hX 3 2 (And.intro (fun hb => ?_) (fun hb => ?_))
      · have hf := am_it hf hb
        show X 17 [(0, .inr (.inr ((9, 0, 0), 0))), (1, .inl a1)] [] s0
        exact am_wk hX [] (hJ17 hf)
      · have hf := am_if hf hb
        show X 11 [(0, .inr (.inr ((9, 0, 0), 0))), (1, .inl a1)] [] s0
        refine am_blk hX 5 3 (And.intro (fun hb => ?_) (fun hb => ?_))
        · have hf := am_it hf hb
          show X 20 [(0, .inr (.inr ((9, 0, 0), 0))), (1, .inl a1)] [] s0
          obtain ⟨v2, hcv2, hf⟩ := am_r_of hf
          refine am_blk hX 10 5 (And.intro rfl (And.intro rfl (And.intro rfl (Exists.intro s0 (Exists.intro (some (.inl v2)) (And.intro (tX3_contentBy l (d + 0) hcv2) (am_rpi hf)))))))
        · have hf := am_if hf hb
          show X 17 [(0, .inr (.inr ((9, 0, 0), 0))), (1, .inl a1)] [] s0
          exact am_wk hX [] (hJ17 hf)
def fX8_costs (s0 : AS) : Option Int32 :=
  am_r (fX8_isMarch s0) (fun (v1 : Int32) => am_let (fun (x2 : Int32) => some x2) (fun J26 => if v1 = 0 then (J26 (-2 : Int32)) else (am_r (fX3_costOf s0 25 (s0.1 47 1)) (fun (v3 : Int32) => J26 v3))))
def kX8_costs : List (Nat × Instr × Nat) := [(0, .aload_n 0, 1), (1, .invokevirtual 126, 3), (4, .ifCond .eq 20, 3), (7, .aload_n 0, 1), (8, .getfield 29, 3), (11, .aload_n 0, 1), (12, .getfield 35, 3), (15, .getfield 202, 3), (18, .invokevirtual 291, 3), (21, .goto 5, 3), (24, .bipush (-2), 2), (26, .ireturn, 1)]
theorem qX8_costs : ∀ q ∈ kX8_costs, decode mX8_costs.2.2.1 q.1 = .ok (q.2.1, q.2.2) ∧ am_iok mX8_costs.2.2.2.1 q.1 q.2.1 q.2.2 = true := by decide +kernel
set_option maxRecDepth 100000 in
theorem wX8_costs : Cond.code mX8_costs.2.1 mX8_costs.2.2.1 mX8_costs.2.2.2.1 mX8_costs.2.2.2.2.1 ∈ am_T := List.mem_filter.mpr ⟨List.mem_of_getElem? (i := 1232) rfl, rfl⟩
set_option maxHeartbeats 4000000 in
set_option maxRecDepth 100000 in
theorem tX8_costs (l : Launch) (d : Nat) {s0 : AS} {rE : Int32} (hf : fX8_costs s0 = some rE) : am_Ct l (d + 3) mX8_costs [.inr (.inr ((9, 0, 0), 0))] s0 s0 (some (.inl rE)) := by
  refine am_sim l (d + 2) (code := kX8_costs) (by decide +kernel) wX8_costs qX8_costs (Nat.le_of_ble_eq_true rfl) ?_
  intro X hX
  show X 0 [(0, .inr (.inr ((9, 0, 0), 0)))] [] s0
  unfold fX8_costs at hf
  obtain ⟨v1, hcv1, hf⟩ := am_r_of hf
  refine am_jn hf (fun J26 => ∀ (x2 : Int32), J26 x2 = some rE → X 26 [] [.inl x2] s0) ?_ ?_
  · intro x2 hf
    refine am_blk hX 11 1 (am_rpi hf)
  · intro J26 hJ26 hf
    refine am_blk hX 0 3 (And.intro rfl (And.intro rfl (Exists.intro s0 (Exists.intro (some (.inl v1)) (And.intro (tX8_isMarch l (d + 1) hcv1) (And.intro (fun hb => ?_) (fun hb => ?_)))))))
    · have hf := am_it hf hb
      show X 24 [(0, .inr (.inr ((9, 0, 0), 0)))] [] s0
      refine am_blk hX 10 1 (?_)
      show X 26 [(0, .inr (.inr ((9, 0, 0), 0)))] [.inl (-2 : Int32)] s0
      exact am_wk hX [] (hJ26 (-2 : Int32) hf)
    · have hf := am_if hf hb
      show X 7 [(0, .inr (.inr ((9, 0, 0), 0)))] [] s0
      obtain ⟨v3, hcv3, hf⟩ := am_r_of hf
      refine am_blk hX 3 7 (And.intro rfl (And.intro rfl (And.intro rfl (And.intro rfl (And.intro rfl (Exists.intro s0 (Exists.intro (some (.inl v3)) (And.intro (tX3_costOf l (d + 0) hcv3) (?_)))))))))
      show X 26 [(0, .inr (.inr ((9, 0, 0), 0)))] [.inl v3] s0
      exact am_wk hX [] (hJ26 v3 hf)
def fX8_rowsKept_L4 (s0 : AS) : Nat → Int32 → Int32 → Option Int32
  | 0, _, _ => none
  | n4 + 1, x1, x2 =>
    if (4 : Int32) ≤ x2 then (some x1) else (am_g (¬ (x2 < 0 ∨ 4 ≤ x2.toNatClampNeg)) (am_let (fun (x4 : Int32) => am_let (x2 + (1 : Int32)) (fun (x5 : Int32) => fX8_rowsKept_L4 s0 n4 x4 x5)) (fun J24 => if (s0.1 (130 + 2 * x2.toNatClampNeg) 0) = 0 then (J24 x1) else (am_let (x1 + (1 : Int32)) (fun (x6 : Int32) => J24 x6)))))
def fX8_rowsKept (s0 : AS) : Option Int32 :=
  fX8_rowsKept_L4 s0 am_fu (0 : Int32) (0 : Int32)
def kX8_rowsKept : List (Nat × Instr × Nat) := [(0, .iconst 0, 1), (1, .istore_n 1, 1), (2, .iconst 0, 1), (3, .istore_n 2, 1), (4, .iload_n 2, 1), (5, .iconst 4, 1), (6, .if_icmp .ge 24, 3), (9, .aload_n 0, 1), (10, .getfield 47, 3), (13, .iload_n 2, 1), (14, .aaload, 1), (15, .getfield 159, 3), (18, .ifCond .eq 6, 3), (21, .iinc 1 1, 3), (24, .iinc 2 1, 3), (27, .goto (-23), 3), (30, .iload_n 1, 1), (31, .ireturn, 1)]
theorem qX8_rowsKept : ∀ q ∈ kX8_rowsKept, decode mX8_rowsKept.2.2.1 q.1 = .ok (q.2.1, q.2.2) ∧ am_iok mX8_rowsKept.2.2.2.1 q.1 q.2.1 q.2.2 = true := by decide +kernel
set_option maxRecDepth 100000 in
theorem wX8_rowsKept : Cond.code mX8_rowsKept.2.1 mX8_rowsKept.2.2.1 mX8_rowsKept.2.2.2.1 mX8_rowsKept.2.2.2.2.1 ∈ am_T := List.mem_filter.mpr ⟨List.mem_of_getElem? (i := 696) rfl, rfl⟩
set_option maxHeartbeats 4000000 in
set_option maxRecDepth 100000 in
theorem tX8_rowsKept (l : Launch) (d : Nat) {s0 : AS} {rE : Int32} (hf : fX8_rowsKept s0 = some rE) : am_Ct l (d + 1) mX8_rowsKept [.inr (.inr ((9, 0, 0), 0))] s0 s0 (some (.inl rE)) := by
  refine am_sim l (d + 0) (code := kX8_rowsKept) (by decide +kernel) wX8_rowsKept qX8_rowsKept (Nat.le_of_ble_eq_true rfl) ?_
  intro X hX
  show X 0 [(0, .inr (.inr ((9, 0, 0), 0)))] [] s0
  unfold fX8_rowsKept at hf
  have hL4 : ∀ (n4 : Nat) (x1 : Int32) (x2 : Int32), fX8_rowsKept_L4 s0 n4 x1 x2 = some rE → X 4 [(0, .inr (.inr ((9, 0, 0), 0))), (1, .inl x1), (2, .inl x2)] [] s0 := by
    intro n4
    induction n4 with
    | zero => intro x1 x2 hf; exact am_no (show none = some _ from hf)
    | succ n4 ih4 =>
      intro x1 x2 hf
      refine am_blk hX 4 3 (And.intro (fun hb => ?_) (fun hb => ?_))
      · have hf := am_it hf hb
        show X 30 [(0, .inr (.inr ((9, 0, 0), 0))), (1, .inl x1), (2, .inl x2)] [] s0
        refine am_blk hX 16 2 (am_rpi hf)
      · have hf := am_if hf hb
        show X 9 [(0, .inr (.inr ((9, 0, 0), 0))), (1, .inl x1), (2, .inl x2)] [] s0
        obtain ⟨g3, hf⟩ := am_g_of hf
        refine am_jn hf (fun J24 => ∀ (x4 : Int32), J24 x4 = some rE → X 24 [(0, .inr (.inr ((9, 0, 0), 0))), (1, .inl x4), (2, .inl x2)] [] s0) ?_ ?_
        · intro x4 hf
          refine am_blk hX 14 1 (am_nl (Z := fun x5 => X 27 [(2, .inl x5), (0, .inr (.inr ((9, 0, 0), 0))), (1, .inl x4)] [] s0) hf (fun x5 hf => ?_))
          refine am_blk hX 15 1 (?_)
          show X 4 [(2, .inl x5), (0, .inr (.inr ((9, 0, 0), 0))), (1, .inl x4)] [] s0
          exact am_wk hX [1, 2, 0] (ih4 x4 x5 hf)
        · intro J24 hJ24 hf
          refine am_blk hX 7 6 (And.intro rfl (And.intro g3 (And.intro rfl (And.intro (fun hb => ?_) (fun hb => ?_)))))
          · have hf := am_it hf hb
            show X 24 [(0, .inr (.inr ((9, 0, 0), 0))), (1, .inl x1), (2, .inl x2)] [] s0
            exact am_wk hX [0, 1, 2] (hJ24 x1 hf)
          · have hf := am_if hf hb
            show X 21 [(0, .inr (.inr ((9, 0, 0), 0))), (1, .inl x1), (2, .inl x2)] [] s0
            refine am_blk hX 13 1 (am_nl (Z := fun x6 => X 24 [(1, .inl x6), (0, .inr (.inr ((9, 0, 0), 0))), (2, .inl x2)] [] s0) hf (fun x6 hf => ?_))
            exact am_wk hX [1, 0, 2] (hJ24 x6 hf)
  refine am_blk hX 0 4 (?_)
  show X 4 [(2, .inl (0 : Int32)), (1, .inl (0 : Int32)), (0, .inr (.inr ((9, 0, 0), 0)))] [] s0
  exact am_wk hX [2, 1, 0] (hL4 am_fu (0 : Int32) (0 : Int32) hf)
