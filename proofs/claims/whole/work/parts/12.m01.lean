/-! METHODS, printed by gen.py. -/
def fX4_isWord_L2 (o0 : Nat) (o1 : Nat) (s0 : AS) (J36 : Option Int32) : Nat → Int32 → Option Int32
  | 0, _ => none
  | n2 + 1, x5 =>
    am_r (fJ0_length_8abf5 s0 o1) (fun (v6 : Int32) => if v6 ≤ x5 then (J36) else (am_r (fX4_byteAt s0 o0 ((s0.1 o0 4) + x5)) (fun (v7 : Int32) => am_r (fJ0_charAt_5068e s0 o1 x5) (fun (v8 : Int32) => if v7 = v8 then (am_let (x5 + (1 : Int32)) (fun (x9 : Int32) => fX4_isWord_L2 o0 o1 s0 J36 n2 x9)) else (some (0 : Int32))))))
def fX4_isWord (s0 : AS) (o0 : Nat) (o1 : Nat) : Option Int32 :=
  am_let (am_r (fJ0_length_8abf5 s0 o1) (fun (v1 : Int32) => am_r (fX4_isLetter s0 o0 ((s0.1 o0 4) + v1)) (fun (v2 : Int32) => am_let (fun (x3 : Int32) => am_g (x3 = 0 ∨ x3 = 1) (some x3)) (fun J57 => if v2 = 0 then (J57 (1 : Int32)) else (J57 (0 : Int32)))))) (fun J36 => fX4_isWord_L2 o0 o1 s0 J36 am_fu (0 : Int32))
def kX4_isWord : List (Nat × Instr × Nat) := [(0, .iconst 0, 1), (1, .istore_n 2, 1), (2, .iload_n 2, 1), (3, .aload_n 1, 1), (4, .invokevirtual 135, 3), (7, .if_icmp .ge 29, 3), (10, .aload_n 0, 1), (11, .aload_n 0, 1), (12, .getfield 22, 3), (15, .iload_n 2, 1), (16, .iadd, 1), (17, .invokevirtual 131, 3), (20, .aload_n 1, 1), (21, .iload_n 2, 1), (22, .invokevirtual 140, 3), (25, .if_icmp .eq 5, 3), (28, .iconst 0, 1), (29, .ireturn, 1), (30, .iinc 2 1, 3), (33, .goto (-31), 3), (36, .aload_n 0, 1), (37, .aload_n 0, 1), (38, .getfield 22, 3), (41, .aload_n 1, 1), (42, .invokevirtual 135, 3), (45, .iadd, 1), (46, .invokevirtual 144, 3), (49, .ifCond .ne 7, 3), (52, .iconst 1, 1), (53, .goto 4, 3), (56, .iconst 0, 1), (57, .ireturn, 1)]
theorem qX4_isWord : ∀ q ∈ kX4_isWord, decode mX4_isWord.2.2.1 q.1 = .ok (q.2.1, q.2.2) ∧ am_iok mX4_isWord.2.2.2.1 q.1 q.2.1 q.2.2 = true := by decide +kernel
set_option maxRecDepth 100000 in
theorem wX4_isWord : Cond.code mX4_isWord.2.1 mX4_isWord.2.2.1 mX4_isWord.2.2.2.1 mX4_isWord.2.2.2.2.1 ∈ am_T := List.mem_filter.mpr ⟨List.mem_of_getElem? (i := 559) rfl, rfl⟩
set_option maxHeartbeats 4000000 in
set_option maxRecDepth 100000 in
theorem tX4_isWord (l : Launch) (d : Nat) {s0 : AS} {o0 : Nat} {o1 : Nat} {rE : Int32} (hf : fX4_isWord s0 o0 o1 = some rE) : am_Ct l (d + 7) mX4_isWord [.inr (.inr ((5, 0, 0), o0)), .inr (.inr ((11, 0, 0), o1))] s0 s0 (some (.inl rE)) := by
  refine am_sim l (d + 6) (code := kX4_isWord) (by decide +kernel) wX4_isWord qX4_isWord (Nat.le_of_ble_eq_true rfl) ?_
  intro X hX
  show X 0 [(0, .inr (.inr ((5, 0, 0), o0))), (1, .inr (.inr ((11, 0, 0), o1)))] [] s0
  unfold fX4_isWord at hf
  refine am_jn hf (fun J36 => J36 = some rE → X 36 [(0, .inr (.inr ((5, 0, 0), o0))), (1, .inr (.inr ((11, 0, 0), o1)))] [] s0) ?_ ?_
  · intro hf
    obtain ⟨v1, hcv1, hf⟩ := am_r_of hf
    obtain ⟨v2, hcv2, hf⟩ := am_r_of hf
    refine am_jn hf (fun J57 => ∀ (x3 : Int32), J57 x3 = some rE → X 57 [] [.inl x3] s0) ?_ ?_
    · intro x3 hf
      obtain ⟨g4, hf⟩ := am_g_of hf
      refine am_blk hX 31 1 (And.intro g4 (am_rpi hf))
    · intro J57 hJ57 hf
      refine am_blk hX 20 8 (And.intro rfl (And.intro rfl (And.intro rfl (Exists.intro s0 (Exists.intro (some (.inl v1)) (And.intro (tJ0_length_8abf5 l (d + 4) hcv1) (And.intro rfl (And.intro rfl (Exists.intro s0 (Exists.intro (some (.inl v2)) (And.intro (tX4_isLetter l (d + 4) hcv2) (And.intro (fun hb => ?_) (fun hb => ?_)))))))))))))
      · have hf := am_if hf hb
        show X 56 [(0, .inr (.inr ((5, 0, 0), o0))), (1, .inr (.inr ((11, 0, 0), o1)))] [] s0
        refine am_blk hX 30 1 (?_)
        show X 57 [(0, .inr (.inr ((5, 0, 0), o0))), (1, .inr (.inr ((11, 0, 0), o1)))] [.inl (0 : Int32)] s0
        exact am_wk hX [] (hJ57 (0 : Int32) hf)
      · have hf := am_it hf hb
        show X 52 [(0, .inr (.inr ((5, 0, 0), o0))), (1, .inr (.inr ((11, 0, 0), o1)))] [] s0
        refine am_blk hX 28 2 (?_)
        show X 57 [(0, .inr (.inr ((5, 0, 0), o0))), (1, .inr (.inr ((11, 0, 0), o1)))] [.inl (1 : Int32)] s0
        exact am_wk hX [] (hJ57 (1 : Int32) hf)
  · intro J36 hJ36 hf
    have hL2 : ∀ (n2 : Nat) (x5 : Int32), fX4_isWord_L2 o0 o1 s0 J36 n2 x5 = some rE → X 2 [(0, .inr (.inr ((5, 0, 0), o0))), (1, .inr (.inr ((11, 0, 0), o1))), (2, .inl x5)] [] s0 := by
      intro n2
      induction n2 with
      | zero => intro x5 hf; exact am_no (show none = some _ from hf)
      | succ n2 ih2 =>
        intro x5 hf
        obtain ⟨v6, hcv6, hf⟩ := am_r_of hf
        refine am_blk hX 2 4 (And.intro rfl (And.intro rfl (Exists.intro s0 (Exists.intro (some (.inl v6)) (And.intro (tJ0_length_8abf5 l (d + 4) hcv6) (And.intro (fun hb => ?_) (fun hb => ?_)))))))
        · have hf := am_it hf hb
          show X 36 [(0, .inr (.inr ((5, 0, 0), o0))), (1, .inr (.inr ((11, 0, 0), o1))), (2, .inl x5)] [] s0
          exact am_wk hX [0, 1] (hJ36 hf)
        · have hf := am_if hf hb
          show X 10 [(0, .inr (.inr ((5, 0, 0), o0))), (1, .inr (.inr ((11, 0, 0), o1))), (2, .inl x5)] [] s0
          obtain ⟨v7, hcv7, hf⟩ := am_r_of hf
          obtain ⟨v8, hcv8, hf⟩ := am_r_of hf
          refine am_blk hX 6 10 (And.intro rfl (And.intro rfl (And.intro rfl (Exists.intro s0 (Exists.intro (some (.inl v7)) (And.intro (tX4_byteAt l (d + 5) hcv7) (And.intro rfl (And.intro rfl (Exists.intro s0 (Exists.intro (some (.inl v8)) (And.intro (tJ0_charAt_5068e l (d + 0) hcv8) (And.intro (fun hb => ?_) (fun hb => ?_)))))))))))))
          · have hf := am_it hf hb
            show X 30 [(0, .inr (.inr ((5, 0, 0), o0))), (1, .inr (.inr ((11, 0, 0), o1))), (2, .inl x5)] [] s0
            refine am_blk hX 18 1 (am_nl (Z := fun x9 => X 33 [(2, .inl x9), (0, .inr (.inr ((5, 0, 0), o0))), (1, .inr (.inr ((11, 0, 0), o1)))] [] s0) hf (fun x9 hf => ?_))
            refine am_blk hX 19 1 (?_)
            show X 2 [(2, .inl x9), (0, .inr (.inr ((5, 0, 0), o0))), (1, .inr (.inr ((11, 0, 0), o1)))] [] s0
            exact am_wk hX [1, 2, 0] (ih2 x9 hf)
          · have hf := am_if hf hb
            show X 28 [(0, .inr (.inr ((5, 0, 0), o0))), (1, .inr (.inr ((11, 0, 0), o1))), (2, .inl x5)] [] s0
            refine am_blk hX 16 2 (And.intro (Or.inl rfl) (am_rpi hf))
    refine am_blk hX 0 2 (?_)
    show X 2 [(2, .inl (0 : Int32)), (0, .inr (.inr ((5, 0, 0), o0))), (1, .inr (.inr ((11, 0, 0), o1)))] [] s0
    exact am_wk hX [1, 2, 0] (hL2 am_fu (0 : Int32) hf)
def fX4_skipBlanks_L5 (o0 : Nat) (J46 : AS → Option (AS × Unit)) : Nat → AS → Int32 → Option (AS × Unit)
  | 0, _, _ => none
  | n5 + 1, s3, x4 =>
    if (s3.1 o0 3) ≤ x4 then (J46 s3) else (am_r (fX4_byteAt s3 o0 x4) (fun (v5 : Int32) => am_let (am_let (am_si s3 o0 4 (x4 + (1 : Int32))) (fun (s6 : AS) => am_let (x4 + (1 : Int32)) (fun (x7 : Int32) => fX4_skipBlanks_L5 o0 J46 n5 s6 x7))) (fun J33 => if v5 = (32 : Int32) then (J33) else (am_r (fX4_byteAt s3 o0 x4) (fun (v8 : Int32) => if v8 = (10 : Int32) then (J33) else (J46 s3))))))
def fX4_skipBlanks (s0 : AS) (o0 : Nat) : Option (AS × Unit) :=
  am_let (s0.1 o0 4) (fun (x1 : Int32) => am_let (fun (s2 : AS) => some (s2, ())) (fun J46 => fX4_skipBlanks_L5 o0 J46 am_fu s0 x1))
def kX4_skipBlanks : List (Nat × Instr × Nat) := [(0, .aload_n 0, 1), (1, .getfield 22, 3), (4, .istore_n 1, 1), (5, .iload_n 1, 1), (6, .aload_n 0, 1), (7, .getfield 19, 3), (10, .if_icmp .ge 36, 3), (13, .aload_n 0, 1), (14, .iload_n 1, 1), (15, .invokevirtual 131, 3), (18, .bipush 32, 2), (20, .if_icmp .eq 13, 3), (23, .aload_n 0, 1), (24, .iload_n 1, 1), (25, .invokevirtual 131, 3), (28, .bipush 10, 2), (30, .if_icmp .ne 16, 3), (33, .aload_n 0, 1), (34, .iload_n 1, 1), (35, .iconst 1, 1), (36, .iadd, 1), (37, .putfield 22, 3), (40, .iinc 1 1, 3), (43, .goto (-38), 3), (46, .return_, 1)]
theorem qX4_skipBlanks : ∀ q ∈ kX4_skipBlanks, decode mX4_skipBlanks.2.2.1 q.1 = .ok (q.2.1, q.2.2) ∧ am_iok mX4_skipBlanks.2.2.2.1 q.1 q.2.1 q.2.2 = true := by decide +kernel
set_option maxRecDepth 100000 in
theorem wX4_skipBlanks : Cond.code mX4_skipBlanks.2.1 mX4_skipBlanks.2.2.1 mX4_skipBlanks.2.2.2.1 mX4_skipBlanks.2.2.2.2.1 ∈ am_T := List.mem_filter.mpr ⟨List.mem_of_getElem? (i := 538) rfl, rfl⟩
set_option maxHeartbeats 4000000 in
set_option maxRecDepth 100000 in
theorem tX4_skipBlanks (l : Launch) (d : Nat) {s0 : AS} {o0 : Nat} {sE : AS} {rE : Unit} (hf : fX4_skipBlanks s0 o0 = some (sE, rE)) : am_Ct l (d + 2) mX4_skipBlanks [.inr (.inr ((5, 0, 0), o0))] s0 sE none := by
  refine am_sim l (d + 1) (code := kX4_skipBlanks) (by decide +kernel) wX4_skipBlanks qX4_skipBlanks (Nat.le_of_ble_eq_true rfl) ?_
  intro X hX
  show X 0 [(0, .inr (.inr ((5, 0, 0), o0)))] [] s0
  unfold fX4_skipBlanks at hf
  refine am_blk hX 0 3 (And.intro rfl (am_nl (Z := fun x1 => X 5 [(1, .inl x1), (0, .inr (.inr ((5, 0, 0), o0)))] [] s0) hf (fun x1 hf => ?_)))
  refine am_jn hf (fun J46 => ∀ (s2 : AS), J46 s2 = some (sE, rE) → X 46 [] [] s2) ?_ ?_
  · intro s2 hf
    refine am_blk hX 24 1 (And.intro rfl (am_rv hf))
  · intro J46 hJ46 hf
    have hL5 : ∀ (n5 : Nat) (s3 : AS) (x4 : Int32), fX4_skipBlanks_L5 o0 J46 n5 s3 x4 = some (sE, rE) → X 5 [(0, .inr (.inr ((5, 0, 0), o0))), (1, .inl x4)] [] s3 := by
      intro n5
      induction n5 with
      | zero => intro s3 x4 hf; exact am_no (show none = some _ from hf)
      | succ n5 ih5 =>
        intro s3 x4 hf
        refine am_blk hX 3 4 (And.intro rfl (And.intro (fun hb => ?_) (fun hb => ?_)))
        · have hf := am_it hf hb
          show X 46 [(0, .inr (.inr ((5, 0, 0), o0))), (1, .inl x4)] [] s3
          exact am_wk hX [] (hJ46 s3 hf)
        · have hf := am_if hf hb
          show X 13 [(0, .inr (.inr ((5, 0, 0), o0))), (1, .inl x4)] [] s3
          obtain ⟨v5, hcv5, hf⟩ := am_r_of hf
          refine am_jn hf (fun J33 => J33 = some (sE, rE) → X 33 [(0, .inr (.inr ((5, 0, 0), o0))), (1, .inl x4)] [] s3) ?_ ?_
          · intro hf
            refine am_blk hX 17 5 (And.intro rfl (am_nl (Z := fun s6 => X 40 [(0, .inr (.inr ((5, 0, 0), o0))), (1, .inl x4)] [] s6) hf (fun s6 hf => ?_)))
            refine am_blk hX 22 1 (am_nl (Z := fun x7 => X 43 [(1, .inl x7), (0, .inr (.inr ((5, 0, 0), o0)))] [] s6) hf (fun x7 hf => ?_))
            refine am_blk hX 23 1 (?_)
            show X 5 [(1, .inl x7), (0, .inr (.inr ((5, 0, 0), o0)))] [] s6
            exact am_wk hX [1, 0] (ih5 s6 x7 hf)
          · intro J33 hJ33 hf
            refine am_blk hX 7 5 (And.intro rfl (And.intro rfl (Exists.intro s3 (Exists.intro (some (.inl v5)) (And.intro (tX4_byteAt l (d + 0) hcv5) (And.intro (fun hb => ?_) (fun hb => ?_)))))))
            · have hf := am_it hf hb
              show X 33 [(0, .inr (.inr ((5, 0, 0), o0))), (1, .inl x4)] [] s3
              exact am_wk hX [0, 1] (hJ33 hf)
            · have hf := am_if hf hb
              show X 23 [(0, .inr (.inr ((5, 0, 0), o0))), (1, .inl x4)] [] s3
              obtain ⟨v8, hcv8, hf⟩ := am_r_of hf
              refine am_blk hX 12 5 (And.intro rfl (And.intro rfl (Exists.intro s3 (Exists.intro (some (.inl v8)) (And.intro (tX4_byteAt l (d + 0) hcv8) (And.intro (fun hb => ?_) (fun hb => ?_)))))))
              · have hf := am_if hf hb
                show X 46 [(0, .inr (.inr ((5, 0, 0), o0))), (1, .inl x4)] [] s3
                exact am_wk hX [] (hJ46 s3 hf)
              · have hf := am_it hf hb
                show X 33 [(0, .inr (.inr ((5, 0, 0), o0))), (1, .inl x4)] [] s3
                exact am_wk hX [0, 1] (hJ33 hf)
    exact am_wk hX [1, 0] (hL5 am_fu s0 x1 hf)
def fX4_takeWord (s0 : AS) (o0 : Nat) (o1 : Nat) : Option (AS × Unit) :=
  am_c (fX4_skipBlanks s0 o0) (fun (s2 : AS) (v1 : Unit) => am_r (fX4_isWord s2 o0 o1) (fun (v3 : Int32) => am_let (fun (s4 : AS) => some (s4, ())) (fun J37 => if v3 = 0 then (am_c (fX4_fail s2 o0 (1 : Int32) (s2.1 o0 4)) (fun (s6 : AS) (v5 : Unit) => J37 s6)) else (am_r (fJ0_length_8abf5 s2 o1) (fun (v7 : Int32) => am_let (am_si s2 o0 4 ((s2.1 o0 4) + v7)) (fun (s8 : AS) => J37 s8))))))
def kX4_takeWord : List (Nat × Instr × Nat) := [(0, .aload_n 0, 1), (1, .invokevirtual 33, 3), (4, .aload_n 0, 1), (5, .aload_n 1, 1), (6, .invokevirtual 48, 3), (9, .ifCond .eq 19, 3), (12, .aload_n 0, 1), (13, .dup, 1), (14, .getfield 22, 3), (17, .aload_n 1, 1), (18, .invokevirtual 135, 3), (21, .iadd, 1), (22, .putfield 22, 3), (25, .goto 12, 3), (28, .aload_n 0, 1), (29, .iconst 1, 1), (30, .aload_n 0, 1), (31, .getfield 22, 3), (34, .invokevirtual 65, 3), (37, .return_, 1)]
theorem qX4_takeWord : ∀ q ∈ kX4_takeWord, decode mX4_takeWord.2.2.1 q.1 = .ok (q.2.1, q.2.2) ∧ am_iok mX4_takeWord.2.2.2.1 q.1 q.2.1 q.2.2 = true := by decide +kernel
set_option maxRecDepth 100000 in
theorem wX4_takeWord : Cond.code mX4_takeWord.2.1 mX4_takeWord.2.2.1 mX4_takeWord.2.2.2.1 mX4_takeWord.2.2.2.2.1 ∈ am_T := List.mem_filter.mpr ⟨List.mem_of_getElem? (i := 555) rfl, rfl⟩
set_option maxHeartbeats 4000000 in
set_option maxRecDepth 100000 in
theorem tX4_takeWord (l : Launch) (d : Nat) {s0 : AS} {o0 : Nat} {o1 : Nat} {sE : AS} {rE : Unit} (hf : fX4_takeWord s0 o0 o1 = some (sE, rE)) : am_Ct l (d + 8) mX4_takeWord [.inr (.inr ((5, 0, 0), o0)), .inr (.inr ((11, 0, 0), o1))] s0 sE none := by
  refine am_sim l (d + 7) (code := kX4_takeWord) (by decide +kernel) wX4_takeWord qX4_takeWord (Nat.le_of_ble_eq_true rfl) ?_
  intro X hX
  show X 0 [(0, .inr (.inr ((5, 0, 0), o0))), (1, .inr (.inr ((11, 0, 0), o1)))] [] s0
  unfold fX4_takeWord at hf
  obtain ⟨s2, v1, hcv1, hf⟩ := am_c_of hf
  obtain ⟨v3, hcv3, hf⟩ := am_r_of hf
  refine am_jn hf (fun J37 => ∀ (s4 : AS), J37 s4 = some (sE, rE) → X 37 [] [] s4) ?_ ?_
  · intro s4 hf
    refine am_blk hX 19 1 (And.intro rfl (am_rv hf))
  · intro J37 hJ37 hf
    refine am_blk hX 0 6 (And.intro rfl (And.intro rfl (Exists.intro s2 (Exists.intro none (And.intro (tX4_skipBlanks l (d + 5) hcv1) (And.intro rfl (And.intro rfl (Exists.intro s2 (Exists.intro (some (.inl v3)) (And.intro (tX4_isWord l (d + 0) hcv3) (And.intro (fun hb => ?_) (fun hb => ?_))))))))))))
    · have hf := am_it hf hb
      show X 28 [(0, .inr (.inr ((5, 0, 0), o0))), (1, .inr (.inr ((11, 0, 0), o1)))] [] s2
      obtain ⟨s6, v5, hcv5, hf⟩ := am_c_of hf
      refine am_blk hX 14 5 (And.intro rfl (And.intro rfl (And.intro rfl (Exists.intro s6 (Exists.intro none (And.intro (tX4_fail l (d + 6) hcv5) (?_)))))))
      show X 37 [(0, .inr (.inr ((5, 0, 0), o0))), (1, .inr (.inr ((11, 0, 0), o1)))] [] s6
      exact am_wk hX [] (hJ37 s6 hf)
    · have hf := am_if hf hb
      show X 12 [(0, .inr (.inr ((5, 0, 0), o0))), (1, .inr (.inr ((11, 0, 0), o1)))] [] s2
      obtain ⟨v7, hcv7, hf⟩ := am_r_of hf
      refine am_blk hX 6 7 (And.intro rfl (And.intro rfl (And.intro rfl (Exists.intro s2 (Exists.intro (some (.inl v7)) (And.intro (tJ0_length_8abf5 l (d + 5) hcv7) (And.intro rfl (am_nl (Z := fun s8 => X 25 [(0, .inr (.inr ((5, 0, 0), o0))), (1, .inr (.inr ((11, 0, 0), o1)))] [] s8) hf (fun s8 hf => ?_)))))))))
      refine am_blk hX 13 1 (?_)
      show X 37 [(0, .inr (.inr ((5, 0, 0), o0))), (1, .inr (.inr ((11, 0, 0), o1)))] [] s8
      exact am_wk hX [] (hJ37 s8 hf)
def fX4_takeNumber_L42 (o0 : Nat) (J95 : AS → Int32 → Option (AS × Int32)) : Nat → AS → Int32 → Int32 → Option (AS × Int32)
  | 0, _, _, _ => none
  | n42 + 1, s10, x11, x12 =>
    if (s10.1 o0 3) ≤ x12 then (J95 s10 x11) else (am_r (fX4_isDigit s10 o0 x12) (fun (v13 : Int32) => if v13 = 0 then (J95 s10 x11) else (am_r (fX4_byteAt s10 o0 x12) (fun (v14 : Int32) => am_let (if (1000 : Int32) < ((x11 * (10 : Int32)) + v14) - (48 : Int32) then (1000 : Int32) else ((x11 * (10 : Int32)) + v14) - (48 : Int32)) (fun (x15 : Int32) => am_let (am_si s10 o0 4 (x12 + (1 : Int32))) (fun (s16 : AS) => am_let (x12 + (1 : Int32)) (fun (x17 : Int32) => fX4_takeNumber_L42 o0 J95 n42 s16 x15 x17)))))))
def fX4_takeNumber (s0 : AS) (o0 : Nat) (a1 : Int32) (a2 : Int32) : Option (AS × Int32) :=
  am_c (fX4_skipBlanks s0 o0) (fun (s2 : AS) (v1 : Unit) => am_let (am_si s2 o0 5 (s2.1 o0 4)) (fun (s3 : AS) => am_r (fX4_isDigit s3 o0 (s3.1 o0 4)) (fun (v4 : Int32) => if v4 = 0 then (am_c (fX4_fail s3 o0 (1 : Int32) (s3.1 o0 4)) (fun (s19 : AS) (v18 : Unit) => some (s19, a1))) else (am_let (s3.1 o0 4) (fun (x5 : Int32) => am_let (fun (s6 : AS) (x7 : Int32) => am_let (am_c (fX4_fail s6 o0 (2 : Int32) (s6.1 o0 5)) (fun (s9 : AS) (v8 : Unit) => some (s9, a1))) (fun J105 => if x7 < a1 then (J105) else (if x7 ≤ a2 then (some (s6, x7)) else (J105)))) (fun J95 => fX4_takeNumber_L42 o0 J95 am_fu s3 (0 : Int32) x5))))))
def kX4_takeNumber : List (Nat × Instr × Nat) := [(0, .aload_n 0, 1), (1, .invokevirtual 33, 3), (4, .aload_n 0, 1), (5, .aload_n 0, 1), (6, .getfield 22, 3), (9, .putfield 106, 3), (12, .aload_n 0, 1), (13, .aload_n 0, 1), (14, .getfield 22, 3), (17, .invokevirtual 148, 3), (20, .ifCond .ne 14, 3), (23, .aload_n 0, 1), (24, .iconst 1, 1), (25, .aload_n 0, 1), (26, .getfield 22, 3), (29, .invokevirtual 65, 3), (32, .iload_n 1, 1), (33, .ireturn, 1), (34, .iconst 0, 1), (35, .istore_n 3, 1), (36, .aload_n 0, 1), (37, .getfield 22, 3), (40, .istore 4, 2), (42, .iload 4, 2), (44, .aload_n 0, 1), (45, .getfield 19, 3), (48, .if_icmp .ge 47, 3), (51, .aload_n 0, 1), (52, .iload 4, 2), (54, .invokevirtual 148, 3), (57, .ifCond .eq 38, 3), (60, .iload_n 3, 1), (61, .bipush 10, 2), (63, .imul, 1), (64, .aload_n 0, 1), (65, .iload 4, 2), (67, .invokevirtual 131, 3), (70, .iadd, 1), (71, .bipush 48, 2), (73, .isub, 1), (74, .sipush 1000, 3), (77, .invokestatic 151, 3), (80, .istore_n 3, 1), (81, .aload_n 0, 1), (82, .iload 4, 2), (84, .iconst 1, 1), (85, .iadd, 1), (86, .putfield 22, 3), (89, .iinc 4 1, 3), (92, .goto (-50), 3), (95, .iload_n 3, 1), (96, .iload_n 1, 1), (97, .if_icmp .lt 8, 3), (100, .iload_n 3, 1), (101, .iload_n 2, 1), (102, .if_icmp .le 14, 3), (105, .aload_n 0, 1), (106, .iconst 2, 1), (107, .aload_n 0, 1), (108, .getfield 106, 3), (111, .invokevirtual 65, 3), (114, .iload_n 1, 1), (115, .ireturn, 1), (116, .iload_n 3, 1), (117, .ireturn, 1)]
theorem qX4_takeNumber : ∀ q ∈ kX4_takeNumber, decode mX4_takeNumber.2.2.1 q.1 = .ok (q.2.1, q.2.2) ∧ am_iok mX4_takeNumber.2.2.2.1 q.1 q.2.1 q.2.2 = true := by decide +kernel
set_option maxRecDepth 100000 in
theorem wX4_takeNumber : Cond.code mX4_takeNumber.2.1 mX4_takeNumber.2.2.1 mX4_takeNumber.2.2.2.1 mX4_takeNumber.2.2.2.2.1 ∈ am_T := List.mem_filter.mpr ⟨List.mem_of_getElem? (i := 620) rfl, rfl⟩
set_option maxHeartbeats 4000000 in
set_option maxRecDepth 100000 in
theorem tX4_takeNumber (l : Launch) (d : Nat) {s0 : AS} {o0 : Nat} {a1 : Int32} {a2 : Int32} {sE : AS} {rE : Int32} (hf : fX4_takeNumber s0 o0 a1 a2 = some (sE, rE)) : am_Ct l (d + 3) mX4_takeNumber [.inr (.inr ((5, 0, 0), o0)), .inl a1, .inl a2] s0 sE (some (.inl rE)) := by
  refine am_sim l (d + 2) (code := kX4_takeNumber) (by decide +kernel) wX4_takeNumber qX4_takeNumber (Nat.le_of_ble_eq_true rfl) ?_
  intro X hX
  show X 0 [(0, .inr (.inr ((5, 0, 0), o0))), (1, .inl a1), (2, .inl a2)] [] s0
  unfold fX4_takeNumber at hf
  obtain ⟨s2, v1, hcv1, hf⟩ := am_c_of hf
  refine am_blk hX 0 6 (And.intro rfl (And.intro rfl (Exists.intro s2 (Exists.intro none (And.intro (tX4_skipBlanks l (d + 0) hcv1) (And.intro rfl (And.intro rfl (am_nl (Z := fun s3 => X 12 [(0, .inr (.inr ((5, 0, 0), o0))), (1, .inl a1), (2, .inl a2)] [] s3) hf (fun s3 hf => ?_)))))))))
  obtain ⟨v4, hcv4, hf⟩ := am_r_of hf
  refine am_blk hX 6 5 (And.intro rfl (And.intro rfl (And.intro rfl (Exists.intro s3 (Exists.intro (some (.inl v4)) (And.intro (tX4_isDigit l (d + 0) hcv4) (And.intro (fun hb => ?_) (fun hb => ?_))))))))
  · have hf := am_if hf hb
    show X 34 [(0, .inr (.inr ((5, 0, 0), o0))), (1, .inl a1), (2, .inl a2)] [] s3
    refine am_blk hX 18 5 (And.intro rfl (am_nl (Z := fun x5 => X 42 [(4, .inl x5), (3, .inl (0 : Int32)), (0, .inr (.inr ((5, 0, 0), o0))), (1, .inl a1), (2, .inl a2)] [] s3) hf (fun x5 hf => ?_)))
    refine am_jn hf (fun J95 => ∀ (s6 : AS) (x7 : Int32), J95 s6 x7 = some (sE, rE) → X 95 [(0, .inr (.inr ((5, 0, 0), o0))), (1, .inl a1), (2, .inl a2), (3, .inl x7)] [] s6) ?_ ?_
    · intro s6 x7 hf
      refine am_jn hf (fun J105 => J105 = some (sE, rE) → X 105 [(0, .inr (.inr ((5, 0, 0), o0))), (1, .inl a1)] [] s6) ?_ ?_
      · intro hf
        obtain ⟨s9, v8, hcv8, hf⟩ := am_c_of hf
        refine am_blk hX 56 7 (And.intro rfl (And.intro rfl (And.intro rfl (Exists.intro s9 (Exists.intro none (And.intro (tX4_fail l (d + 1) hcv8) (am_ri hf)))))))
      · intro J105 hJ105 hf
        refine am_blk hX 50 3 (And.intro (fun hb => ?_) (fun hb => ?_))
        · have hf := am_it hf hb
          show X 105 [(0, .inr (.inr ((5, 0, 0), o0))), (1, .inl a1), (2, .inl a2), (3, .inl x7)] [] s6
          exact am_wk hX [0, 1] (hJ105 hf)
        · have hf := am_if hf hb
          show X 100 [(0, .inr (.inr ((5, 0, 0), o0))), (1, .inl a1), (2, .inl a2), (3, .inl x7)] [] s6
          refine am_blk hX 53 3 (And.intro (fun hb => ?_) (fun hb => ?_))
          · have hf := am_it hf hb
            show X 116 [(0, .inr (.inr ((5, 0, 0), o0))), (1, .inl a1), (2, .inl a2), (3, .inl x7)] [] s6
            refine am_blk hX 63 2 (am_ri hf)
          · have hf := am_if hf hb
            show X 105 [(0, .inr (.inr ((5, 0, 0), o0))), (1, .inl a1), (2, .inl a2), (3, .inl x7)] [] s6
            exact am_wk hX [0, 1] (hJ105 hf)
    · intro J95 hJ95 hf
      have hL42 : ∀ (n42 : Nat) (s10 : AS) (x11 : Int32) (x12 : Int32), fX4_takeNumber_L42 o0 J95 n42 s10 x11 x12 = some (sE, rE) → X 42 [(0, .inr (.inr ((5, 0, 0), o0))), (1, .inl a1), (2, .inl a2), (3, .inl x11), (4, .inl x12)] [] s10 := by
        intro n42
        induction n42 with
        | zero => intro s10 x11 x12 hf; exact am_no (show none = some _ from hf)
        | succ n42 ih42 =>
          intro s10 x11 x12 hf
          refine am_blk hX 23 4 (And.intro rfl (And.intro (fun hb => ?_) (fun hb => ?_)))
          · have hf := am_it hf hb
            show X 95 [(0, .inr (.inr ((5, 0, 0), o0))), (1, .inl a1), (2, .inl a2), (3, .inl x11), (4, .inl x12)] [] s10
            exact am_wk hX [0, 1, 2, 3] (hJ95 s10 x11 hf)
          · have hf := am_if hf hb
            show X 51 [(0, .inr (.inr ((5, 0, 0), o0))), (1, .inl a1), (2, .inl a2), (3, .inl x11), (4, .inl x12)] [] s10
            obtain ⟨v13, hcv13, hf⟩ := am_r_of hf
            refine am_blk hX 27 4 (And.intro rfl (And.intro rfl (Exists.intro s10 (Exists.intro (some (.inl v13)) (And.intro (tX4_isDigit l (d + 0) hcv13) (And.intro (fun hb => ?_) (fun hb => ?_)))))))
            · have hf := am_it hf hb
              show X 95 [(0, .inr (.inr ((5, 0, 0), o0))), (1, .inl a1), (2, .inl a2), (3, .inl x11), (4, .inl x12)] [] s10
              exact am_wk hX [0, 1, 2, 3] (hJ95 s10 x11 hf)
            · have hf := am_if hf hb
              show X 60 [(0, .inr (.inr ((5, 0, 0), o0))), (1, .inl a1), (2, .inl a2), (3, .inl x11), (4, .inl x12)] [] s10
              obtain ⟨v14, hcv14, hf⟩ := am_r_of hf
              refine am_blk hX 31 12 (And.intro rfl (And.intro rfl (Exists.intro s10 (Exists.intro (some (.inl v14)) (And.intro (tX4_byteAt l (d + 1) hcv14) (And.intro rfl (am_nl (Z := fun x15 => X 81 [(3, .inl x15), (0, .inr (.inr ((5, 0, 0), o0))), (1, .inl a1), (2, .inl a2), (4, .inl x12)] [] s10) hf (fun x15 hf => ?_))))))))
              refine am_blk hX 43 5 (And.intro rfl (am_nl (Z := fun s16 => X 89 [(3, .inl x15), (0, .inr (.inr ((5, 0, 0), o0))), (1, .inl a1), (2, .inl a2), (4, .inl x12)] [] s16) hf (fun s16 hf => ?_)))
              refine am_blk hX 48 1 (am_nl (Z := fun x17 => X 92 [(4, .inl x17), (3, .inl x15), (0, .inr (.inr ((5, 0, 0), o0))), (1, .inl a1), (2, .inl a2)] [] s16) hf (fun x17 hf => ?_))
              refine am_blk hX 49 1 (?_)
              show X 42 [(4, .inl x17), (3, .inl x15), (0, .inr (.inr ((5, 0, 0), o0))), (1, .inl a1), (2, .inl a2)] [] s16
              exact am_wk hX [2, 3, 4, 1, 0] (ih42 s16 x15 x17 hf)
      exact am_wk hX [2, 3, 4, 1, 0] (hL42 am_fu s3 (0 : Int32) x5 hf)
  · have hf := am_it hf hb
    show X 23 [(0, .inr (.inr ((5, 0, 0), o0))), (1, .inl a1), (2, .inl a2)] [] s3
    obtain ⟨s19, v18, hcv18, hf⟩ := am_c_of hf
    refine am_blk hX 11 7 (And.intro rfl (And.intro rfl (And.intro rfl (Exists.intro s19 (Exists.intro none (And.intro (tX4_fail l (d + 1) hcv18) (am_ri hf)))))))
def fX4_readHead (s0 : AS) (o0 : Nat) (o1 : Nat) : Option (AS × Unit) :=
  am_c (fX4_takeWord s0 o0 0) (fun (s2 : AS) (v1 : Unit) => am_c (fX4_takeWord s2 o0 1) (fun (s4 : AS) (v3 : Unit) => am_c (fX4_takeNumber s4 o0 (2 : Int32) (7 : Int32)) (fun (s6 : AS) (v5 : Int32) => am_let (am_si s6 o1 1 v5) (fun (s7 : AS) => am_c (fX4_takeWord s7 o0 2) (fun (s9 : AS) (v8 : Unit) => am_c (fX4_takeNumber s9 o0 (0 : Int32) ((s9.1 o1 1) - (1 : Int32))) (fun (s11 : AS) (v10 : Int32) => am_let (am_si s11 o1 2 v10) (fun (s12 : AS) => am_c (fX4_takeWord s12 o0 3) (fun (s14 : AS) (v13 : Unit) => am_c (fX4_takeNumber s14 o0 (0 : Int32) (3 : Int32)) (fun (s16 : AS) (v15 : Int32) => am_let (am_si s16 o1 3 v15) (fun (s17 : AS) => am_c (fX4_takeWord s17 o0 4) (fun (s19 : AS) (v18 : Unit) => am_c (fX4_takeNumber s19 o0 (0 : Int32) (10 : Int32)) (fun (s21 : AS) (v20 : Int32) => am_let (am_si s21 o1 4 v20) (fun (s22 : AS) => some (s22, ()))))))))))))))
def kX4_readHead : List (Nat × Instr × Nat) := [(0, .aload_n 0, 1), (1, .ldc 72, 2), (3, .invokevirtual 74, 3), (6, .aload_n 0, 1), (7, .ldc 78, 2), (9, .invokevirtual 74, 3), (12, .aload_n 1, 1), (13, .aload_n 0, 1), (14, .iconst 2, 1), (15, .bipush 7, 2), (17, .invokevirtual 80, 3), (20, .putfield 84, 3), (23, .aload_n 0, 1), (24, .ldc 86, 2), (26, .invokevirtual 74, 3), (29, .aload_n 1, 1), (30, .aload_n 0, 1), (31, .iconst 0, 1), (32, .aload_n 1, 1), (33, .getfield 84, 3), (36, .iconst 1, 1), (37, .isub, 1), (38, .invokevirtual 80, 3), (41, .putfield 88, 3), (44, .aload_n 0, 1), (45, .ldc 90, 2), (47, .invokevirtual 74, 3), (50, .aload_n 1, 1), (51, .aload_n 0, 1), (52, .iconst 0, 1), (53, .iconst 3, 1), (54, .invokevirtual 80, 3), (57, .putfield 92, 3), (60, .aload_n 0, 1), (61, .ldc 94, 2), (63, .invokevirtual 74, 3), (66, .aload_n 1, 1), (67, .aload_n 0, 1), (68, .iconst 0, 1), (69, .bipush 10, 2), (71, .invokevirtual 80, 3), (74, .putfield 96, 3), (77, .return_, 1)]
theorem qX4_readHead : ∀ q ∈ kX4_readHead, decode mX4_readHead.2.2.1 q.1 = .ok (q.2.1, q.2.2) ∧ am_iok mX4_readHead.2.2.2.1 q.1 q.2.1 q.2.2 = true := by decide +kernel
set_option maxRecDepth 100000 in
theorem wX4_readHead : Cond.code mX4_readHead.2.1 mX4_readHead.2.2.1 mX4_readHead.2.2.2.1 mX4_readHead.2.2.2.2.1 ∈ am_T := List.mem_filter.mpr ⟨List.mem_of_getElem? (i := 550) rfl, rfl⟩
set_option maxHeartbeats 4000000 in
set_option maxRecDepth 100000 in
theorem tX4_readHead (l : Launch) (d : Nat) {s0 : AS} {o0 : Nat} {o1 : Nat} {sE : AS} {rE : Unit} (hf : fX4_readHead s0 o0 o1 = some (sE, rE)) : am_Ct l (d + 9) mX4_readHead [.inr (.inr ((5, 0, 0), o0)), .inr (.inr ((4, 0, 0), o1))] s0 sE none := by
  refine am_sim l (d + 8) (code := kX4_readHead) (by decide +kernel) wX4_readHead qX4_readHead (Nat.le_of_ble_eq_true rfl) ?_
  intro X hX
  show X 0 [(0, .inr (.inr ((5, 0, 0), o0))), (1, .inr (.inr ((4, 0, 0), o1)))] [] s0
  unfold fX4_readHead at hf
  obtain ⟨s2, v1, hcv1, hf⟩ := am_c_of hf
  obtain ⟨s4, v3, hcv3, hf⟩ := am_c_of hf
  obtain ⟨s6, v5, hcv5, hf⟩ := am_c_of hf
  refine am_blk hX 0 12 (And.intro rfl (And.intro rfl (Exists.intro s2 (Exists.intro none (And.intro (tX4_takeWord l (d + 0) hcv1) (And.intro rfl (And.intro rfl (Exists.intro s4 (Exists.intro none (And.intro (tX4_takeWord l (d + 0) hcv3) (And.intro rfl (And.intro rfl (Exists.intro s6 (Exists.intro (some (.inl v5)) (And.intro (tX4_takeNumber l (d + 5) hcv5) (And.intro rfl (am_nl (Z := fun s7 => X 23 [(0, .inr (.inr ((5, 0, 0), o0))), (1, .inr (.inr ((4, 0, 0), o1)))] [] s7) hf (fun s7 hf => ?_))))))))))))))))))
  obtain ⟨s9, v8, hcv8, hf⟩ := am_c_of hf
  obtain ⟨s11, v10, hcv10, hf⟩ := am_c_of hf
  refine am_blk hX 12 12 (And.intro rfl (And.intro rfl (Exists.intro s9 (Exists.intro none (And.intro (tX4_takeWord l (d + 0) hcv8) (And.intro rfl (And.intro rfl (And.intro rfl (Exists.intro s11 (Exists.intro (some (.inl v10)) (And.intro (tX4_takeNumber l (d + 5) hcv10) (And.intro rfl (am_nl (Z := fun s12 => X 44 [(0, .inr (.inr ((5, 0, 0), o0))), (1, .inr (.inr ((4, 0, 0), o1)))] [] s12) hf (fun s12 hf => ?_))))))))))))))
  obtain ⟨s14, v13, hcv13, hf⟩ := am_c_of hf
  obtain ⟨s16, v15, hcv15, hf⟩ := am_c_of hf
  refine am_blk hX 24 9 (And.intro rfl (And.intro rfl (Exists.intro s14 (Exists.intro none (And.intro (tX4_takeWord l (d + 0) hcv13) (And.intro rfl (And.intro rfl (Exists.intro s16 (Exists.intro (some (.inl v15)) (And.intro (tX4_takeNumber l (d + 5) hcv15) (And.intro rfl (am_nl (Z := fun s17 => X 60 [(0, .inr (.inr ((5, 0, 0), o0))), (1, .inr (.inr ((4, 0, 0), o1)))] [] s17) hf (fun s17 hf => ?_)))))))))))))
  obtain ⟨s19, v18, hcv18, hf⟩ := am_c_of hf
  obtain ⟨s21, v20, hcv20, hf⟩ := am_c_of hf
  refine am_blk hX 33 9 (And.intro rfl (And.intro rfl (Exists.intro s19 (Exists.intro none (And.intro (tX4_takeWord l (d + 0) hcv18) (And.intro rfl (And.intro rfl (Exists.intro s21 (Exists.intro (some (.inl v20)) (And.intro (tX4_takeNumber l (d + 5) hcv20) (And.intro rfl (am_nl (Z := fun s22 => X 77 [(0, .inr (.inr ((5, 0, 0), o0))), (1, .inr (.inr ((4, 0, 0), o1)))] [] s22) hf (fun s22 hf => ?_)))))))))))))
  refine am_blk hX 42 1 (And.intro rfl (am_rv hf))
def fX4_readRoad (s0 : AS) (o0 : Nat) (o1 : Nat) : Option (AS × Unit) :=
  if (s0.1 o1 5) < (10 : Int32) then (am_g (¬ ((s0.1 o1 5) < 0 ∨ 10 ≤ (s0.1 o1 5).toNatClampNeg)) (am_c (fX4_takeWord s0 o0 5) (fun (s3 : AS) (v2 : Unit) => am_c (fX4_takeNumber s3 o0 (0 : Int32) ((s3.1 o1 1) - (1 : Int32))) (fun (s5 : AS) (v4 : Int32) => am_g (¬ ((0 : Int32) < 0 ∨ 3 ≤ (0 : Int32).toNatClampNeg)) (am_let (am_si s5 (o1 + 1 + 1 + (s0.1 o1 5).toNatClampNeg) ((0 : Int32).toNatClampNeg) v4) (fun (s7 : AS) => am_c (fX4_takeWord s7 o0 6) (fun (s9 : AS) (v8 : Unit) => am_c (fX4_takeNumber s9 o0 (0 : Int32) ((s9.1 o1 1) - (1 : Int32))) (fun (s11 : AS) (v10 : Int32) => am_g (¬ ((1 : Int32) < 0 ∨ 3 ≤ (1 : Int32).toNatClampNeg)) (am_let (am_si s11 (o1 + 1 + 1 + (s0.1 o1 5).toNatClampNeg) ((1 : Int32).toNatClampNeg) v10) (fun (s13 : AS) => am_g (¬ ((1 : Int32) < 0 ∨ 3 ≤ (1 : Int32).toNatClampNeg)) (am_g (¬ ((0 : Int32) < 0 ∨ 3 ≤ (0 : Int32).toNatClampNeg)) (am_let (fun (s16 : AS) => am_c (fX4_takeWord s16 o0 7) (fun (s18 : AS) (v17 : Unit) => am_c (fX4_takeNumber s18 o0 (1 : Int32) (99 : Int32)) (fun (s20 : AS) (v19 : Int32) => am_g (¬ ((2 : Int32) < 0 ∨ 3 ≤ (2 : Int32).toNatClampNeg)) (am_let (am_si s20 (o1 + 1 + 1 + (s0.1 o1 5).toNatClampNeg) ((2 : Int32).toNatClampNeg) v19) (fun (s22 : AS) => am_let (am_si s22 o1 5 ((s22.1 o1 5) + (1 : Int32))) (fun (s23 : AS) => some (s23, ()))))))) (fun J87 => if (s13.1 (o1 + 1 + 1 + (s0.1 o1 5).toNatClampNeg) ((1 : Int32).toNatClampNeg)) = (s13.1 (o1 + 1 + 1 + (s0.1 o1 5).toNatClampNeg) ((0 : Int32).toNatClampNeg)) then (am_c (fX4_fail s13 o0 (2 : Int32) (s13.1 o0 5)) (fun (s25 : AS) (v24 : Unit) => J87 s25)) else (J87 s13)))))))))))))) else (am_c (fX4_fail s0 o0 (3 : Int32) (s0.1 o0 4)) (fun (s27 : AS) (v26 : Unit) => some (s27, ())))
def kX4_readRoad : List (Nat × Instr × Nat) := [(0, .aload_n 1, 1), (1, .getfield 98, 3), (4, .bipush 10, 2), (6, .if_icmp .lt 13, 3), (9, .aload_n 0, 1), (10, .iconst 3, 1), (11, .aload_n 0, 1), (12, .getfield 22, 3), (15, .invokevirtual 65, 3), (18, .return_, 1), (19, .aload_n 1, 1), (20, .getfield 101, 3), (23, .aload_n 1, 1), (24, .getfield 98, 3), (27, .aaload, 1), (28, .astore_n 2, 1), (29, .aload_n 0, 1), (30, .ldc 46, 2), (32, .invokevirtual 74, 3), (35, .aload_n 2, 1), (36, .iconst 0, 1), (37, .aload_n 0, 1), (38, .iconst 0, 1), (39, .aload_n 1, 1), (40, .getfield 84, 3), (43, .iconst 1, 1), (44, .isub, 1), (45, .invokevirtual 80, 3), (48, .iastore, 1), (49, .aload_n 0, 1), (50, .ldc 104, 2), (52, .invokevirtual 74, 3), (55, .aload_n 2, 1), (56, .iconst 1, 1), (57, .aload_n 0, 1), (58, .iconst 0, 1), (59, .aload_n 1, 1), (60, .getfield 84, 3), (63, .iconst 1, 1), (64, .isub, 1), (65, .invokevirtual 80, 3), (68, .iastore, 1), (69, .aload_n 2, 1), (70, .iconst 1, 1), (71, .iaload, 1), (72, .aload_n 2, 1), (73, .iconst 0, 1), (74, .iaload, 1), (75, .if_icmp .ne 12, 3), (78, .aload_n 0, 1), (79, .iconst 2, 1), (80, .aload_n 0, 1), (81, .getfield 106, 3), (84, .invokevirtual 65, 3), (87, .aload_n 0, 1), (88, .ldc 109, 2), (90, .invokevirtual 74, 3), (93, .aload_n 2, 1), (94, .iconst 2, 1), (95, .aload_n 0, 1), (96, .iconst 1, 1), (97, .bipush 99, 2), (99, .invokevirtual 80, 3), (102, .iastore, 1), (103, .aload_n 1, 1), (104, .dup, 1), (105, .getfield 98, 3), (108, .iconst 1, 1), (109, .iadd, 1), (110, .putfield 98, 3), (113, .return_, 1)]
theorem qX4_readRoad : ∀ q ∈ kX4_readRoad, decode mX4_readRoad.2.2.1 q.1 = .ok (q.2.1, q.2.2) ∧ am_iok mX4_readRoad.2.2.2.1 q.1 q.2.1 q.2.2 = true := by decide +kernel
set_option maxRecDepth 100000 in
theorem wX4_readRoad : Cond.code mX4_readRoad.2.1 mX4_readRoad.2.2.1 mX4_readRoad.2.2.2.1 mX4_readRoad.2.2.2.2.1 ∈ am_T := List.mem_filter.mpr ⟨List.mem_of_getElem? (i := 635) rfl, rfl⟩
set_option maxHeartbeats 4000000 in
set_option maxRecDepth 100000 in
theorem tX4_readRoad (l : Launch) (d : Nat) {s0 : AS} {o0 : Nat} {o1 : Nat} {sE : AS} {rE : Unit} (hf : fX4_readRoad s0 o0 o1 = some (sE, rE)) : am_Ct l (d + 9) mX4_readRoad [.inr (.inr ((5, 0, 0), o0)), .inr (.inr ((4, 0, 0), o1))] s0 sE none := by
  refine am_sim l (d + 8) (code := kX4_readRoad) (by decide +kernel) wX4_readRoad qX4_readRoad (Nat.le_of_ble_eq_true rfl) ?_
  intro X hX
  show X 0 [(0, .inr (.inr ((5, 0, 0), o0))), (1, .inr (.inr ((4, 0, 0), o1)))] [] s0
  unfold fX4_readRoad at hf
  refine am_blk hX 0 4 (And.intro rfl (And.intro (fun hb => ?_) (fun hb => ?_)))
  · have hf := am_it hf hb
    show X 19 [(0, .inr (.inr ((5, 0, 0), o0))), (1, .inr (.inr ((4, 0, 0), o1)))] [] s0
    obtain ⟨g1, hf⟩ := am_g_of hf
    obtain ⟨s3, v2, hcv2, hf⟩ := am_c_of hf
    obtain ⟨s5, v4, hcv4, hf⟩ := am_c_of hf
    obtain ⟨g6, hf⟩ := am_g_of hf
    refine am_blk hX 10 19 (And.intro rfl (And.intro rfl (And.intro g1 (And.intro rfl (And.intro rfl (Exists.intro s3 (Exists.intro none (And.intro (tX4_takeWord l (d + 0) hcv2) (And.intro rfl (And.intro rfl (And.intro rfl (Exists.intro s5 (Exists.intro (some (.inl v4)) (And.intro (tX4_takeNumber l (d + 5) hcv4) (And.intro rfl (And.intro g6 (am_nl (Z := fun s7 => X 49 [(2, .inr (.inr ((21, 3, 0), o1 + 1 + 1 + (s0.1 o1 5).toNatClampNeg))), (0, .inr (.inr ((5, 0, 0), o0))), (1, .inr (.inr ((4, 0, 0), o1)))] [] s7) hf (fun s7 hf => ?_))))))))))))))))))
    obtain ⟨s9, v8, hcv8, hf⟩ := am_c_of hf
    obtain ⟨s11, v10, hcv10, hf⟩ := am_c_of hf
    obtain ⟨g12, hf⟩ := am_g_of hf
    refine am_blk hX 29 13 (And.intro rfl (And.intro rfl (Exists.intro s9 (Exists.intro none (And.intro (tX4_takeWord l (d + 0) hcv8) (And.intro rfl (And.intro rfl (And.intro rfl (Exists.intro s11 (Exists.intro (some (.inl v10)) (And.intro (tX4_takeNumber l (d + 5) hcv10) (And.intro rfl (And.intro g12 (am_nl (Z := fun s13 => X 69 [(2, .inr (.inr ((21, 3, 0), o1 + 1 + 1 + (s0.1 o1 5).toNatClampNeg))), (0, .inr (.inr ((5, 0, 0), o0))), (1, .inr (.inr ((4, 0, 0), o1)))] [] s13) hf (fun s13 hf => ?_)))))))))))))))
    obtain ⟨g14, hf⟩ := am_g_of hf
    obtain ⟨g15, hf⟩ := am_g_of hf
    refine am_jn hf (fun J87 => ∀ (s16 : AS), J87 s16 = some (sE, rE) → X 87 [(0, .inr (.inr ((5, 0, 0), o0))), (1, .inr (.inr ((4, 0, 0), o1))), (2, .inr (.inr ((21, 3, 0), o1 + 1 + 1 + (s0.1 o1 5).toNatClampNeg)))] [] s16) ?_ ?_
    · intro s16 hf
      obtain ⟨s18, v17, hcv17, hf⟩ := am_c_of hf
      obtain ⟨s20, v19, hcv19, hf⟩ := am_c_of hf
      obtain ⟨g21, hf⟩ := am_g_of hf
      refine am_blk hX 54 10 (And.intro rfl (And.intro rfl (Exists.intro s18 (Exists.intro none (And.intro (tX4_takeWord l (d + 0) hcv17) (And.intro rfl (And.intro rfl (Exists.intro s20 (Exists.intro (some (.inl v19)) (And.intro (tX4_takeNumber l (d + 5) hcv19) (And.intro rfl (And.intro g21 (am_nl (Z := fun s22 => X 103 [(0, .inr (.inr ((5, 0, 0), o0))), (1, .inr (.inr ((4, 0, 0), o1))), (2, .inr (.inr ((21, 3, 0), o1 + 1 + 1 + (s0.1 o1 5).toNatClampNeg)))] [] s22) hf (fun s22 hf => ?_))))))))))))))
      refine am_blk hX 64 6 (And.intro rfl (And.intro rfl (am_nl (Z := fun s23 => X 113 [(0, .inr (.inr ((5, 0, 0), o0))), (1, .inr (.inr ((4, 0, 0), o1))), (2, .inr (.inr ((21, 3, 0), o1 + 1 + 1 + (s0.1 o1 5).toNatClampNeg)))] [] s23) hf (fun s23 hf => ?_))))
      refine am_blk hX 70 1 (And.intro rfl (am_rv hf))
    · intro J87 hJ87 hf
      refine am_blk hX 42 7 (And.intro rfl (And.intro g14 (And.intro rfl (And.intro g15 (And.intro (fun hb => ?_) (fun hb => ?_))))))
      · have hf := am_if hf hb
        show X 87 [(2, .inr (.inr ((21, 3, 0), o1 + 1 + 1 + (s0.1 o1 5).toNatClampNeg))), (0, .inr (.inr ((5, 0, 0), o0))), (1, .inr (.inr ((4, 0, 0), o1)))] [] s13
        exact am_wk hX [1, 2, 0] (hJ87 s13 hf)
      · have hf := am_it hf hb
        show X 78 [(2, .inr (.inr ((21, 3, 0), o1 + 1 + 1 + (s0.1 o1 5).toNatClampNeg))), (0, .inr (.inr ((5, 0, 0), o0))), (1, .inr (.inr ((4, 0, 0), o1)))] [] s13
        obtain ⟨s25, v24, hcv24, hf⟩ := am_c_of hf
        refine am_blk hX 49 5 (And.intro rfl (And.intro rfl (And.intro rfl (Exists.intro s25 (Exists.intro none (And.intro (tX4_fail l (d + 7) hcv24) (?_)))))))
        show X 87 [(2, .inr (.inr ((21, 3, 0), o1 + 1 + 1 + (s0.1 o1 5).toNatClampNeg))), (0, .inr (.inr ((5, 0, 0), o0))), (1, .inr (.inr ((4, 0, 0), o1)))] [] s25
        exact am_wk hX [1, 2, 0] (hJ87 s25 hf)
  · have hf := am_if hf hb
    show X 9 [(0, .inr (.inr ((5, 0, 0), o0))), (1, .inr (.inr ((4, 0, 0), o1)))] [] s0
    obtain ⟨s27, v26, hcv26, hf⟩ := am_c_of hf
    refine am_blk hX 4 6 (And.intro rfl (And.intro rfl (And.intro rfl (Exists.intro s27 (Exists.intro none (And.intro (tX4_fail l (d + 7) hcv26) (And.intro rfl (am_rv hf))))))))
def fX4_readPerson (s0 : AS) (o0 : Nat) (o1 : Nat) : Option (AS × Unit) :=
  if (s0.1 o1 6) < (8 : Int32) then (am_g (¬ ((s0.1 o1 6) < 0 ∨ 8 ≤ (s0.1 o1 6).toNatClampNeg)) (am_c (fX4_takeWord s0 o0 8) (fun (s3 : AS) (v2 : Unit) => am_c (fX4_takeWord s3 o0 9) (fun (s5 : AS) (v4 : Unit) => am_c (fX4_takeNumber s5 o0 (0 : Int32) ((s5.1 o1 1) - (1 : Int32))) (fun (s7 : AS) (v6 : Int32) => am_g (¬ ((0 : Int32) < 0 ∨ 5 ≤ (0 : Int32).toNatClampNeg)) (am_let (am_si s7 (o1 + 12 + 1 + (s0.1 o1 6).toNatClampNeg) ((0 : Int32).toNatClampNeg) v6) (fun (s9 : AS) => am_c (fX4_takeWord s9 o0 10) (fun (s11 : AS) (v10 : Unit) => am_c (fX4_takeNumber s11 o0 (0 : Int32) ((s11.1 o1 1) - (1 : Int32))) (fun (s13 : AS) (v12 : Int32) => am_g (¬ ((1 : Int32) < 0 ∨ 5 ≤ (1 : Int32).toNatClampNeg)) (am_let (am_si s13 (o1 + 12 + 1 + (s0.1 o1 6).toNatClampNeg) ((1 : Int32).toNatClampNeg) v12) (fun (s15 : AS) => am_c (fX4_takeWord s15 o0 11) (fun (s17 : AS) (v16 : Unit) => am_c (fX4_takeNumber s17 o0 (0 : Int32) (5 : Int32)) (fun (s19 : AS) (v18 : Int32) => am_g (¬ ((2 : Int32) < 0 ∨ 5 ≤ (2 : Int32).toNatClampNeg)) (am_let (am_si s19 (o1 + 12 + 1 + (s0.1 o1 6).toNatClampNeg) ((2 : Int32).toNatClampNeg) v18) (fun (s21 : AS) => am_c (fX4_takeWord s21 o0 12) (fun (s23 : AS) (v22 : Unit) => am_c (fX4_takeNumber s23 o0 (0 : Int32) (9 : Int32)) (fun (s25 : AS) (v24 : Int32) => am_g (¬ ((3 : Int32) < 0 ∨ 5 ≤ (3 : Int32).toNatClampNeg)) (am_let (am_si s25 (o1 + 12 + 1 + (s0.1 o1 6).toNatClampNeg) ((3 : Int32).toNatClampNeg) v24) (fun (s27 : AS) => am_c (fX4_takeWord s27 o0 13) (fun (s29 : AS) (v28 : Unit) => am_c (fX4_takeNumber s29 o0 (1 : Int32) (99 : Int32)) (fun (s31 : AS) (v30 : Int32) => am_g (¬ ((4 : Int32) < 0 ∨ 5 ≤ (4 : Int32).toNatClampNeg)) (am_let (am_si s31 (o1 + 12 + 1 + (s0.1 o1 6).toNatClampNeg) ((4 : Int32).toNatClampNeg) v30) (fun (s33 : AS) => am_let (am_si s33 o1 6 ((s33.1 o1 6) + (1 : Int32))) (fun (s34 : AS) => some (s34, ()))))))))))))))))))))))))) else (am_c (fX4_fail s0 o0 (3 : Int32) (s0.1 o0 4)) (fun (s36 : AS) (v35 : Unit) => some (s36, ())))
def kX4_readPerson : List (Nat × Instr × Nat) := [(0, .aload_n 1, 1), (1, .getfield 111, 3), (4, .bipush 8, 2), (6, .if_icmp .lt 13, 3), (9, .aload_n 0, 1), (10, .iconst 3, 1), (11, .aload_n 0, 1), (12, .getfield 22, 3), (15, .invokevirtual 65, 3), (18, .return_, 1), (19, .aload_n 1, 1), (20, .getfield 114, 3), (23, .aload_n 1, 1), (24, .getfield 111, 3), (27, .aaload, 1), (28, .astore_n 2, 1), (29, .aload_n 0, 1), (30, .ldc 55, 2), (32, .invokevirtual 74, 3), (35, .aload_n 0, 1), (36, .ldc 116, 2), (38, .invokevirtual 74, 3), (41, .aload_n 2, 1), (42, .iconst 0, 1), (43, .aload_n 0, 1), (44, .iconst 0, 1), (45, .aload_n 1, 1), (46, .getfield 84, 3), (49, .iconst 1, 1), (50, .isub, 1), (51, .invokevirtual 80, 3), (54, .iastore, 1), (55, .aload_n 0, 1), (56, .ldc 118, 2), (58, .invokevirtual 74, 3), (61, .aload_n 2, 1), (62, .iconst 1, 1), (63, .aload_n 0, 1), (64, .iconst 0, 1), (65, .aload_n 1, 1), (66, .getfield 84, 3), (69, .iconst 1, 1), (70, .isub, 1), (71, .invokevirtual 80, 3), (74, .iastore, 1), (75, .aload_n 0, 1), (76, .ldc 120, 2), (78, .invokevirtual 74, 3), (81, .aload_n 2, 1), (82, .iconst 2, 1), (83, .aload_n 0, 1), (84, .iconst 0, 1), (85, .iconst 5, 1), (86, .invokevirtual 80, 3), (89, .iastore, 1), (90, .aload_n 0, 1), (91, .ldc 122, 2), (93, .invokevirtual 74, 3), (96, .aload_n 2, 1), (97, .iconst 3, 1), (98, .aload_n 0, 1), (99, .iconst 0, 1), (100, .bipush 9, 2), (102, .invokevirtual 80, 3), (105, .iastore, 1), (106, .aload_n 0, 1), (107, .ldc 124, 2), (109, .invokevirtual 74, 3), (112, .aload_n 2, 1), (113, .iconst 4, 1), (114, .aload_n 0, 1), (115, .iconst 1, 1), (116, .bipush 99, 2), (118, .invokevirtual 80, 3), (121, .iastore, 1), (122, .aload_n 1, 1), (123, .dup, 1), (124, .getfield 111, 3), (127, .iconst 1, 1), (128, .iadd, 1), (129, .putfield 111, 3), (132, .return_, 1)]
theorem qX4_readPerson : ∀ q ∈ kX4_readPerson, decode mX4_readPerson.2.2.1 q.1 = .ok (q.2.1, q.2.2) ∧ am_iok mX4_readPerson.2.2.2.1 q.1 q.2.1 q.2.2 = true := by decide +kernel
set_option maxRecDepth 100000 in
theorem wX4_readPerson : Cond.code mX4_readPerson.2.1 mX4_readPerson.2.2.1 mX4_readPerson.2.2.2.1 mX4_readPerson.2.2.2.2.1 ∈ am_T := List.mem_filter.mpr ⟨List.mem_of_getElem? (i := 642) rfl, rfl⟩
set_option maxHeartbeats 4000000 in
set_option maxRecDepth 100000 in
theorem tX4_readPerson (l : Launch) (d : Nat) {s0 : AS} {o0 : Nat} {o1 : Nat} {sE : AS} {rE : Unit} (hf : fX4_readPerson s0 o0 o1 = some (sE, rE)) : am_Ct l (d + 9) mX4_readPerson [.inr (.inr ((5, 0, 0), o0)), .inr (.inr ((4, 0, 0), o1))] s0 sE none := by
  refine am_sim l (d + 8) (code := kX4_readPerson) (by decide +kernel) wX4_readPerson qX4_readPerson (Nat.le_of_ble_eq_true rfl) ?_
  intro X hX
  show X 0 [(0, .inr (.inr ((5, 0, 0), o0))), (1, .inr (.inr ((4, 0, 0), o1)))] [] s0
  unfold fX4_readPerson at hf
  refine am_blk hX 0 4 (And.intro rfl (And.intro (fun hb => ?_) (fun hb => ?_)))
  · have hf := am_it hf hb
    show X 19 [(0, .inr (.inr ((5, 0, 0), o0))), (1, .inr (.inr ((4, 0, 0), o1)))] [] s0
    obtain ⟨g1, hf⟩ := am_g_of hf
    obtain ⟨s3, v2, hcv2, hf⟩ := am_c_of hf
    obtain ⟨s5, v4, hcv4, hf⟩ := am_c_of hf
    obtain ⟨s7, v6, hcv6, hf⟩ := am_c_of hf
    obtain ⟨g8, hf⟩ := am_g_of hf
    refine am_blk hX 10 22 (And.intro rfl (And.intro rfl (And.intro g1 (And.intro rfl (And.intro rfl (Exists.intro s3 (Exists.intro none (And.intro (tX4_takeWord l (d + 0) hcv2) (And.intro rfl (And.intro rfl (Exists.intro s5 (Exists.intro none (And.intro (tX4_takeWord l (d + 0) hcv4) (And.intro rfl (And.intro rfl (And.intro rfl (Exists.intro s7 (Exists.intro (some (.inl v6)) (And.intro (tX4_takeNumber l (d + 5) hcv6) (And.intro rfl (And.intro g8 (am_nl (Z := fun s9 => X 55 [(2, .inr (.inr ((21, 5, 0), o1 + 12 + 1 + (s0.1 o1 6).toNatClampNeg))), (0, .inr (.inr ((5, 0, 0), o0))), (1, .inr (.inr ((4, 0, 0), o1)))] [] s9) hf (fun s9 hf => ?_)))))))))))))))))))))))
    obtain ⟨s11, v10, hcv10, hf⟩ := am_c_of hf
    obtain ⟨s13, v12, hcv12, hf⟩ := am_c_of hf
    obtain ⟨g14, hf⟩ := am_g_of hf
    refine am_blk hX 32 13 (And.intro rfl (And.intro rfl (Exists.intro s11 (Exists.intro none (And.intro (tX4_takeWord l (d + 0) hcv10) (And.intro rfl (And.intro rfl (And.intro rfl (Exists.intro s13 (Exists.intro (some (.inl v12)) (And.intro (tX4_takeNumber l (d + 5) hcv12) (And.intro rfl (And.intro g14 (am_nl (Z := fun s15 => X 75 [(2, .inr (.inr ((21, 5, 0), o1 + 12 + 1 + (s0.1 o1 6).toNatClampNeg))), (0, .inr (.inr ((5, 0, 0), o0))), (1, .inr (.inr ((4, 0, 0), o1)))] [] s15) hf (fun s15 hf => ?_)))))))))))))))
    obtain ⟨s17, v16, hcv16, hf⟩ := am_c_of hf
    obtain ⟨s19, v18, hcv18, hf⟩ := am_c_of hf
    obtain ⟨g20, hf⟩ := am_g_of hf
    refine am_blk hX 45 10 (And.intro rfl (And.intro rfl (Exists.intro s17 (Exists.intro none (And.intro (tX4_takeWord l (d + 0) hcv16) (And.intro rfl (And.intro rfl (Exists.intro s19 (Exists.intro (some (.inl v18)) (And.intro (tX4_takeNumber l (d + 5) hcv18) (And.intro rfl (And.intro g20 (am_nl (Z := fun s21 => X 90 [(2, .inr (.inr ((21, 5, 0), o1 + 12 + 1 + (s0.1 o1 6).toNatClampNeg))), (0, .inr (.inr ((5, 0, 0), o0))), (1, .inr (.inr ((4, 0, 0), o1)))] [] s21) hf (fun s21 hf => ?_))))))))))))))
    obtain ⟨s23, v22, hcv22, hf⟩ := am_c_of hf
    obtain ⟨s25, v24, hcv24, hf⟩ := am_c_of hf
    obtain ⟨g26, hf⟩ := am_g_of hf
    refine am_blk hX 55 10 (And.intro rfl (And.intro rfl (Exists.intro s23 (Exists.intro none (And.intro (tX4_takeWord l (d + 0) hcv22) (And.intro rfl (And.intro rfl (Exists.intro s25 (Exists.intro (some (.inl v24)) (And.intro (tX4_takeNumber l (d + 5) hcv24) (And.intro rfl (And.intro g26 (am_nl (Z := fun s27 => X 106 [(2, .inr (.inr ((21, 5, 0), o1 + 12 + 1 + (s0.1 o1 6).toNatClampNeg))), (0, .inr (.inr ((5, 0, 0), o0))), (1, .inr (.inr ((4, 0, 0), o1)))] [] s27) hf (fun s27 hf => ?_))))))))))))))
    obtain ⟨s29, v28, hcv28, hf⟩ := am_c_of hf
    obtain ⟨s31, v30, hcv30, hf⟩ := am_c_of hf
    obtain ⟨g32, hf⟩ := am_g_of hf
    refine am_blk hX 65 10 (And.intro rfl (And.intro rfl (Exists.intro s29 (Exists.intro none (And.intro (tX4_takeWord l (d + 0) hcv28) (And.intro rfl (And.intro rfl (Exists.intro s31 (Exists.intro (some (.inl v30)) (And.intro (tX4_takeNumber l (d + 5) hcv30) (And.intro rfl (And.intro g32 (am_nl (Z := fun s33 => X 122 [(2, .inr (.inr ((21, 5, 0), o1 + 12 + 1 + (s0.1 o1 6).toNatClampNeg))), (0, .inr (.inr ((5, 0, 0), o0))), (1, .inr (.inr ((4, 0, 0), o1)))] [] s33) hf (fun s33 hf => ?_))))))))))))))
    refine am_blk hX 75 6 (And.intro rfl (And.intro rfl (am_nl (Z := fun s34 => X 132 [(2, .inr (.inr ((21, 5, 0), o1 + 12 + 1 + (s0.1 o1 6).toNatClampNeg))), (0, .inr (.inr ((5, 0, 0), o0))), (1, .inr (.inr ((4, 0, 0), o1)))] [] s34) hf (fun s34 hf => ?_))))
    refine am_blk hX 81 1 (And.intro rfl (am_rv hf))
  · have hf := am_if hf hb
    show X 9 [(0, .inr (.inr ((5, 0, 0), o0))), (1, .inr (.inr ((4, 0, 0), o1)))] [] s0
    obtain ⟨s36, v35, hcv35, hf⟩ := am_c_of hf
    refine am_blk hX 4 6 (And.intro rfl (And.intro rfl (And.intro rfl (Exists.intro s36 (Exists.intro none (And.intro (tX4_fail l (d + 7) hcv35) (And.intro rfl (am_rv hf))))))))
def fX4_readGrant (s0 : AS) (o0 : Nat) (o1 : Nat) : Option (AS × Unit) :=
  am_c (fX4_takeWord s0 o0 14) (fun (s2 : AS) (v1 : Unit) => am_c (fX4_takeNumber s2 o0 (0 : Int32) (5 : Int32)) (fun (s4 : AS) (v3 : Int32) => am_c (fX4_takeWord s4 o0 15) (fun (s6 : AS) (v5 : Unit) => am_c (fX4_takeNumber s6 o0 (0 : Int32) (99 : Int32)) (fun (s8 : AS) (v7 : Int32) => am_let (fun (s9 : AS) => some (s9, ())) (fun J41 => if (s8.1 o0 0) = 0 then (am_g (¬ (v3 < 0 ∨ 6 ≤ v3.toNatClampNeg)) (am_let (am_si s8 (o1 + 21) (v3.toNatClampNeg) v7) (fun (s11 : AS) => J41 s11))) else (J41 s8))))))
def kX4_readGrant : List (Nat × Instr × Nat) := [(0, .aload_n 0, 1), (1, .ldc 60, 2), (3, .invokevirtual 74, 3), (6, .aload_n 0, 1), (7, .iconst 0, 1), (8, .iconst 5, 1), (9, .invokevirtual 80, 3), (12, .istore_n 2, 1), (13, .aload_n 0, 1), (14, .ldc 126, 2), (16, .invokevirtual 74, 3), (19, .aload_n 0, 1), (20, .iconst 0, 1), (21, .bipush 99, 2), (23, .invokevirtual 80, 3), (26, .istore_n 3, 1), (27, .aload_n 0, 1), (28, .getfield 25, 3), (31, .ifCond .ne 10, 3), (34, .aload_n 1, 1), (35, .getfield 128, 3), (38, .iload_n 2, 1), (39, .iload_n 3, 1), (40, .iastore, 1), (41, .return_, 1)]
theorem qX4_readGrant : ∀ q ∈ kX4_readGrant, decode mX4_readGrant.2.2.1 q.1 = .ok (q.2.1, q.2.2) ∧ am_iok mX4_readGrant.2.2.2.1 q.1 q.2.1 q.2.2 = true := by decide +kernel
set_option maxRecDepth 100000 in
theorem wX4_readGrant : Cond.code mX4_readGrant.2.1 mX4_readGrant.2.2.1 mX4_readGrant.2.2.2.1 mX4_readGrant.2.2.2.2.1 ∈ am_T := List.mem_filter.mpr ⟨List.mem_of_getElem? (i := 652) rfl, rfl⟩
set_option maxHeartbeats 4000000 in
set_option maxRecDepth 100000 in
theorem tX4_readGrant (l : Launch) (d : Nat) {s0 : AS} {o0 : Nat} {o1 : Nat} {sE : AS} {rE : Unit} (hf : fX4_readGrant s0 o0 o1 = some (sE, rE)) : am_Ct l (d + 9) mX4_readGrant [.inr (.inr ((5, 0, 0), o0)), .inr (.inr ((4, 0, 0), o1))] s0 sE none := by
  refine am_sim l (d + 8) (code := kX4_readGrant) (by decide +kernel) wX4_readGrant qX4_readGrant (Nat.le_of_ble_eq_true rfl) ?_
  intro X hX
  show X 0 [(0, .inr (.inr ((5, 0, 0), o0))), (1, .inr (.inr ((4, 0, 0), o1)))] [] s0
  unfold fX4_readGrant at hf
  obtain ⟨s2, v1, hcv1, hf⟩ := am_c_of hf
  obtain ⟨s4, v3, hcv3, hf⟩ := am_c_of hf
  obtain ⟨s6, v5, hcv5, hf⟩ := am_c_of hf
  obtain ⟨s8, v7, hcv7, hf⟩ := am_c_of hf
  refine am_jn hf (fun J41 => ∀ (s9 : AS), J41 s9 = some (sE, rE) → X 41 [] [] s9) ?_ ?_
  · intro s9 hf
    refine am_blk hX 24 1 (And.intro rfl (am_rv hf))
  · intro J41 hJ41 hf
    refine am_blk hX 0 19 (And.intro rfl (And.intro rfl (Exists.intro s2 (Exists.intro none (And.intro (tX4_takeWord l (d + 0) hcv1) (And.intro rfl (And.intro rfl (Exists.intro s4 (Exists.intro (some (.inl v3)) (And.intro (tX4_takeNumber l (d + 5) hcv3) (And.intro rfl (And.intro rfl (Exists.intro s6 (Exists.intro none (And.intro (tX4_takeWord l (d + 0) hcv5) (And.intro rfl (And.intro rfl (Exists.intro s8 (Exists.intro (some (.inl v7)) (And.intro (tX4_takeNumber l (d + 5) hcv7) (And.intro rfl (And.intro (fun hb => ?_) (fun hb => ?_)))))))))))))))))))))))
    · have hf := am_if hf hb
      show X 41 [(3, .inl v7), (2, .inl v3), (0, .inr (.inr ((5, 0, 0), o0))), (1, .inr (.inr ((4, 0, 0), o1)))] [] s8
      exact am_wk hX [] (hJ41 s8 hf)
    · have hf := am_it hf hb
      show X 34 [(3, .inl v7), (2, .inl v3), (0, .inr (.inr ((5, 0, 0), o0))), (1, .inr (.inr ((4, 0, 0), o1)))] [] s8
      obtain ⟨g10, hf⟩ := am_g_of hf
      refine am_blk hX 19 5 (And.intro rfl (And.intro rfl (And.intro g10 (am_nl (Z := fun s11 => X 41 [(3, .inl v7), (2, .inl v3), (0, .inr (.inr ((5, 0, 0), o0))), (1, .inr (.inr ((4, 0, 0), o1)))] [] s11) hf (fun s11 hf => ?_)))))
      exact am_wk hX [] (hJ41 s11 hf)
def fX4_takeSign (s0 : AS) (o0 : Nat) : Option (AS × Unit) :=
  am_c (fX4_skipBlanks s0 o0) (fun (s2 : AS) (v1 : Unit) => am_r (fX4_byteAt s2 o0 (s2.1 o0 4)) (fun (v3 : Int32) => am_let (fun (s4 : AS) => some (s4, ())) (fun J39 => if v3 = (59 : Int32) then (am_let (am_si s2 o0 4 ((s2.1 o0 4) + (1 : Int32))) (fun (s7 : AS) => J39 s7)) else (am_c (fX4_fail s2 o0 (1 : Int32) (s2.1 o0 4)) (fun (s6 : AS) (v5 : Unit) => J39 s6)))))
def kX4_takeSign : List (Nat × Instr × Nat) := [(0, .aload_n 0, 1), (1, .invokevirtual 33, 3), (4, .aload_n 0, 1), (5, .aload_n 0, 1), (6, .getfield 22, 3), (9, .invokevirtual 131, 3), (12, .bipush 59, 2), (14, .if_icmp .ne 16, 3), (17, .aload_n 0, 1), (18, .dup, 1), (19, .getfield 22, 3), (22, .iconst 1, 1), (23, .iadd, 1), (24, .putfield 22, 3), (27, .goto 12, 3), (30, .aload_n 0, 1), (31, .iconst 1, 1), (32, .aload_n 0, 1), (33, .getfield 22, 3), (36, .invokevirtual 65, 3), (39, .return_, 1)]
theorem qX4_takeSign : ∀ q ∈ kX4_takeSign, decode mX4_takeSign.2.2.1 q.1 = .ok (q.2.1, q.2.2) ∧ am_iok mX4_takeSign.2.2.2.1 q.1 q.2.1 q.2.2 = true := by decide +kernel
set_option maxRecDepth 100000 in
theorem wX4_takeSign : Cond.code mX4_takeSign.2.1 mX4_takeSign.2.2.1 mX4_takeSign.2.2.2.1 mX4_takeSign.2.2.2.2.1 ∈ am_T := List.mem_filter.mpr ⟨List.mem_of_getElem? (i := 657) rfl, rfl⟩
set_option maxHeartbeats 4000000 in
set_option maxRecDepth 100000 in
theorem tX4_takeSign (l : Launch) (d : Nat) {s0 : AS} {o0 : Nat} {sE : AS} {rE : Unit} (hf : fX4_takeSign s0 o0 = some (sE, rE)) : am_Ct l (d + 3) mX4_takeSign [.inr (.inr ((5, 0, 0), o0))] s0 sE none := by
  refine am_sim l (d + 2) (code := kX4_takeSign) (by decide +kernel) wX4_takeSign qX4_takeSign (Nat.le_of_ble_eq_true rfl) ?_
  intro X hX
  show X 0 [(0, .inr (.inr ((5, 0, 0), o0)))] [] s0
  unfold fX4_takeSign at hf
  obtain ⟨s2, v1, hcv1, hf⟩ := am_c_of hf
  obtain ⟨v3, hcv3, hf⟩ := am_r_of hf
  refine am_jn hf (fun J39 => ∀ (s4 : AS), J39 s4 = some (sE, rE) → X 39 [] [] s4) ?_ ?_
  · intro s4 hf
    refine am_blk hX 20 1 (And.intro rfl (am_rv hf))
  · intro J39 hJ39 hf
    refine am_blk hX 0 8 (And.intro rfl (And.intro rfl (Exists.intro s2 (Exists.intro none (And.intro (tX4_skipBlanks l (d + 0) hcv1) (And.intro rfl (And.intro rfl (And.intro rfl (Exists.intro s2 (Exists.intro (some (.inl v3)) (And.intro (tX4_byteAt l (d + 1) hcv3) (And.intro (fun hb => ?_) (fun hb => ?_)))))))))))))
    · have hf := am_if hf hb
      show X 30 [(0, .inr (.inr ((5, 0, 0), o0)))] [] s2
      obtain ⟨s6, v5, hcv5, hf⟩ := am_c_of hf
      refine am_blk hX 15 5 (And.intro rfl (And.intro rfl (And.intro rfl (Exists.intro s6 (Exists.intro none (And.intro (tX4_fail l (d + 1) hcv5) (?_)))))))
      show X 39 [(0, .inr (.inr ((5, 0, 0), o0)))] [] s6
      exact am_wk hX [] (hJ39 s6 hf)
    · have hf := am_it hf hb
      show X 17 [(0, .inr (.inr ((5, 0, 0), o0)))] [] s2
      refine am_blk hX 8 6 (And.intro rfl (And.intro rfl (am_nl (Z := fun s7 => X 27 [(0, .inr (.inr ((5, 0, 0), o0)))] [] s7) hf (fun s7 hf => ?_))))
      refine am_blk hX 14 1 (?_)
      show X 39 [(0, .inr (.inr ((5, 0, 0), o0)))] [] s7
      exact am_wk hX [] (hJ39 s7 hf)
def fX4_readLine (s0 : AS) (o0 : Nat) (o1 : Nat) : Option (AS × Unit) :=
  am_let (fun (s1 : AS) => am_c (fX4_takeSign s1 o0) (fun (s3 : AS) (v2 : Unit) => am_let (am_si s3 o1 0 ((s3.1 o1 0) + (1 : Int32))) (fun (s4 : AS) => some (s4, ())))) (fun J75 => if (s0.1 o1 0) = 0 then (am_c (fX4_readHead s0 o0 o1) (fun (s17 : AS) (v16 : Unit) => J75 s17)) else (am_r (fX4_isWord s0 o0 5) (fun (v5 : Int32) => if v5 = 0 then (am_r (fX4_isWord s0 o0 8) (fun (v6 : Int32) => if v6 = 0 then (am_r (fX4_isWord s0 o0 14) (fun (v7 : Int32) => if v7 = 0 then (am_c (fX4_fail s0 o0 (1 : Int32) (s0.1 o0 4)) (fun (s9 : AS) (v8 : Unit) => J75 s9)) else (am_c (fX4_readGrant s0 o0 o1) (fun (s11 : AS) (v10 : Unit) => J75 s11)))) else (am_c (fX4_readPerson s0 o0 o1) (fun (s13 : AS) (v12 : Unit) => J75 s13)))) else (am_c (fX4_readRoad s0 o0 o1) (fun (s15 : AS) (v14 : Unit) => J75 s15)))))
def kX4_readLine : List (Nat × Instr × Nat) := [(0, .aload_n 1, 1), (1, .getfield 40, 3), (4, .ifCond .ne 11, 3), (7, .aload_n 0, 1), (8, .aload_n 1, 1), (9, .invokevirtual 43, 3), (12, .goto 63, 3), (15, .aload_n 0, 1), (16, .ldc 46, 2), (18, .invokevirtual 48, 3), (21, .ifCond .eq 11, 3), (24, .aload_n 0, 1), (25, .aload_n 1, 1), (26, .invokevirtual 52, 3), (29, .goto 46, 3), (32, .aload_n 0, 1), (33, .ldc 55, 2), (35, .invokevirtual 48, 3), (38, .ifCond .eq 11, 3), (41, .aload_n 0, 1), (42, .aload_n 1, 1), (43, .invokevirtual 57, 3), (46, .goto 29, 3), (49, .aload_n 0, 1), (50, .ldc 60, 2), (52, .invokevirtual 48, 3), (55, .ifCond .eq 11, 3), (58, .aload_n 0, 1), (59, .aload_n 1, 1), (60, .invokevirtual 62, 3), (63, .goto 12, 3), (66, .aload_n 0, 1), (67, .iconst 1, 1), (68, .aload_n 0, 1), (69, .getfield 22, 3), (72, .invokevirtual 65, 3), (75, .aload_n 0, 1), (76, .invokevirtual 69, 3), (79, .aload_n 1, 1), (80, .dup, 1), (81, .getfield 40, 3), (84, .iconst 1, 1), (85, .iadd, 1), (86, .putfield 40, 3), (89, .return_, 1)]
theorem qX4_readLine : ∀ q ∈ kX4_readLine, decode mX4_readLine.2.2.1 q.1 = .ok (q.2.1, q.2.2) ∧ am_iok mX4_readLine.2.2.2.1 q.1 q.2.1 q.2.2 = true := by decide +kernel
set_option maxRecDepth 100000 in
theorem wX4_readLine : Cond.code mX4_readLine.2.1 mX4_readLine.2.2.1 mX4_readLine.2.2.2.1 mX4_readLine.2.2.2.2.1 ∈ am_T := List.mem_filter.mpr ⟨List.mem_of_getElem? (i := 546) rfl, rfl⟩
set_option maxHeartbeats 4000000 in
set_option maxRecDepth 100000 in
theorem tX4_readLine (l : Launch) (d : Nat) {s0 : AS} {o0 : Nat} {o1 : Nat} {sE : AS} {rE : Unit} (hf : fX4_readLine s0 o0 o1 = some (sE, rE)) : am_Ct l (d + 10) mX4_readLine [.inr (.inr ((5, 0, 0), o0)), .inr (.inr ((4, 0, 0), o1))] s0 sE none := by
  refine am_sim l (d + 9) (code := kX4_readLine) (by decide +kernel) wX4_readLine qX4_readLine (Nat.le_of_ble_eq_true rfl) ?_
  intro X hX
  show X 0 [(0, .inr (.inr ((5, 0, 0), o0))), (1, .inr (.inr ((4, 0, 0), o1)))] [] s0
  unfold fX4_readLine at hf
  refine am_jn hf (fun J75 => ∀ (s1 : AS), J75 s1 = some (sE, rE) → X 75 [(0, .inr (.inr ((5, 0, 0), o0))), (1, .inr (.inr ((4, 0, 0), o1)))] [] s1) ?_ ?_
  · intro s1 hf
    obtain ⟨s3, v2, hcv2, hf⟩ := am_c_of hf
    refine am_blk hX 36 8 (And.intro rfl (And.intro rfl (Exists.intro s3 (Exists.intro none (And.intro (tX4_takeSign l (d + 6) hcv2) (And.intro rfl (And.intro rfl (am_nl (Z := fun s4 => X 89 [(0, .inr (.inr ((5, 0, 0), o0))), (1, .inr (.inr ((4, 0, 0), o1)))] [] s4) hf (fun s4 hf => ?_)))))))))
    refine am_blk hX 44 1 (And.intro rfl (am_rv hf))
  · intro J75 hJ75 hf
    refine am_blk hX 0 3 (And.intro rfl (And.intro (fun hb => ?_) (fun hb => ?_)))
    · have hf := am_if hf hb
      show X 15 [(0, .inr (.inr ((5, 0, 0), o0))), (1, .inr (.inr ((4, 0, 0), o1)))] [] s0
      obtain ⟨v5, hcv5, hf⟩ := am_r_of hf
      refine am_blk hX 7 4 (And.intro rfl (And.intro rfl (Exists.intro s0 (Exists.intro (some (.inl v5)) (And.intro (tX4_isWord l (d + 2) hcv5) (And.intro (fun hb => ?_) (fun hb => ?_)))))))
      · have hf := am_it hf hb
        show X 32 [(0, .inr (.inr ((5, 0, 0), o0))), (1, .inr (.inr ((4, 0, 0), o1)))] [] s0
        obtain ⟨v6, hcv6, hf⟩ := am_r_of hf
        refine am_blk hX 15 4 (And.intro rfl (And.intro rfl (Exists.intro s0 (Exists.intro (some (.inl v6)) (And.intro (tX4_isWord l (d + 2) hcv6) (And.intro (fun hb => ?_) (fun hb => ?_)))))))
        · have hf := am_it hf hb
          show X 49 [(0, .inr (.inr ((5, 0, 0), o0))), (1, .inr (.inr ((4, 0, 0), o1)))] [] s0
          obtain ⟨v7, hcv7, hf⟩ := am_r_of hf
          refine am_blk hX 23 4 (And.intro rfl (And.intro rfl (Exists.intro s0 (Exists.intro (some (.inl v7)) (And.intro (tX4_isWord l (d + 2) hcv7) (And.intro (fun hb => ?_) (fun hb => ?_)))))))
          · have hf := am_it hf hb
            show X 66 [(0, .inr (.inr ((5, 0, 0), o0))), (1, .inr (.inr ((4, 0, 0), o1)))] [] s0
            obtain ⟨s9, v8, hcv8, hf⟩ := am_c_of hf
            refine am_blk hX 31 5 (And.intro rfl (And.intro rfl (And.intro rfl (Exists.intro s9 (Exists.intro none (And.intro (tX4_fail l (d + 8) hcv8) (?_)))))))
            show X 75 [(0, .inr (.inr ((5, 0, 0), o0))), (1, .inr (.inr ((4, 0, 0), o1)))] [] s9
            exact am_wk hX [0, 1] (hJ75 s9 hf)
          · have hf := am_if hf hb
            show X 58 [(0, .inr (.inr ((5, 0, 0), o0))), (1, .inr (.inr ((4, 0, 0), o1)))] [] s0
            obtain ⟨s11, v10, hcv10, hf⟩ := am_c_of hf
            refine am_blk hX 27 4 (And.intro rfl (And.intro rfl (Exists.intro s11 (Exists.intro none (And.intro (tX4_readGrant l (d + 0) hcv10) (?_))))))
            show X 75 [(0, .inr (.inr ((5, 0, 0), o0))), (1, .inr (.inr ((4, 0, 0), o1)))] [] s11
            exact am_wk hX [0, 1] (hJ75 s11 hf)
        · have hf := am_if hf hb
          show X 41 [(0, .inr (.inr ((5, 0, 0), o0))), (1, .inr (.inr ((4, 0, 0), o1)))] [] s0
          obtain ⟨s13, v12, hcv12, hf⟩ := am_c_of hf
          refine am_blk hX 19 4 (And.intro rfl (And.intro rfl (Exists.intro s13 (Exists.intro none (And.intro (tX4_readPerson l (d + 0) hcv12) (?_))))))
          show X 75 [(0, .inr (.inr ((5, 0, 0), o0))), (1, .inr (.inr ((4, 0, 0), o1)))] [] s13
          exact am_wk hX [0, 1] (hJ75 s13 hf)
      · have hf := am_if hf hb
        show X 24 [(0, .inr (.inr ((5, 0, 0), o0))), (1, .inr (.inr ((4, 0, 0), o1)))] [] s0
        obtain ⟨s15, v14, hcv14, hf⟩ := am_c_of hf
        refine am_blk hX 11 4 (And.intro rfl (And.intro rfl (Exists.intro s15 (Exists.intro none (And.intro (tX4_readRoad l (d + 0) hcv14) (?_))))))
        show X 75 [(0, .inr (.inr ((5, 0, 0), o0))), (1, .inr (.inr ((4, 0, 0), o1)))] [] s15
        exact am_wk hX [0, 1] (hJ75 s15 hf)
    · have hf := am_it hf hb
      show X 7 [(0, .inr (.inr ((5, 0, 0), o0))), (1, .inr (.inr ((4, 0, 0), o1)))] [] s0
      obtain ⟨s17, v16, hcv16, hf⟩ := am_c_of hf
      refine am_blk hX 3 4 (And.intro rfl (And.intro rfl (Exists.intro s17 (Exists.intro none (And.intro (tX4_readHead l (d + 0) hcv16) (?_))))))
      show X 75 [(0, .inr (.inr ((5, 0, 0), o0))), (1, .inr (.inr ((4, 0, 0), o1)))] [] s17
      exact am_wk hX [0, 1] (hJ75 s17 hf)
def fX4_read_L30 (o0 : Nat) (o2 : Nat) (J70 : AS → Option (AS × Unit)) : Nat → AS → Int32 → Option (AS × Unit)
  | 0, _, _ => none
  | n30 + 1, s10, x11 =>
    if (800 : Int32) ≤ x11 then (J70 s10) else (if (s10.1 o0 0) = 0 then (if (s10.1 o0 3) ≤ (s10.1 o0 4) then (J70 s10) else (am_c (fX4_readLine s10 o0 o2) (fun (s13 : AS) (v12 : Unit) => am_c (fX4_skipBlanks s13 o0) (fun (s15 : AS) (v14 : Unit) => am_let (x11 + (1 : Int32)) (fun (x16 : Int32) => fX4_read_L30 o0 o2 J70 n30 s15 x16))))) else (J70 s10))
def fX4_read (s0 : AS) (o0 : Nat) (a1 : Int32) (o2 : Nat) : Option (AS × Unit) :=
  am_let (am_si s0 o0 3 a1) (fun (s1 : AS) => am_let (am_si s1 o0 4 (0 : Int32)) (fun (s2 : AS) => am_let (am_si s2 o0 0 (0 : Int32)) (fun (s3 : AS) => am_let (am_si s3 o0 1 (-1 : Int32)) (fun (s4 : AS) => am_c (fX3_clear s4 o2) (fun (s6 : AS) (v5 : Unit) => am_c (fX4_skipBlanks s6 o0) (fun (s8 : AS) (v7 : Unit) => am_let (fun (s9 : AS) => some (s9, ())) (fun J70 => fX4_read_L30 o0 o2 J70 am_fu s8 (0 : Int32))))))))
def kX4_read : List (Nat × Instr × Nat) := [(0, .aload_n 0, 1), (1, .iload_n 1, 1), (2, .putfield 19, 3), (5, .aload_n 0, 1), (6, .iconst 0, 1), (7, .putfield 22, 3), (10, .aload_n 0, 1), (11, .iconst 0, 1), (12, .putfield 25, 3), (15, .aload_n 0, 1), (16, .iconst (-1), 1), (17, .putfield 9, 3), (20, .aload_n 2, 1), (21, .invokevirtual 28, 3), (24, .aload_n 0, 1), (25, .invokevirtual 33, 3), (28, .iconst 0, 1), (29, .istore_n 3, 1), (30, .iload_n 3, 1), (31, .sipush 800, 3), (34, .if_icmp .ge 36, 3), (37, .aload_n 0, 1), (38, .getfield 25, 3), (41, .ifCond .ne 29, 3), (44, .aload_n 0, 1), (45, .getfield 22, 3), (48, .aload_n 0, 1), (49, .getfield 19, 3), (52, .if_icmp .ge 18, 3), (55, .aload_n 0, 1), (56, .aload_n 2, 1), (57, .invokevirtual 36, 3), (60, .aload_n 0, 1), (61, .invokevirtual 33, 3), (64, .iinc 3 1, 3), (67, .goto (-37), 3), (70, .return_, 1)]
theorem qX4_read : ∀ q ∈ kX4_read, decode mX4_read.2.2.1 q.1 = .ok (q.2.1, q.2.2) ∧ am_iok mX4_read.2.2.2.1 q.1 q.2.1 q.2.2 = true := by decide +kernel
set_option maxRecDepth 100000 in
theorem wX4_read : Cond.code mX4_read.2.1 mX4_read.2.2.1 mX4_read.2.2.2.1 mX4_read.2.2.2.2.1 ∈ am_T := List.mem_filter.mpr ⟨List.mem_of_getElem? (i := 527) rfl, rfl⟩
set_option maxHeartbeats 4000000 in
set_option maxRecDepth 100000 in
theorem tX4_read (l : Launch) (d : Nat) {s0 : AS} {o0 : Nat} {a1 : Int32} {o2 : Nat} {sE : AS} {rE : Unit} (hf : fX4_read s0 o0 a1 o2 = some (sE, rE)) : am_Ct l (d + 11) mX4_read [.inr (.inr ((5, 0, 0), o0)), .inl a1, .inr (.inr ((4, 0, 0), o2))] s0 sE none := by
  refine am_sim l (d + 10) (code := kX4_read) (by decide +kernel) wX4_read qX4_read (Nat.le_of_ble_eq_true rfl) ?_
  intro X hX
  show X 0 [(0, .inr (.inr ((5, 0, 0), o0))), (1, .inl a1), (2, .inr (.inr ((4, 0, 0), o2)))] [] s0
  unfold fX4_read at hf
  refine am_blk hX 0 3 (And.intro rfl (am_nl (Z := fun s1 => X 5 [(0, .inr (.inr ((5, 0, 0), o0))), (1, .inl a1), (2, .inr (.inr ((4, 0, 0), o2)))] [] s1) hf (fun s1 hf => ?_)))
  refine am_blk hX 3 3 (And.intro rfl (am_nl (Z := fun s2 => X 10 [(0, .inr (.inr ((5, 0, 0), o0))), (1, .inl a1), (2, .inr (.inr ((4, 0, 0), o2)))] [] s2) hf (fun s2 hf => ?_)))
  refine am_blk hX 6 3 (And.intro rfl (am_nl (Z := fun s3 => X 15 [(0, .inr (.inr ((5, 0, 0), o0))), (1, .inl a1), (2, .inr (.inr ((4, 0, 0), o2)))] [] s3) hf (fun s3 hf => ?_)))
  refine am_blk hX 9 3 (And.intro rfl (am_nl (Z := fun s4 => X 20 [(0, .inr (.inr ((5, 0, 0), o0))), (1, .inl a1), (2, .inr (.inr ((4, 0, 0), o2)))] [] s4) hf (fun s4 hf => ?_)))
  obtain ⟨s6, v5, hcv5, hf⟩ := am_c_of hf
  obtain ⟨s8, v7, hcv7, hf⟩ := am_c_of hf
  refine am_jn hf (fun J70 => ∀ (s9 : AS), J70 s9 = some (sE, rE) → X 70 [] [] s9) ?_ ?_
  · intro s9 hf
    refine am_blk hX 36 1 (And.intro rfl (am_rv hf))
  · intro J70 hJ70 hf
    have hL30 : ∀ (n30 : Nat) (s10 : AS) (x11 : Int32), fX4_read_L30 o0 o2 J70 n30 s10 x11 = some (sE, rE) → X 30 [(0, .inr (.inr ((5, 0, 0), o0))), (2, .inr (.inr ((4, 0, 0), o2))), (3, .inl x11)] [] s10 := by
      intro n30
      induction n30 with
      | zero => intro s10 x11 hf; exact am_no (show none = some _ from hf)
      | succ n30 ih30 =>
        intro s10 x11 hf
        refine am_blk hX 18 3 (And.intro (fun hb => ?_) (fun hb => ?_))
        · have hf := am_it hf hb
          show X 70 [(0, .inr (.inr ((5, 0, 0), o0))), (2, .inr (.inr ((4, 0, 0), o2))), (3, .inl x11)] [] s10
          exact am_wk hX [] (hJ70 s10 hf)
        · have hf := am_if hf hb
          show X 37 [(0, .inr (.inr ((5, 0, 0), o0))), (2, .inr (.inr ((4, 0, 0), o2))), (3, .inl x11)] [] s10
          refine am_blk hX 21 3 (And.intro rfl (And.intro (fun hb => ?_) (fun hb => ?_)))
          · have hf := am_if hf hb
            show X 70 [(0, .inr (.inr ((5, 0, 0), o0))), (2, .inr (.inr ((4, 0, 0), o2))), (3, .inl x11)] [] s10
            exact am_wk hX [] (hJ70 s10 hf)
          · have hf := am_it hf hb
            show X 44 [(0, .inr (.inr ((5, 0, 0), o0))), (2, .inr (.inr ((4, 0, 0), o2))), (3, .inl x11)] [] s10
            refine am_blk hX 24 5 (And.intro rfl (And.intro rfl (And.intro (fun hb => ?_) (fun hb => ?_))))
            · have hf := am_it hf hb
              show X 70 [(0, .inr (.inr ((5, 0, 0), o0))), (2, .inr (.inr ((4, 0, 0), o2))), (3, .inl x11)] [] s10
              exact am_wk hX [] (hJ70 s10 hf)
            · have hf := am_if hf hb
              show X 55 [(0, .inr (.inr ((5, 0, 0), o0))), (2, .inr (.inr ((4, 0, 0), o2))), (3, .inl x11)] [] s10
              obtain ⟨s13, v12, hcv12, hf⟩ := am_c_of hf
              obtain ⟨s15, v14, hcv14, hf⟩ := am_c_of hf
              refine am_blk hX 29 6 (And.intro rfl (And.intro rfl (Exists.intro s13 (Exists.intro none (And.intro (tX4_readLine l (d + 0) hcv12) (And.intro rfl (And.intro rfl (Exists.intro s15 (Exists.intro none (And.intro (tX4_skipBlanks l (d + 8) hcv14) (am_nl (Z := fun x16 => X 67 [(3, .inl x16), (0, .inr (.inr ((5, 0, 0), o0))), (2, .inr (.inr ((4, 0, 0), o2)))] [] s15) hf (fun x16 hf => ?_))))))))))))
              refine am_blk hX 35 1 (?_)
              show X 30 [(3, .inl x16), (0, .inr (.inr ((5, 0, 0), o0))), (2, .inr (.inr ((4, 0, 0), o2)))] [] s15
              exact am_wk hX [1, 2, 0] (ih30 s15 x16 hf)
    refine am_blk hX 12 6 (And.intro rfl (And.intro rfl (Exists.intro s6 (Exists.intro none (And.intro (tX3_clear l (d + 8) hcv5) (And.intro rfl (And.intro rfl (Exists.intro s8 (Exists.intro none (And.intro (tX4_skipBlanks l (d + 8) hcv7) (?_)))))))))))
    show X 30 [(3, .inl (0 : Int32)), (0, .inr (.inr ((5, 0, 0), o0))), (1, .inl a1), (2, .inr (.inr ((4, 0, 0), o2)))] [] s8
    exact am_wk hX [1, 3, 0] (hL30 am_fu s8 (0 : Int32) hf)
def fX5_begin (s0 : AS) (o0 : Nat) (a1 : Int32) (a2 : Int32) : Option (AS × Unit) :=
  am_let (am_si s0 o0 0 (1 : Int32)) (fun (s1 : AS) => am_let (am_si s1 o0 1 a1) (fun (s2 : AS) => am_let (am_si s2 o0 2 a2) (fun (s3 : AS) => am_c (fJ7_fill_d0a16 s3 (o0 + 1) 60 (0 : Int64)) (fun (s5 : AS) (v4 : Unit) => some (s5, ())))))
def kX5_begin : List (Nat × Instr × Nat) := [(0, .aload_n 0, 1), (1, .iconst 1, 1), (2, .putfield 15, 3), (5, .aload_n 0, 1), (6, .iload_n 1, 1), (7, .putfield 19, 3), (10, .aload_n 0, 1), (11, .iload_n 2, 1), (12, .putfield 23, 3), (15, .aload_n 0, 1), (16, .getfield 9, 3), (19, .lconst 0, 1), (20, .invokestatic 26, 3), (23, .return_, 1)]
theorem qX5_begin : ∀ q ∈ kX5_begin, decode mX5_begin.2.2.1 q.1 = .ok (q.2.1, q.2.2) ∧ am_iok mX5_begin.2.2.2.1 q.1 q.2.1 q.2.2 = true := by decide +kernel
set_option maxRecDepth 100000 in
theorem wX5_begin : Cond.code mX5_begin.2.1 mX5_begin.2.2.1 mX5_begin.2.2.2.1 mX5_begin.2.2.2.2.1 ∈ am_T := List.mem_filter.mpr ⟨List.mem_of_getElem? (i := 1269) rfl, rfl⟩
set_option maxHeartbeats 4000000 in
set_option maxRecDepth 100000 in
theorem tX5_begin (l : Launch) (d : Nat) {s0 : AS} {o0 : Nat} {a1 : Int32} {a2 : Int32} {sE : AS} {rE : Unit} (hf : fX5_begin s0 o0 a1 a2 = some (sE, rE)) : am_Ct l (d + 2) mX5_begin [.inr (.inr ((6, 0, 0), o0)), .inl a1, .inl a2] s0 sE none := by
  refine am_sim l (d + 1) (code := kX5_begin) (by decide +kernel) wX5_begin qX5_begin (Nat.le_of_ble_eq_true rfl) ?_
  intro X hX
  show X 0 [(0, .inr (.inr ((6, 0, 0), o0))), (1, .inl a1), (2, .inl a2)] [] s0
  unfold fX5_begin at hf
  refine am_blk hX 0 3 (And.intro rfl (And.intro (Or.inr rfl) (am_nl (Z := fun s1 => X 5 [(0, .inr (.inr ((6, 0, 0), o0))), (1, .inl a1), (2, .inl a2)] [] s1) hf (fun s1 hf => ?_))))
  refine am_blk hX 3 3 (And.intro rfl (am_nl (Z := fun s2 => X 10 [(0, .inr (.inr ((6, 0, 0), o0))), (1, .inl a1), (2, .inl a2)] [] s2) hf (fun s2 hf => ?_)))
  refine am_blk hX 6 3 (And.intro rfl (am_nl (Z := fun s3 => X 15 [(0, .inr (.inr ((6, 0, 0), o0))), (1, .inl a1), (2, .inl a2)] [] s3) hf (fun s3 hf => ?_)))
  obtain ⟨s5, v4, hcv4, hf⟩ := am_c_of hf
  refine am_blk hX 9 5 (And.intro rfl (And.intro rfl (Exists.intro s5 (Exists.intro none (And.intro (tJ7_fill_d0a16 l (d + 0) hcv4) (And.intro rfl (am_rv hf)))))))
def fX5_hasFrom (s0 : AS) (o0 : Nat) (a1 : Int32) (a2 : Int32) : Option Int32 :=
  am_let (fun (x1 : Int32) => am_g (x1 = 0 ∨ x1 = 1) (some x1)) (fun J31 => am_let (J31 (0 : Int32)) (fun J30 => if a1 < 0 then (J30) else (if a2 < 0 then (J30) else (if (s0.1 o0 2) < a1 then (J30) else (if ((s0.1 o0 2) - a1) < a2 then (J30) else (J31 (1 : Int32)))))))
def kX5_hasFrom : List (Nat × Instr × Nat) := [(0, .iload_n 1, 1), (1, .ifCond .lt 29, 3), (4, .iload_n 2, 1), (5, .ifCond .lt 25, 3), (8, .iload_n 1, 1), (9, .aload_n 0, 1), (10, .getfield 23, 3), (13, .if_icmp .gt 17, 3), (16, .iload_n 2, 1), (17, .aload_n 0, 1), (18, .getfield 23, 3), (21, .iload_n 1, 1), (22, .isub, 1), (23, .if_icmp .gt 7, 3), (26, .iconst 1, 1), (27, .goto 4, 3), (30, .iconst 0, 1), (31, .ireturn, 1)]
theorem qX5_hasFrom : ∀ q ∈ kX5_hasFrom, decode mX5_hasFrom.2.2.1 q.1 = .ok (q.2.1, q.2.2) ∧ am_iok mX5_hasFrom.2.2.2.1 q.1 q.2.1 q.2.2 = true := by decide +kernel
set_option maxRecDepth 100000 in
theorem wX5_hasFrom : Cond.code mX5_hasFrom.2.1 mX5_hasFrom.2.2.1 mX5_hasFrom.2.2.2.1 mX5_hasFrom.2.2.2.2.1 ∈ am_T := List.mem_filter.mpr ⟨List.mem_of_getElem? (i := 1288) rfl, rfl⟩
set_option maxHeartbeats 4000000 in
set_option maxRecDepth 100000 in
theorem tX5_hasFrom (l : Launch) (d : Nat) {s0 : AS} {o0 : Nat} {a1 : Int32} {a2 : Int32} {rE : Int32} (hf : fX5_hasFrom s0 o0 a1 a2 = some rE) : am_Ct l (d + 1) mX5_hasFrom [.inr (.inr ((6, 0, 0), o0)), .inl a1, .inl a2] s0 s0 (some (.inl rE)) := by
  refine am_sim l (d + 0) (code := kX5_hasFrom) (by decide +kernel) wX5_hasFrom qX5_hasFrom (Nat.le_of_ble_eq_true rfl) ?_
  intro X hX
  show X 0 [(0, .inr (.inr ((6, 0, 0), o0))), (1, .inl a1), (2, .inl a2)] [] s0
  unfold fX5_hasFrom at hf
  refine am_jn hf (fun J31 => ∀ (x1 : Int32), J31 x1 = some rE → X 31 [] [.inl x1] s0) ?_ ?_
  · intro x1 hf
    obtain ⟨g2, hf⟩ := am_g_of hf
    refine am_blk hX 17 1 (And.intro g2 (am_rpi hf))
  · intro J31 hJ31 hf
    refine am_jn hf (fun J30 => J30 = some rE → X 30 [] [] s0) ?_ ?_
    · intro hf
      refine am_blk hX 16 1 (?_)
      show X 31 [] [.inl (0 : Int32)] s0
      exact am_wk hX [] (hJ31 (0 : Int32) hf)
    · intro J30 hJ30 hf
      refine am_blk hX 0 2 (And.intro (fun hb => ?_) (fun hb => ?_))
      · have hf := am_it hf hb
        show X 30 [(0, .inr (.inr ((6, 0, 0), o0))), (1, .inl a1), (2, .inl a2)] [] s0
        exact am_wk hX [] (hJ30 hf)
      · have hf := am_if hf hb
        show X 4 [(0, .inr (.inr ((6, 0, 0), o0))), (1, .inl a1), (2, .inl a2)] [] s0
        refine am_blk hX 2 2 (And.intro (fun hb => ?_) (fun hb => ?_))
        · have hf := am_it hf hb
          show X 30 [(0, .inr (.inr ((6, 0, 0), o0))), (1, .inl a1), (2, .inl a2)] [] s0
          exact am_wk hX [] (hJ30 hf)
        · have hf := am_if hf hb
          show X 8 [(0, .inr (.inr ((6, 0, 0), o0))), (1, .inl a1), (2, .inl a2)] [] s0
          refine am_blk hX 4 4 (And.intro rfl (And.intro (fun hb => ?_) (fun hb => ?_)))
          · have hf := am_it hf hb
            show X 30 [(0, .inr (.inr ((6, 0, 0), o0))), (1, .inl a1), (2, .inl a2)] [] s0
            exact am_wk hX [] (hJ30 hf)
          · have hf := am_if hf hb
            show X 16 [(0, .inr (.inr ((6, 0, 0), o0))), (1, .inl a1), (2, .inl a2)] [] s0
            refine am_blk hX 8 6 (And.intro rfl (And.intro (fun hb => ?_) (fun hb => ?_)))
            · have hf := am_it hf hb
              show X 30 [(0, .inr (.inr ((6, 0, 0), o0))), (1, .inl a1), (2, .inl a2)] [] s0
              exact am_wk hX [] (hJ30 hf)
            · have hf := am_if hf hb
              show X 26 [(0, .inr (.inr ((6, 0, 0), o0))), (1, .inl a1), (2, .inl a2)] [] s0
              refine am_blk hX 14 2 (?_)
              show X 31 [(0, .inr (.inr ((6, 0, 0), o0))), (1, .inl a1), (2, .inl a2)] [.inl (1 : Int32)] s0
              exact am_wk hX [] (hJ31 (1 : Int32) hf)
def fX5_put (s0 : AS) (o0 : Nat) (a1 : Int32) (a2 : Int64) : Option (AS × Unit) :=
  am_let (some (s0, ())) (fun J10 => if a1 < 0 then (J10) else (if a1 < (60 : Int32) then (am_let (fun (s1 : AS) => some (s1, ())) (fun J85 => if (s0.1 o0 1) = (0 : Int32) then (am_g (¬ (a1 < 0 ∨ 60 ≤ a1.toNatClampNeg)) (am_let (am_sj s0 (o0 + 1) (a1.toNatClampNeg) a2.toInt32.toInt8.toInt32.toInt64) (fun (s3 : AS) => J85 s3))) else (if (s0.1 o0 1) = (1 : Int32) then (am_g (¬ (a1 < 0 ∨ 60 ≤ a1.toNatClampNeg)) (am_let (am_sj s0 (o0 + 1) (a1.toNatClampNeg) a2.toInt32.toInt16.toInt32.toInt64) (fun (s5 : AS) => J85 s5))) else (if (s0.1 o0 1) = (2 : Int32) then (am_g (¬ (a1 < 0 ∨ 60 ≤ a1.toNatClampNeg)) (am_let (am_sj s0 (o0 + 1) (a1.toNatClampNeg) a2.toInt32.toInt64) (fun (s7 : AS) => J85 s7))) else (am_g (¬ (a1 < 0 ∨ 60 ≤ a1.toNatClampNeg)) (am_let (am_sj s0 (o0 + 1) (a1.toNatClampNeg) a2) (fun (s9 : AS) => J85 s9))))))) else (J10)))
def kX5_put : List (Nat × Instr × Nat) := [(0, .iload_n 1, 1), (1, .ifCond .lt 9, 3), (4, .iload_n 1, 1), (5, .bipush 60, 2), (7, .if_icmp .lt 4, 3), (10, .return_, 1), (11, .aload_n 0, 1), (12, .getfield 19, 3), (15, .tableswitch 63 0 2 #[25, 38, 51], 25), (40, .aload_n 0, 1), (41, .getfield 9, 3), (44, .iload_n 1, 1), (45, .lload_n 2, 1), (46, .l2i, 1), (47, .i2b, 1), (48, .i2l, 1), (49, .lastore, 1), (50, .goto 35, 3), (53, .aload_n 0, 1), (54, .getfield 9, 3), (57, .iload_n 1, 1), (58, .lload_n 2, 1), (59, .l2i, 1), (60, .i2s, 1), (61, .i2l, 1), (62, .lastore, 1), (63, .goto 22, 3), (66, .aload_n 0, 1), (67, .getfield 9, 3), (70, .iload_n 1, 1), (71, .lload_n 2, 1), (72, .l2i, 1), (73, .i2l, 1), (74, .lastore, 1), (75, .goto 10, 3), (78, .aload_n 0, 1), (79, .getfield 9, 3), (82, .iload_n 1, 1), (83, .lload_n 2, 1), (84, .lastore, 1), (85, .return_, 1)]
theorem qX5_put : ∀ q ∈ kX5_put, decode mX5_put.2.2.1 q.1 = .ok (q.2.1, q.2.2) ∧ am_iok mX5_put.2.2.2.1 q.1 q.2.1 q.2.2 = true := by decide +kernel
set_option maxRecDepth 100000 in
theorem wX5_put : Cond.code mX5_put.2.1 mX5_put.2.2.1 mX5_put.2.2.2.1 mX5_put.2.2.2.2.1 ∈ am_T := List.mem_filter.mpr ⟨List.mem_of_getElem? (i := 1280) rfl, rfl⟩
set_option maxHeartbeats 4000000 in
set_option maxRecDepth 100000 in
theorem tX5_put (l : Launch) (d : Nat) {s0 : AS} {o0 : Nat} {a1 : Int32} {a2 : Int64} {sE : AS} {rE : Unit} (hf : fX5_put s0 o0 a1 a2 = some (sE, rE)) : am_Ct l (d + 1) mX5_put [.inr (.inr ((6, 0, 0), o0)), .inl a1, .inr (.inl a2)] s0 sE none := by
  refine am_sim l (d + 0) (code := kX5_put) (by decide +kernel) wX5_put qX5_put (Nat.le_of_ble_eq_true rfl) ?_
  intro X hX
  show X 0 [(0, .inr (.inr ((6, 0, 0), o0))), (1, .inl a1), (2, .inr (.inl a2))] [] s0
  unfold fX5_put at hf
  refine am_jn hf (fun J10 => J10 = some (sE, rE) → X 10 [] [] s0) ?_ ?_
  · intro hf
    refine am_blk hX 5 1 (And.intro rfl (am_rv hf))
  · intro J10 hJ10 hf
    refine am_blk hX 0 2 (And.intro (fun hb => ?_) (fun hb => ?_))
    · have hf := am_it hf hb
      show X 10 [(0, .inr (.inr ((6, 0, 0), o0))), (1, .inl a1), (2, .inr (.inl a2))] [] s0
      exact am_wk hX [] (hJ10 hf)
    · have hf := am_if hf hb
      show X 4 [(0, .inr (.inr ((6, 0, 0), o0))), (1, .inl a1), (2, .inr (.inl a2))] [] s0
      refine am_blk hX 2 3 (And.intro (fun hb => ?_) (fun hb => ?_))
      · have hf := am_it hf hb
        show X 11 [(0, .inr (.inr ((6, 0, 0), o0))), (1, .inl a1), (2, .inr (.inl a2))] [] s0
        refine am_jn hf (fun J85 => ∀ (s1 : AS), J85 s1 = some (sE, rE) → X 85 [] [] s1) ?_ ?_
        · intro s1 hf
          refine am_blk hX 40 1 (And.intro rfl (am_rv hf))
        · intro J85 hJ85 hf
          refine am_blk hX 6 3 (And.intro rfl (And.intro (fun hb => ?_) (fun hq0 => And.intro (fun hb => ?_) (fun hq1 => And.intro (fun hb => ?_) (fun hq2 => ?_)))))
          · have hf := am_it hf hb
            show X 40 [(0, .inr (.inr ((6, 0, 0), o0))), (1, .inl a1), (2, .inr (.inl a2))] [] s0
            obtain ⟨g2, hf⟩ := am_g_of hf
            refine am_blk hX 9 8 (And.intro rfl (And.intro rfl (And.intro g2 (am_nl (Z := fun s3 => X 50 [(0, .inr (.inr ((6, 0, 0), o0))), (1, .inl a1), (2, .inr (.inl a2))] [] s3) hf (fun s3 hf => ?_)))))
            refine am_blk hX 17 1 (?_)
            show X 85 [(0, .inr (.inr ((6, 0, 0), o0))), (1, .inl a1), (2, .inr (.inl a2))] [] s3
            exact am_wk hX [] (hJ85 s3 hf)
          · have hf := am_it (am_if hf hq0) hb
            show X 53 [(0, .inr (.inr ((6, 0, 0), o0))), (1, .inl a1), (2, .inr (.inl a2))] [] s0
            obtain ⟨g4, hf⟩ := am_g_of hf
            refine am_blk hX 18 8 (And.intro rfl (And.intro rfl (And.intro g4 (am_nl (Z := fun s5 => X 63 [(0, .inr (.inr ((6, 0, 0), o0))), (1, .inl a1), (2, .inr (.inl a2))] [] s5) hf (fun s5 hf => ?_)))))
            refine am_blk hX 26 1 (?_)
            show X 85 [(0, .inr (.inr ((6, 0, 0), o0))), (1, .inl a1), (2, .inr (.inl a2))] [] s5
            exact am_wk hX [] (hJ85 s5 hf)
          · have hf := am_it (am_if (am_if hf hq0) hq1) hb
            show X 66 [(0, .inr (.inr ((6, 0, 0), o0))), (1, .inl a1), (2, .inr (.inl a2))] [] s0
            obtain ⟨g6, hf⟩ := am_g_of hf
            refine am_blk hX 27 7 (And.intro rfl (And.intro rfl (And.intro g6 (am_nl (Z := fun s7 => X 75 [(0, .inr (.inr ((6, 0, 0), o0))), (1, .inl a1), (2, .inr (.inl a2))] [] s7) hf (fun s7 hf => ?_)))))
            refine am_blk hX 34 1 (?_)
            show X 85 [(0, .inr (.inr ((6, 0, 0), o0))), (1, .inl a1), (2, .inr (.inl a2))] [] s7
            exact am_wk hX [] (hJ85 s7 hf)
          · have hf := (am_if (am_if (am_if hf hq0) hq1) hq2)
            show X 78 [(0, .inr (.inr ((6, 0, 0), o0))), (1, .inl a1), (2, .inr (.inl a2))] [] s0
            obtain ⟨g8, hf⟩ := am_g_of hf
            refine am_blk hX 35 5 (And.intro rfl (And.intro rfl (And.intro g8 (am_nl (Z := fun s9 => X 85 [(0, .inr (.inr ((6, 0, 0), o0))), (1, .inl a1), (2, .inr (.inl a2))] [] s9) hf (fun s9 hf => ?_)))))
            exact am_wk hX [] (hJ85 s9 hf)
      · have hf := am_if hf hb
        show X 10 [(0, .inr (.inr ((6, 0, 0), o0))), (1, .inl a1), (2, .inr (.inl a2))] [] s0
        exact am_wk hX [] (hJ10 hf)
