/-! METHODS, printed by gen.py. -/
/-- String.checkIndex: by hand -/
def fJ0_checkIndex_df160 (a0 : Int32) (a1 : Int32) : Option Unit := am_g (¬ a0 < 0 ∧ a0 < a1) (some ())
def kJ3_ci : List (Nat × Instr × Nat) := [(0, .iload_n 0, 1), (1, .ifCond .lt 8, 3), (4, .iload_n 0, 1), (5, .iload_n 1, 1), (6, .if_icmp .lt 10, 3), (16, .iload_n 0, 1), (17, .ireturn, 1)]
theorem qJ3_ci : ∀ q ∈ kJ3_ci, decode cJ3_checkIndex_8e157 q.1 = .ok (q.2.1, q.2.2) := by decide +kernel
set_option maxRecDepth 100000 in
theorem wJ3_ci : Cond.code yJ3_checkIndex_8e157 cJ3_checkIndex_8e157 3 (some .int) ∈ am_T := List.mem_filter.mpr ⟨List.mem_of_getElem? (i := 588) rfl, rfl⟩
theorem tJ3_ci (l : Launch) {i n : Int32} {v : Value} (h0 : ¬ i < 0) (h1 : i < n) (hv : v = .null ∨ ∃ t, v = .ref t) (sz : Nat) : Met l yJ3_checkIndex_8e157 (.code yJ3_checkIndex_8e157 cJ3_checkIndex_8e157 3 (some .int) :: am_T) (am_rm 0) (va_Pc [.int i, .int n, v] (fun U => U.heap.size = sz)) (fun _ st oc t => oc = .returned (some (.int i)) ∧ t.heap = st.heap) 0 0 (fun _ => False) := by
  refine Met.ofW (cc := cJ3_checkIndex_8e157) (maxL := 3) (ret := some .int) (by decide) rfl ?_
  intro p e s m args below meth c s₁ B hml hv2
  obtain ⟨rfl, hsz⟩ := hv2
  have hx := B.exec
  have hb := B.bytes
  have hlk := B.notSynchronized
  have hl := lv_entry ([.int i, .int n, v]) (n := 3) (by
    have : (lg_sl [.int i, .int n, v]).length = 3 := by
      rcases hv with rfl | ⟨t, rfl⟩ <;> rfl
    omega)
  rw [lg_entry_eq]
  generalize (lg_sl ([.int i, .int n, v]) ++ List.replicate (3 - (lg_sl ([.int i, .int n, v])).length) Slot.unset).toArray = ls at hl ⊢
  have hl : lv_has ls 3 (lv_args 0 [.int i, .int n, v]) := hl
  have l0 : ls[0]? = some (.val (.int i)) := lv_at hl 0 rfl
  have l1 : ls[1]? = some (.val (.int n)) := lv_at hl 1 rfl
  refine lv_iload_n hx hb (qJ3_ci (0, .iload_n 0, 1) (by simp [kJ3_ci])) rfl l0 ?_
  refine lv_if_lt (tgt := 9) hx hb (qJ3_ci (1, .ifCond .lt 8, 3) (by simp [kJ3_ci])) (by decide) (fun z => absurd z h0) (fun _ => ?_)
  refine lv_iload_n hx hb (qJ3_ci (4, .iload_n 0, 1) (by simp [kJ3_ci])) rfl l0 ?_
  refine lv_iload_n hx hb (qJ3_ci (5, .iload_n 1, 1) (by simp [kJ3_ci])) rfl l1 ?_
  refine lv_icmp_lt (tgt := 16) hx hb (qJ3_ci (6, .if_icmp .lt 10, 3) (by simp [kJ3_ci])) (by decide) (fun _ => ?_) (fun z => absurd h1 z)
  refine lv_iload_n hx hb (qJ3_ci (16, .iload_n 0, 1) (by simp [kJ3_ci])) rfl l0 ?_
  exact W.iret hx hb B.returns (fun t ht _ => ⟨rfl, ht⟩) (fun _ h => by cases h) (qJ3_ci (17, .ireturn, 1) (by simp [kJ3_ci])) hlk
def kJ0_ci : List (Nat × Instr × Nat) := [(0, .iload_n 0, 1), (1, .iload_n 1, 1), (2, .getstatic 1053, 3), (5, .invokestatic 1059, 3), (8, .pop, 1), (9, .return_, 1)]
theorem qJ0_ci : ∀ q ∈ kJ0_ci, decode cJ0_checkIndex_df160 q.1 = .ok (q.2.1, q.2.2) := by decide +kernel
set_option maxRecDepth 100000 in
theorem wJ0_ci : Cond.code yJ0_checkIndex_df160 cJ0_checkIndex_df160 2 none ∈ am_T := List.mem_filter.mpr ⟨List.mem_of_getElem? (i := 583) rfl, rfl⟩
set_option maxRecDepth 100000 in
theorem fJ0_ci : ∀ w ∈ [Cond.fieldLink RJ0 1053 "jdk/internal/util/Preconditions" "SIOOBE_FORMATTER" "Ljava/util/function/BiFunction;", Cond.methodLink RJ0 1059 yJ3_checkIndex_8e157, Cond.static yJ3_checkIndex_8e157, Cond.initialized RJ3], w ∈ lw_tbl ∧ goodWord w = true := by decide +kernel
theorem gJ0_ci {w : Cond} (h : w ∈ [Cond.fieldLink RJ0 1053 "jdk/internal/util/Preconditions" "SIOOBE_FORMATTER" "Ljava/util/function/BiFunction;", Cond.methodLink RJ0 1059 yJ3_checkIndex_8e157, Cond.static yJ3_checkIndex_8e157, Cond.initialized RJ3]) : w ∈ am_T := List.mem_filter.mpr (fJ0_ci w h)
theorem tJ0_checkIndex_df160 (l : Launch) (d : Nat) {s0 : AS} {a0 : Int32} {a1 : Int32} {rE : Unit} (hf : fJ0_checkIndex_df160 a0 a1 = some rE) : am_Ct l (d + 4) mJ0_checkIndex_df160 [.inl a0, .inl a1] s0 s0 none := by
  obtain ⟨⟨h0, h1⟩, -⟩ := am_g_of hf
  refine ⟨wJ0_ci, fun D cy ad sd sv sz hok hk => ?_⟩
  refine Met.ofW (cc := cJ0_checkIndex_df160) (maxL := 2) (ret := none) (by decide) rfl ?_
  intro p e s m args below meth c s₁ B hml hv
  obtain ⟨rfl, hsz, hP, hD0, hE⟩ := hv
  subst hsz
  have hx := B.exec
  have hb := B.bytes
  have hlk := B.notSynchronized
  have hts0 := atoms_spec (ws := am_ws mJ0_checkIndex_df160) B.pre
  have hts : ∀ w ∈ am_T, w.before _ s = true := fun w hw => hts0 w (List.mem_cons_of_mem _ hw)
  have hown : s.vm.findClass RJ0 = some m.cls := findClass_of_methodNamed B.named
  have hS : va_S (va_A (am_w cy ad s0) s.heap.size) s.heap s.heap [] := va_S.rf
  have hl := lv_entry ([.int a0, .int a1]) (n := 2) (Nat.le_of_ble_eq_true rfl)
  show W p l e (am_rm (d + 4)) s m _ below meth c s.heap [] 0 0 _ (entryFrame m ([.int a0, .int a1] : List Value).toArray 2)
  rw [lg_entry_eq]
  generalize (lg_sl ([.int a0, .int a1]) ++ List.replicate (2 - (lg_sl ([.int a0, .int a1])).length) Slot.unset).toArray = ls at hl ⊢
  have hl : lv_has ls 2 [(0, .int a0), (1, .int a1)] := hl
  refine lv_iload_n hx hb (qJ0_ci (0, .iload_n 0, 1) (by simp [kJ0_ci])) rfl (lv_at hl 0 rfl) ?_
  refine lv_iload_n hx hb (qJ0_ci (1, .iload_n 1, 1) (by simp [kJ0_ci])) rfl (lv_at hl 1 rfl) ?_
  obtain ⟨v, hvc, hZ⟩ : ∃ v : Value, (v = .null ∨ ∃ t, v = .ref t) ∧ va_Z "jdk/internal/util/Preconditions" "SIOOBE_FORMATTER" "Ljava/util/function/BiFunction;" v (va_A (am_w cy ad s0) s.heap.size) s s.heap := by
    rcases hE.2.2.2.2.2 with h | ⟨t, h⟩
    · exact ⟨_, Or.inl rfl, h⟩
    · exact ⟨_, Or.inr ⟨_, rfl⟩, h⟩
  refine va_gets hx hb hZ hS hown (hts _ (gJ0_ci (by simp))) (fun _ z => z) (qJ0_ci (2, .getstatic 1053, 3) (by simp [kJ0_ci])) ?_
  have hS2 : CallFix p m c cJ0_checkIndex_df160 2 s _ am_T RJ0 := ⟨hx, hb, hml, hown, hts⟩
  have hG : GoodIn am_T (va_wsS RJ0 1059 yJ3_checkIndex_8e157 (.code yJ3_checkIndex_8e157 cJ3_checkIndex_8e157 3 (some .int) :: am_T)) := fun w hw => by
    have : w ∈ am_T := by
      simp only [va_wsS, List.cons_append, List.nil_append, List.mem_cons] at hw
      rcases hw with rfl | rfl | rfl | hw
      · exact gJ0_ci (by simp)
      · exact gJ0_ci (by simp)
      · exact gJ0_ci (by simp [yJ3_checkIndex_8e157])
      · rcases hw with rfl | hw
        · exact wJ3_ci
        · exact hw
    exact ⟨this, good_of_word (am_T_good w this)⟩
  have hr := va_runS (l := l) (e := e) (R := am_rm (d + 4)) (below := below) (meth := meth) (H := s.heap) (locs := []) (cells := 0) (slots := 0) (g := F0 m 5 ls [v, .int a1, .int a0]) (As := [.int a0, .int a1, v]) (rest := []) hS2 (tJ3_ci l h0 h1 hvc s.heap.size) (va_cwS 3 hts hG rfl rfl rfl (by decide +kernel) ⟨(show 0 + 1 ≤ d + 4 by omega), (show 8 + (3 + 11) + 60 * 0 ≤ 60 * (d + 4) by omega)⟩) ⟨fun a U g mk q => q, fun U hU hW => ⟨rfl, congrArg Array.size hU⟩⟩ rfl rfl hl.1 rfl (Nat.le_of_ble_eq_true rfl) (qJ0_ci (5, .invokestatic 1059, 3) (by simp [kJ0_ci])) ⟨Nat.zero_le _, Nat.zero_le _⟩
  intro T hT X
  obtain ⟨v', st₀, t, T', L, g0, X', hL, e1, e2, ⟨hv, hq⟩, st⟩ := hr T hT X
  cases hv
  have K : W p l e (am_rm (d + 4)) s m (List.map (ac_v ad sd) [Sum.inl a0, Sum.inl a1]).toArray below meth c s.heap [] 0 0 (MQ below (am_Q D cy ad sd s0 none (va_A (am_w cy ad s0) s.heap.size)) (List.map (ac_v ad sd) [Sum.inl a0, Sum.inl a1]).toArray s 0 0 (va_A (am_w cy ad s0) s.heap.size)) (F0 m 8 ls [.int a0]) := by
    refine lv_pop hx hb (qJ0_ci (8, .pop, 1) (by simp [kJ0_ci])) rfl ?_
    exact W.vret hx hb B.returns (fun t ht _ => ⟨⟨rfl, hk, (fun _ z => by cases z), (by rw [ht]; exact hP)⟩, hS.F ht⟩) (fun _ h => by cases h) (qJ0_ci (9, .return_, 1) (by simp [kJ0_ci])) hlk
  obtain ⟨t2, b1, b2⟩ := K T' (by rw [e1, hq, g0]) (Stand.forget X' (fun q h => (hL q h).elim))
  exact ⟨t2, st t2 b1, b2⟩
def fJ0_isLatin1_aae02 (s0 : AS) (o0 : Nat) : Option Int32 :=
  am_let (fun (x1 : Int32) => am_g (x1 = 0 ∨ x1 = 1) (some x1)) (fun J18 => am_let (J18 (0 : Int32)) (fun J17 => if (1 : Int32) = 0 then (J17) else (if (0 : Int32) = 0 then (J18 (1 : Int32)) else (J17))))
def kJ0_isLatin1_aae02 : List (Nat × Instr × Nat) := [(0, .getstatic 38, 3), (3, .ifCond .eq 14, 3), (6, .aload_n 0, 1), (7, .getfield 15, 3), (10, .ifCond .ne 7, 3), (13, .iconst 1, 1), (14, .goto 4, 3), (17, .iconst 0, 1), (18, .ireturn, 1)]
theorem qJ0_isLatin1_aae02 : ∀ q ∈ kJ0_isLatin1_aae02, decode mJ0_isLatin1_aae02.2.2.1 q.1 = .ok (q.2.1, q.2.2) ∧ am_iok mJ0_isLatin1_aae02.2.2.2.1 q.1 q.2.1 q.2.2 = true := by decide +kernel
set_option maxRecDepth 100000 in
theorem wJ0_isLatin1_aae02 : Cond.code mJ0_isLatin1_aae02.2.1 mJ0_isLatin1_aae02.2.2.1 mJ0_isLatin1_aae02.2.2.2.1 mJ0_isLatin1_aae02.2.2.2.2.1 ∈ am_T := List.mem_filter.mpr ⟨List.mem_of_getElem? (i := 577) rfl, rfl⟩
set_option maxHeartbeats 4000000 in
set_option maxRecDepth 100000 in
theorem tJ0_isLatin1_aae02 (l : Launch) (d : Nat) {s0 : AS} {o0 : Nat} {rE : Int32} (hf : fJ0_isLatin1_aae02 s0 o0 = some rE) : am_Ct l (d + 1) mJ0_isLatin1_aae02 [.inr (.inr ((11, 0, 0), o0))] s0 s0 (some (.inl rE)) := by
  refine am_sim l (d + 0) (code := kJ0_isLatin1_aae02) (by decide +kernel) wJ0_isLatin1_aae02 qJ0_isLatin1_aae02 (Nat.le_of_ble_eq_true rfl) ?_
  intro X hX
  show X 0 [(0, .inr (.inr ((11, 0, 0), o0)))] [] s0
  unfold fJ0_isLatin1_aae02 at hf
  refine am_jn hf (fun J18 => ∀ (x1 : Int32), J18 x1 = some rE → X 18 [] [.inl x1] s0) ?_ ?_
  · intro x1 hf
    obtain ⟨g2, hf⟩ := am_g_of hf
    refine am_blk hX 8 1 (And.intro g2 (am_rpi hf))
  · intro J18 hJ18 hf
    refine am_jn hf (fun J17 => J17 = some rE → X 17 [] [] s0) ?_ ?_
    · intro hf
      refine am_blk hX 7 1 (?_)
      show X 18 [] [.inl (0 : Int32)] s0
      exact am_wk hX [] (hJ18 (0 : Int32) hf)
    · intro J17 hJ17 hf
      refine am_blk hX 0 2 (And.intro rfl (And.intro (fun hb => ?_) (fun hb => ?_)))
      · have hf := am_it hf hb
        show X 17 [(0, .inr (.inr ((11, 0, 0), o0)))] [] s0
        exact am_wk hX [] (hJ17 hf)
      · have hf := am_if hf hb
        show X 6 [(0, .inr (.inr ((11, 0, 0), o0)))] [] s0
        refine am_blk hX 2 3 (And.intro rfl (And.intro (fun hb => ?_) (fun hb => ?_)))
        · have hf := am_if hf hb
          show X 17 [(0, .inr (.inr ((11, 0, 0), o0)))] [] s0
          exact am_wk hX [] (hJ17 hf)
        · have hf := am_it hf hb
          show X 13 [(0, .inr (.inr ((11, 0, 0), o0)))] [] s0
          refine am_blk hX 5 2 (?_)
          show X 18 [(0, .inr (.inr ((11, 0, 0), o0)))] [.inl (1 : Int32)] s0
          exact am_wk hX [] (hJ18 (1 : Int32) hf)
def fJ1_charAt_3b067 (s0 : AS) (o0 : Nat) (a1 : Int32) : Option Int32 :=
  am_r (fJ0_checkIndex_df160 a1 (Int32.ofNat (am_len.getD (o0 - 16) 0))) (fun (v1 : Unit) => am_g (¬ (a1 < 0 ∨ am_len.getD (o0 - 16) 0 ≤ a1.toNatClampNeg)) (am_g (vp_nar .char (((((am_byt.getD (o0 - 16) []).getD a1.toNatClampNeg 0) &&& (255 : Int32)).toUInt32 % 65536).toInt32) = (((((am_byt.getD (o0 - 16) []).getD a1.toNatClampNeg 0) &&& (255 : Int32)).toUInt32 % 65536).toInt32)) (some (((((am_byt.getD (o0 - 16) []).getD a1.toNatClampNeg 0) &&& (255 : Int32)).toUInt32 % 65536).toInt32))))
def kJ1_charAt_3b067 : List (Nat × Instr × Nat) := [(0, .iload_n 1, 1), (1, .aload_n 0, 1), (2, .arraylength, 1), (3, .invokestatic 9, 3), (6, .aload_n 0, 1), (7, .iload_n 1, 1), (8, .baload, 1), (9, .sipush 255, 3), (12, .iand, 1), (13, .i2c, 1), (14, .ireturn, 1)]
theorem qJ1_charAt_3b067 : ∀ q ∈ kJ1_charAt_3b067, decode mJ1_charAt_3b067.2.2.1 q.1 = .ok (q.2.1, q.2.2) ∧ am_iok mJ1_charAt_3b067.2.2.2.1 q.1 q.2.1 q.2.2 = true := by decide +kernel
set_option maxRecDepth 100000 in
theorem wJ1_charAt_3b067 : Cond.code mJ1_charAt_3b067.2.1 mJ1_charAt_3b067.2.2.1 mJ1_charAt_3b067.2.2.2.1 mJ1_charAt_3b067.2.2.2.2.1 ∈ am_T := List.mem_filter.mpr ⟨List.mem_of_getElem? (i := 580) rfl, rfl⟩
set_option maxHeartbeats 4000000 in
set_option maxRecDepth 100000 in
theorem tJ1_charAt_3b067 (l : Launch) (d : Nat) {s0 : AS} {o0 : Nat} {a1 : Int32} {rE : Int32} (hf : fJ1_charAt_3b067 s0 o0 a1 = some rE) : am_Ct l (d + 5) mJ1_charAt_3b067 [.inr (.inr ((11, 1, 0), o0)), .inl a1] s0 s0 (some (.inl rE)) := by
  refine am_sim l (d + 4) (code := kJ1_charAt_3b067) (by decide +kernel) wJ1_charAt_3b067 qJ1_charAt_3b067 (Nat.le_of_ble_eq_true rfl) ?_
  intro X hX
  show X 0 [(0, .inr (.inr ((11, 1, 0), o0))), (1, .inl a1)] [] s0
  unfold fJ1_charAt_3b067 at hf
  obtain ⟨v1, hcv1, hf⟩ := am_r_of hf
  obtain ⟨g2, hf⟩ := am_g_of hf
  obtain ⟨g3, hf⟩ := am_g_of hf
  refine am_blk hX 0 11 (And.intro rfl (And.intro rfl (Exists.intro s0 (Exists.intro none (And.intro (tJ0_checkIndex_df160 l (d + 0) hcv1) (And.intro rfl (And.intro g2 (And.intro g3 (am_rpi hf)))))))))
def fJ0_charAt_5068e (s0 : AS) (o0 : Nat) (a1 : Int32) : Option Int32 :=
  am_r (fJ0_isLatin1_aae02 s0 o0) (fun (v1 : Int32) => if v1 = 0 then (none) else (am_r (fJ1_charAt_3b067 s0 (o0 + 16) a1) (fun (v2 : Int32) => am_g (vp_nar .char v2 = v2) (some v2))))
def kJ0_charAt_5068e : List (Nat × Instr × Nat) := [(0, .aload_n 0, 1), (1, .invokevirtual 492, 3), (4, .ifCond .eq 12, 3), (7, .aload_n 0, 1), (8, .getfield 9, 3), (11, .iload_n 1, 1), (12, .invokestatic 495, 3), (15, .ireturn, 1), (16, .aload_n 0, 1), (17, .getfield 9, 3), (20, .iload_n 1, 1), (21, .invokestatic 498, 3), (24, .ireturn, 1)]
theorem qJ0_charAt_5068e : ∀ q ∈ kJ0_charAt_5068e, decode mJ0_charAt_5068e.2.2.1 q.1 = .ok (q.2.1, q.2.2) ∧ am_iok mJ0_charAt_5068e.2.2.2.1 q.1 q.2.1 q.2.2 = true := by decide +kernel
set_option maxRecDepth 100000 in
theorem wJ0_charAt_5068e : Cond.code mJ0_charAt_5068e.2.1 mJ0_charAt_5068e.2.2.1 mJ0_charAt_5068e.2.2.2.1 mJ0_charAt_5068e.2.2.2.2.1 ∈ am_T := List.mem_filter.mpr ⟨List.mem_of_getElem? (i := 573) rfl, rfl⟩
set_option maxHeartbeats 4000000 in
set_option maxRecDepth 100000 in
theorem tJ0_charAt_5068e (l : Launch) (d : Nat) {s0 : AS} {o0 : Nat} {a1 : Int32} {rE : Int32} (hf : fJ0_charAt_5068e s0 o0 a1 = some rE) : am_Ct l (d + 6) mJ0_charAt_5068e [.inr (.inr ((11, 0, 0), o0)), .inl a1] s0 s0 (some (.inl rE)) := by
  refine am_sim l (d + 5) (code := kJ0_charAt_5068e) (by decide +kernel) wJ0_charAt_5068e qJ0_charAt_5068e (Nat.le_of_ble_eq_true rfl) ?_
  intro X hX
  show X 0 [(0, .inr (.inr ((11, 0, 0), o0))), (1, .inl a1)] [] s0
  unfold fJ0_charAt_5068e at hf
  obtain ⟨v1, hcv1, hf⟩ := am_r_of hf
  refine am_blk hX 0 3 (And.intro rfl (And.intro rfl (Exists.intro s0 (Exists.intro (some (.inl v1)) (And.intro (tJ0_isLatin1_aae02 l (d + 4) hcv1) (And.intro (fun hb => ?_) (fun hb => ?_)))))))
  · have hf := am_it hf hb
    show X 16 [(0, .inr (.inr ((11, 0, 0), o0))), (1, .inl a1)] [] s0
    exact am_no hf
  · have hf := am_if hf hb
    show X 7 [(0, .inr (.inr ((11, 0, 0), o0))), (1, .inl a1)] [] s0
    obtain ⟨v2, hcv2, hf⟩ := am_r_of hf
    obtain ⟨g3, hf⟩ := am_g_of hf
    refine am_blk hX 3 5 (And.intro rfl (And.intro rfl (Exists.intro s0 (Exists.intro (some (.inl v2)) (And.intro (tJ1_charAt_3b067 l (d + 0) hcv2) (And.intro g3 (am_rpi hf)))))))
def fJ0_coder_7d493 (s0 : AS) (o0 : Nat) : Option Int32 :=
  am_let (fun (x1 : Int32) => am_g (vp_nar .byte x1 = x1) (some x1)) (fun J14 => if (1 : Int32) = 0 then (J14 (1 : Int32)) else (J14 (0 : Int32)))
def kJ0_coder_7d493 : List (Nat × Instr × Nat) := [(0, .getstatic 38, 3), (3, .ifCond .eq 10, 3), (6, .aload_n 0, 1), (7, .getfield 15, 3), (10, .goto 4, 3), (13, .iconst 1, 1), (14, .ireturn, 1)]
theorem qJ0_coder_7d493 : ∀ q ∈ kJ0_coder_7d493, decode mJ0_coder_7d493.2.2.1 q.1 = .ok (q.2.1, q.2.2) ∧ am_iok mJ0_coder_7d493.2.2.2.1 q.1 q.2.1 q.2.2 = true := by decide +kernel
set_option maxRecDepth 100000 in
theorem wJ0_coder_7d493 : Cond.code mJ0_coder_7d493.2.1 mJ0_coder_7d493.2.2.1 mJ0_coder_7d493.2.2.2.1 mJ0_coder_7d493.2.2.2.2.1 ∈ am_T := List.mem_filter.mpr ⟨List.mem_of_getElem? (i := 567) rfl, rfl⟩
set_option maxHeartbeats 4000000 in
set_option maxRecDepth 100000 in
theorem tJ0_coder_7d493 (l : Launch) (d : Nat) {s0 : AS} {o0 : Nat} {rE : Int32} (hf : fJ0_coder_7d493 s0 o0 = some rE) : am_Ct l (d + 1) mJ0_coder_7d493 [.inr (.inr ((11, 0, 0), o0))] s0 s0 (some (.inl rE)) := by
  refine am_sim l (d + 0) (code := kJ0_coder_7d493) (by decide +kernel) wJ0_coder_7d493 qJ0_coder_7d493 (Nat.le_of_ble_eq_true rfl) ?_
  intro X hX
  show X 0 [(0, .inr (.inr ((11, 0, 0), o0)))] [] s0
  unfold fJ0_coder_7d493 at hf
  refine am_jn hf (fun J14 => ∀ (x1 : Int32), J14 x1 = some rE → X 14 [] [.inl x1] s0) ?_ ?_
  · intro x1 hf
    obtain ⟨g2, hf⟩ := am_g_of hf
    refine am_blk hX 6 1 (And.intro g2 (am_rpi hf))
  · intro J14 hJ14 hf
    refine am_blk hX 0 2 (And.intro rfl (And.intro (fun hb => ?_) (fun hb => ?_)))
    · have hf := am_it hf hb
      show X 13 [(0, .inr (.inr ((11, 0, 0), o0)))] [] s0
      refine am_blk hX 5 1 (?_)
      show X 14 [(0, .inr (.inr ((11, 0, 0), o0)))] [.inl (1 : Int32)] s0
      exact am_wk hX [] (hJ14 (1 : Int32) hf)
    · have hf := am_if hf hb
      show X 6 [(0, .inr (.inr ((11, 0, 0), o0)))] [] s0
      refine am_blk hX 2 3 (And.intro rfl (?_))
      show X 14 [(0, .inr (.inr ((11, 0, 0), o0)))] [.inl (0 : Int32)] s0
      exact am_wk hX [] (hJ14 (0 : Int32) hf)
def fJ0_length_8abf5 (s0 : AS) (o0 : Nat) : Option Int32 :=
  am_r (fJ0_coder_7d493 s0 o0) (fun (v1 : Int32) => some ((Int32.ofNat (am_len.getD (o0 + 16 - 16) 0)) >>> (v1 &&& 31)))
def kJ0_length_8abf5 : List (Nat × Instr × Nat) := [(0, .aload_n 0, 1), (1, .getfield 9, 3), (4, .arraylength, 1), (5, .aload_n 0, 1), (6, .invokevirtual 335, 3), (9, .ishr, 1), (10, .ireturn, 1)]
theorem qJ0_length_8abf5 : ∀ q ∈ kJ0_length_8abf5, decode mJ0_length_8abf5.2.2.1 q.1 = .ok (q.2.1, q.2.2) ∧ am_iok mJ0_length_8abf5.2.2.2.1 q.1 q.2.1 q.2.2 = true := by decide +kernel
set_option maxRecDepth 100000 in
theorem wJ0_length_8abf5 : Cond.code mJ0_length_8abf5.2.1 mJ0_length_8abf5.2.2.1 mJ0_length_8abf5.2.2.2.1 mJ0_length_8abf5.2.2.2.2.1 ∈ am_T := List.mem_filter.mpr ⟨List.mem_of_getElem? (i := 563) rfl, rfl⟩
set_option maxHeartbeats 4000000 in
set_option maxRecDepth 100000 in
theorem tJ0_length_8abf5 (l : Launch) (d : Nat) {s0 : AS} {o0 : Nat} {rE : Int32} (hf : fJ0_length_8abf5 s0 o0 = some rE) : am_Ct l (d + 2) mJ0_length_8abf5 [.inr (.inr ((11, 0, 0), o0))] s0 s0 (some (.inl rE)) := by
  refine am_sim l (d + 1) (code := kJ0_length_8abf5) (by decide +kernel) wJ0_length_8abf5 qJ0_length_8abf5 (Nat.le_of_ble_eq_true rfl) ?_
  intro X hX
  show X 0 [(0, .inr (.inr ((11, 0, 0), o0)))] [] s0
  unfold fJ0_length_8abf5 at hf
  obtain ⟨v1, hcv1, hf⟩ := am_r_of hf
  refine am_blk hX 0 7 (And.intro rfl (And.intro rfl (And.intro rfl (And.intro rfl (Exists.intro s0 (Exists.intro (some (.inl v1)) (And.intro (tJ0_coder_7d493 l (d + 0) hcv1) (am_rpi hf))))))))
def fJ6_bitCount_0f7a4 (a0 : Int32) : Option Int32 :=
  am_let (a0 - ((am_sh32 a0 (1 : Int32)) &&& (1431655765 : Int32))) (fun (x1 : Int32) => am_let ((x1 &&& (858993459 : Int32)) + ((am_sh32 x1 (2 : Int32)) &&& (858993459 : Int32))) (fun (x2 : Int32) => am_let ((x2 + (am_sh32 x2 (4 : Int32))) &&& (252645135 : Int32)) (fun (x3 : Int32) => am_let (x3 + (am_sh32 x3 (8 : Int32))) (fun (x4 : Int32) => am_let (x4 + (am_sh32 x4 (16 : Int32))) (fun (x5 : Int32) => some (x5 &&& (63 : Int32)))))))
def kJ6_bitCount_0f7a4 : List (Nat × Instr × Nat) := [(0, .iload_n 0, 1), (1, .iload_n 0, 1), (2, .iconst 1, 1), (3, .iushr, 1), (4, .ldc_w 265, 3), (7, .iand, 1), (8, .isub, 1), (9, .istore_n 0, 1), (10, .iload_n 0, 1), (11, .ldc_w 266, 3), (14, .iand, 1), (15, .iload_n 0, 1), (16, .iconst 2, 1), (17, .iushr, 1), (18, .ldc_w 266, 3), (21, .iand, 1), (22, .iadd, 1), (23, .istore_n 0, 1), (24, .iload_n 0, 1), (25, .iload_n 0, 1), (26, .iconst 4, 1), (27, .iushr, 1), (28, .iadd, 1), (29, .ldc_w 267, 3), (32, .iand, 1), (33, .istore_n 0, 1), (34, .iload_n 0, 1), (35, .iload_n 0, 1), (36, .bipush 8, 2), (38, .iushr, 1), (39, .iadd, 1), (40, .istore_n 0, 1), (41, .iload_n 0, 1), (42, .iload_n 0, 1), (43, .bipush 16, 2), (45, .iushr, 1), (46, .iadd, 1), (47, .istore_n 0, 1), (48, .iload_n 0, 1), (49, .bipush 63, 2), (51, .iand, 1), (52, .ireturn, 1)]
theorem qJ6_bitCount_0f7a4 : ∀ q ∈ kJ6_bitCount_0f7a4, decode mJ6_bitCount_0f7a4.2.2.1 q.1 = .ok (q.2.1, q.2.2) ∧ am_iok mJ6_bitCount_0f7a4.2.2.2.1 q.1 q.2.1 q.2.2 = true := by decide +kernel
set_option maxRecDepth 100000 in
theorem wJ6_bitCount_0f7a4 : Cond.code mJ6_bitCount_0f7a4.2.1 mJ6_bitCount_0f7a4.2.2.1 mJ6_bitCount_0f7a4.2.2.2.1 mJ6_bitCount_0f7a4.2.2.2.2.1 ∈ am_T := List.mem_filter.mpr ⟨List.mem_of_getElem? (i := 772) rfl, rfl⟩
set_option maxHeartbeats 4000000 in
set_option maxRecDepth 100000 in
theorem tJ6_bitCount_0f7a4 (l : Launch) (d : Nat) {s0 : AS} {a0 : Int32} {rE : Int32} (hf : fJ6_bitCount_0f7a4 a0 = some rE) : am_Ct l (d + 1) mJ6_bitCount_0f7a4 [.inl a0] s0 s0 (some (.inl rE)) := by
  refine am_sim l (d + 0) (code := kJ6_bitCount_0f7a4) (by decide +kernel) wJ6_bitCount_0f7a4 qJ6_bitCount_0f7a4 (Nat.le_of_ble_eq_true rfl) ?_
  intro X hX
  show X 0 [(0, .inl a0)] [] s0
  unfold fJ6_bitCount_0f7a4 at hf
  refine am_blk hX 0 8 (am_nl (Z := fun x1 => X 10 [(0, .inl x1)] [] s0) hf (fun x1 hf => ?_))
  refine am_blk hX 8 10 (am_nl (Z := fun x2 => X 24 [(0, .inl x2)] [] s0) hf (fun x2 hf => ?_))
  refine am_blk hX 18 8 (am_nl (Z := fun x3 => X 34 [(0, .inl x3)] [] s0) hf (fun x3 hf => ?_))
  refine am_blk hX 26 6 (am_nl (Z := fun x4 => X 41 [(0, .inl x4)] [] s0) hf (fun x4 hf => ?_))
  refine am_blk hX 32 6 (am_nl (Z := fun x5 => X 48 [(0, .inl x5)] [] s0) hf (fun x5 hf => ?_))
  refine am_blk hX 38 4 (am_rpi hf)
def fJ7_fill_53178_L5 (o0 : Nat) (n0 : Nat) (a1 : Int32) (x1 : Int32) : Nat → AS → Int32 → Option (AS × Unit)
  | 0, _, _ => none
  | n5 + 1, s2, x3 =>
    if x1 ≤ x3 then (some (s2, ())) else (am_g (¬ (x3 < 0 ∨ n0 ≤ x3.toNatClampNeg)) (am_let (am_si s2 o0 (x3.toNatClampNeg) a1) (fun (s5 : AS) => am_let (x3 + (1 : Int32)) (fun (x6 : Int32) => fJ7_fill_53178_L5 o0 n0 a1 x1 n5 s5 x6))))
def fJ7_fill_53178 (s0 : AS) (o0 : Nat) (n0 : Nat) (a1 : Int32) : Option (AS × Unit) :=
  am_let (Int32.ofNat n0) (fun (x1 : Int32) => fJ7_fill_53178_L5 o0 n0 a1 x1 am_fu s0 (0 : Int32))
def kJ7_fill_53178 : List (Nat × Instr × Nat) := [(0, .iconst 0, 1), (1, .istore_n 2, 1), (2, .aload_n 0, 1), (3, .arraylength, 1), (4, .istore_n 3, 1), (5, .iload_n 2, 1), (6, .iload_n 3, 1), (7, .if_icmp .ge 13, 3), (10, .aload_n 0, 1), (11, .iload_n 2, 1), (12, .iload_n 1, 1), (13, .iastore, 1), (14, .iinc 2 1, 3), (17, .goto (-12), 3), (20, .return_, 1)]
theorem qJ7_fill_53178 : ∀ q ∈ kJ7_fill_53178, decode mJ7_fill_53178.2.2.1 q.1 = .ok (q.2.1, q.2.2) ∧ am_iok mJ7_fill_53178.2.2.2.1 q.1 q.2.1 q.2.2 = true := by decide +kernel
set_option maxRecDepth 100000 in
theorem wJ7_fill_53178 : Cond.code mJ7_fill_53178.2.1 mJ7_fill_53178.2.2.1 mJ7_fill_53178.2.2.2.1 mJ7_fill_53178.2.2.2.2.1 ∈ am_T := List.mem_filter.mpr ⟨List.mem_of_getElem? (i := 534) rfl, rfl⟩
set_option maxHeartbeats 4000000 in
set_option maxRecDepth 100000 in
theorem tJ7_fill_53178 (l : Launch) (d : Nat) {s0 : AS} {o0 : Nat} {n0 : Nat} {a1 : Int32} {sE : AS} {rE : Unit} (hf : fJ7_fill_53178 s0 o0 n0 a1 = some (sE, rE)) : am_Ct l (d + 1) mJ7_fill_53178 [.inr (.inr ((21, n0, 0), o0)), .inl a1] s0 sE none := by
  refine am_sim l (d + 0) (code := kJ7_fill_53178) (by decide +kernel) wJ7_fill_53178 qJ7_fill_53178 (Nat.le_of_ble_eq_true rfl) ?_
  intro X hX
  show X 0 [(0, .inr (.inr ((21, n0, 0), o0))), (1, .inl a1)] [] s0
  unfold fJ7_fill_53178 at hf
  refine am_blk hX 0 5 (And.intro (Or.inr (Or.inl rfl)) (am_nl (Z := fun x1 => X 5 [(3, .inl x1), (2, .inl (0 : Int32)), (0, .inr (.inr ((21, n0, 0), o0))), (1, .inl a1)] [] s0) hf (fun x1 hf => ?_)))
  have hL5 : ∀ (n5 : Nat) (s2 : AS) (x3 : Int32), fJ7_fill_53178_L5 o0 n0 a1 x1 n5 s2 x3 = some (sE, rE) → X 5 [(0, .inr (.inr ((21, n0, 0), o0))), (1, .inl a1), (2, .inl x3), (3, .inl x1)] [] s2 := by
    intro n5
    induction n5 with
    | zero => intro s2 x3 hf; exact am_no (show none = some _ from hf)
    | succ n5 ih5 =>
      intro s2 x3 hf
      refine am_blk hX 5 3 (And.intro (fun hb => ?_) (fun hb => ?_))
      · have hf := am_it hf hb
        show X 20 [(0, .inr (.inr ((21, n0, 0), o0))), (1, .inl a1), (2, .inl x3), (3, .inl x1)] [] s2
        refine am_blk hX 14 1 (And.intro rfl (am_rv hf))
      · have hf := am_if hf hb
        show X 10 [(0, .inr (.inr ((21, n0, 0), o0))), (1, .inl a1), (2, .inl x3), (3, .inl x1)] [] s2
        obtain ⟨g4, hf⟩ := am_g_of hf
        refine am_blk hX 8 4 (And.intro rfl (And.intro g4 (am_nl (Z := fun s5 => X 14 [(0, .inr (.inr ((21, n0, 0), o0))), (1, .inl a1), (2, .inl x3), (3, .inl x1)] [] s5) hf (fun s5 hf => ?_))))
        refine am_blk hX 12 1 (am_nl (Z := fun x6 => X 17 [(2, .inl x6), (0, .inr (.inr ((21, n0, 0), o0))), (1, .inl a1), (3, .inl x1)] [] s5) hf (fun x6 hf => ?_))
        refine am_blk hX 13 1 (?_)
        show X 5 [(2, .inl x6), (0, .inr (.inr ((21, n0, 0), o0))), (1, .inl a1), (3, .inl x1)] [] s5
        exact am_wk hX [1, 2, 0, 3] (ih5 s5 x6 hf)
  exact am_wk hX [2, 3, 1, 0] (hL5 am_fu s0 (0 : Int32) hf)
def fJ7_fill_d0a16_L6 (o0 : Nat) (n0 : Nat) (a1 : Int64) (x1 : Int32) : Nat → AS → Int32 → Option (AS × Unit)
  | 0, _, _ => none
  | n6 + 1, s2, x3 =>
    if x1 ≤ x3 then (some (s2, ())) else (am_g (¬ (x3 < 0 ∨ n0 ≤ x3.toNatClampNeg)) (am_let (am_sj s2 o0 (x3.toNatClampNeg) a1) (fun (s5 : AS) => am_let (x3 + (1 : Int32)) (fun (x6 : Int32) => fJ7_fill_d0a16_L6 o0 n0 a1 x1 n6 s5 x6))))
def fJ7_fill_d0a16 (s0 : AS) (o0 : Nat) (n0 : Nat) (a1 : Int64) : Option (AS × Unit) :=
  am_let (Int32.ofNat n0) (fun (x1 : Int32) => fJ7_fill_d0a16_L6 o0 n0 a1 x1 am_fu s0 (0 : Int32))
def kJ7_fill_d0a16 : List (Nat × Instr × Nat) := [(0, .iconst 0, 1), (1, .istore_n 3, 1), (2, .aload_n 0, 1), (3, .arraylength, 1), (4, .istore 4, 2), (6, .iload_n 3, 1), (7, .iload 4, 2), (9, .if_icmp .ge 13, 3), (12, .aload_n 0, 1), (13, .iload_n 3, 1), (14, .lload_n 1, 1), (15, .lastore, 1), (16, .iinc 3 1, 3), (19, .goto (-13), 3), (22, .return_, 1)]
theorem qJ7_fill_d0a16 : ∀ q ∈ kJ7_fill_d0a16, decode mJ7_fill_d0a16.2.2.1 q.1 = .ok (q.2.1, q.2.2) ∧ am_iok mJ7_fill_d0a16.2.2.2.1 q.1 q.2.1 q.2.2 = true := by decide +kernel
set_option maxRecDepth 100000 in
theorem wJ7_fill_d0a16 : Cond.code mJ7_fill_d0a16.2.1 mJ7_fill_d0a16.2.2.1 mJ7_fill_d0a16.2.2.2.1 mJ7_fill_d0a16.2.2.2.2.1 ∈ am_T := List.mem_filter.mpr ⟨List.mem_of_getElem? (i := 1272) rfl, rfl⟩
set_option maxHeartbeats 4000000 in
set_option maxRecDepth 100000 in
theorem tJ7_fill_d0a16 (l : Launch) (d : Nat) {s0 : AS} {o0 : Nat} {n0 : Nat} {a1 : Int64} {sE : AS} {rE : Unit} (hf : fJ7_fill_d0a16 s0 o0 n0 a1 = some (sE, rE)) : am_Ct l (d + 1) mJ7_fill_d0a16 [.inr (.inr ((22, n0, 0), o0)), .inr (.inl a1)] s0 sE none := by
  refine am_sim l (d + 0) (code := kJ7_fill_d0a16) (by decide +kernel) wJ7_fill_d0a16 qJ7_fill_d0a16 (Nat.le_of_ble_eq_true rfl) ?_
  intro X hX
  show X 0 [(0, .inr (.inr ((22, n0, 0), o0))), (1, .inr (.inl a1))] [] s0
  unfold fJ7_fill_d0a16 at hf
  refine am_blk hX 0 5 (And.intro (Or.inr (Or.inr rfl)) (am_nl (Z := fun x1 => X 6 [(4, .inl x1), (3, .inl (0 : Int32)), (0, .inr (.inr ((22, n0, 0), o0))), (1, .inr (.inl a1))] [] s0) hf (fun x1 hf => ?_)))
  have hL6 : ∀ (n6 : Nat) (s2 : AS) (x3 : Int32), fJ7_fill_d0a16_L6 o0 n0 a1 x1 n6 s2 x3 = some (sE, rE) → X 6 [(0, .inr (.inr ((22, n0, 0), o0))), (1, .inr (.inl a1)), (3, .inl x3), (4, .inl x1)] [] s2 := by
    intro n6
    induction n6 with
    | zero => intro s2 x3 hf; exact am_no (show none = some _ from hf)
    | succ n6 ih6 =>
      intro s2 x3 hf
      refine am_blk hX 5 3 (And.intro (fun hb => ?_) (fun hb => ?_))
      · have hf := am_it hf hb
        show X 22 [(0, .inr (.inr ((22, n0, 0), o0))), (1, .inr (.inl a1)), (3, .inl x3), (4, .inl x1)] [] s2
        refine am_blk hX 14 1 (And.intro rfl (am_rv hf))
      · have hf := am_if hf hb
        show X 12 [(0, .inr (.inr ((22, n0, 0), o0))), (1, .inr (.inl a1)), (3, .inl x3), (4, .inl x1)] [] s2
        obtain ⟨g4, hf⟩ := am_g_of hf
        refine am_blk hX 8 4 (And.intro rfl (And.intro g4 (am_nl (Z := fun s5 => X 16 [(0, .inr (.inr ((22, n0, 0), o0))), (1, .inr (.inl a1)), (3, .inl x3), (4, .inl x1)] [] s5) hf (fun s5 hf => ?_))))
        refine am_blk hX 12 1 (am_nl (Z := fun x6 => X 19 [(3, .inl x6), (0, .inr (.inr ((22, n0, 0), o0))), (1, .inr (.inl a1)), (4, .inl x1)] [] s5) hf (fun x6 hf => ?_))
        refine am_blk hX 13 1 (?_)
        show X 6 [(3, .inl x6), (0, .inr (.inr ((22, n0, 0), o0))), (1, .inr (.inl a1)), (4, .inl x1)] [] s5
        exact am_wk hX [1, 2, 0, 3] (ih6 s5 x6 hf)
  exact am_wk hX [2, 3, 1, 0] (hL6 am_fu s0 (0 : Int32) hf)
def fX0_clear (s0 : AS) (o0 : Nat) : Option (AS × Unit) :=
  am_let (am_si s0 o0 0 (0 : Int32)) (fun (s1 : AS) => am_let (am_si s1 o0 1 (0 : Int32)) (fun (s2 : AS) => am_let (am_si s2 o0 2 (0 : Int32)) (fun (s3 : AS) => some (s3, ()))))
def kX0_clear : List (Nat × Instr × Nat) := [(0, .aload_n 0, 1), (1, .iconst 0, 1), (2, .putfield 18, 3), (5, .aload_n 0, 1), (6, .iconst 0, 1), (7, .putfield 22, 3), (10, .aload_n 0, 1), (11, .iconst 0, 1), (12, .putfield 25, 3), (15, .return_, 1)]
theorem qX0_clear : ∀ q ∈ kX0_clear, decode mX0_clear.2.2.1 q.1 = .ok (q.2.1, q.2.2) ∧ am_iok mX0_clear.2.2.2.1 q.1 q.2.1 q.2.2 = true := by decide +kernel
set_option maxRecDepth 100000 in
theorem wX0_clear : Cond.code mX0_clear.2.1 mX0_clear.2.2.1 mX0_clear.2.2.2.1 mX0_clear.2.2.2.2.1 ∈ am_T := List.mem_filter.mpr ⟨List.mem_of_getElem? (i := 668) rfl, rfl⟩
set_option maxHeartbeats 4000000 in
set_option maxRecDepth 100000 in
theorem tX0_clear (l : Launch) (d : Nat) {s0 : AS} {o0 : Nat} {sE : AS} {rE : Unit} (hf : fX0_clear s0 o0 = some (sE, rE)) : am_Ct l (d + 1) mX0_clear [.inr (.inr ((1, 0, 0), o0))] s0 sE none := by
  refine am_sim l (d + 0) (code := kX0_clear) (by decide +kernel) wX0_clear qX0_clear (Nat.le_of_ble_eq_true rfl) ?_
  intro X hX
  show X 0 [(0, .inr (.inr ((1, 0, 0), o0)))] [] s0
  unfold fX0_clear at hf
  refine am_blk hX 0 3 (And.intro rfl (am_nl (Z := fun s1 => X 5 [(0, .inr (.inr ((1, 0, 0), o0)))] [] s1) hf (fun s1 hf => ?_)))
  refine am_blk hX 3 3 (And.intro rfl (am_nl (Z := fun s2 => X 10 [(0, .inr (.inr ((1, 0, 0), o0)))] [] s2) hf (fun s2 hf => ?_)))
  refine am_blk hX 6 3 (And.intro rfl (am_nl (Z := fun s3 => X 15 [(0, .inr (.inr ((1, 0, 0), o0)))] [] s3) hf (fun s3 hf => ?_)))
  refine am_blk hX 9 1 (And.intro rfl (am_rv hf))
def fX0_keep (s0 : AS) (o0 : Nat) : Option (AS × Unit) :=
  am_let (fun (s1 : AS) => some (s1, ())) (fun J45 => if (40 : Int32) ≤ (s0.1 o0 0) then (J45 s0) else (am_g (¬ ((s0.1 o0 0) < 0 ∨ 40 ≤ (s0.1 o0 0).toNatClampNeg)) (am_let (am_si s0 (o0 + 1) ((s0.1 o0 0).toNatClampNeg) (s0.1 o0 1)) (fun (s3 : AS) => am_g (¬ ((s3.1 o0 0) < 0 ∨ 40 ≤ (s3.1 o0 0).toNatClampNeg)) (am_let (am_si s3 (o0 + 2) ((s3.1 o0 0).toNatClampNeg) (s3.1 o0 2)) (fun (s5 : AS) => am_let (am_si s5 o0 0 ((s5.1 o0 0) + (1 : Int32))) (fun (s6 : AS) => J45 s6)))))))
def kX0_keep : List (Nat × Instr × Nat) := [(0, .aload_n 0, 1), (1, .getfield 18, 3), (4, .bipush 40, 2), (6, .if_icmp .ge 39, 3), (9, .aload_n 0, 1), (10, .getfield 9, 3), (13, .aload_n 0, 1), (14, .getfield 18, 3), (17, .aload_n 0, 1), (18, .getfield 22, 3), (21, .iastore, 1), (22, .aload_n 0, 1), (23, .getfield 15, 3), (26, .aload_n 0, 1), (27, .getfield 18, 3), (30, .aload_n 0, 1), (31, .getfield 25, 3), (34, .iastore, 1), (35, .aload_n 0, 1), (36, .dup, 1), (37, .getfield 18, 3), (40, .iconst 1, 1), (41, .iadd, 1), (42, .putfield 18, 3), (45, .return_, 1)]
theorem qX0_keep : ∀ q ∈ kX0_keep, decode mX0_keep.2.2.1 q.1 = .ok (q.2.1, q.2.2) ∧ am_iok mX0_keep.2.2.2.1 q.1 q.2.1 q.2.2 = true := by decide +kernel
set_option maxRecDepth 100000 in
theorem wX0_keep : Cond.code mX0_keep.2.1 mX0_keep.2.2.1 mX0_keep.2.2.2.1 mX0_keep.2.2.2.2.1 ∈ am_T := List.mem_filter.mpr ⟨List.mem_of_getElem? (i := 1216) rfl, rfl⟩
set_option maxHeartbeats 4000000 in
set_option maxRecDepth 100000 in
theorem tX0_keep (l : Launch) (d : Nat) {s0 : AS} {o0 : Nat} {sE : AS} {rE : Unit} (hf : fX0_keep s0 o0 = some (sE, rE)) : am_Ct l (d + 1) mX0_keep [.inr (.inr ((1, 0, 0), o0))] s0 sE none := by
  refine am_sim l (d + 0) (code := kX0_keep) (by decide +kernel) wX0_keep qX0_keep (Nat.le_of_ble_eq_true rfl) ?_
  intro X hX
  show X 0 [(0, .inr (.inr ((1, 0, 0), o0)))] [] s0
  unfold fX0_keep at hf
  refine am_jn hf (fun J45 => ∀ (s1 : AS), J45 s1 = some (sE, rE) → X 45 [] [] s1) ?_ ?_
  · intro s1 hf
    refine am_blk hX 24 1 (And.intro rfl (am_rv hf))
  · intro J45 hJ45 hf
    refine am_blk hX 0 4 (And.intro rfl (And.intro (fun hb => ?_) (fun hb => ?_)))
    · have hf := am_it hf hb
      show X 45 [(0, .inr (.inr ((1, 0, 0), o0)))] [] s0
      exact am_wk hX [] (hJ45 s0 hf)
    · have hf := am_if hf hb
      show X 9 [(0, .inr (.inr ((1, 0, 0), o0)))] [] s0
      obtain ⟨g2, hf⟩ := am_g_of hf
      refine am_blk hX 4 7 (And.intro rfl (And.intro rfl (And.intro rfl (And.intro rfl (And.intro g2 (am_nl (Z := fun s3 => X 22 [(0, .inr (.inr ((1, 0, 0), o0)))] [] s3) hf (fun s3 hf => ?_)))))))
      obtain ⟨g4, hf⟩ := am_g_of hf
      refine am_blk hX 11 7 (And.intro rfl (And.intro rfl (And.intro rfl (And.intro rfl (And.intro g4 (am_nl (Z := fun s5 => X 35 [(0, .inr (.inr ((1, 0, 0), o0)))] [] s5) hf (fun s5 hf => ?_)))))))
      refine am_blk hX 18 6 (And.intro rfl (And.intro rfl (am_nl (Z := fun s6 => X 45 [(0, .inr (.inr ((1, 0, 0), o0)))] [] s6) hf (fun s6 hf => ?_))))
      exact am_wk hX [] (hJ45 s6 hf)
def fX0_take (s0 : AS) (o0 : Nat) (o1 : Nat) : Option (AS × Unit) :=
  am_let (am_si s0 o0 0 (s0.1 o1 0)) (fun (s1 : AS) => am_let (am_si s1 o0 1 (s1.1 o1 1)) (fun (s2 : AS) => am_let (am_si s2 o0 2 (s2.1 o1 2)) (fun (s3 : AS) => am_g (¬ (0 : Int32) < 0 ∧ ¬ (0 : Int32) < 0 ∧ ¬ (40 : Int32) < 0 ∧ (0 : Int32).toNatClampNeg + (40 : Int32).toNatClampNeg ≤ 40 ∧ (0 : Int32).toNatClampNeg + (40 : Int32).toNatClampNeg ≤ 40) (am_let (am_sr s3 (o0 + 1) (va_cpy (s3.1 (o1 + 1)) (s3.1 (o0 + 1)) (0 : Int32).toNatClampNeg (0 : Int32).toNatClampNeg (40 : Int32).toNatClampNeg)) (fun (s5 : AS) => am_g (¬ (0 : Int32) < 0 ∧ ¬ (0 : Int32) < 0 ∧ ¬ (40 : Int32) < 0 ∧ (0 : Int32).toNatClampNeg + (40 : Int32).toNatClampNeg ≤ 40 ∧ (0 : Int32).toNatClampNeg + (40 : Int32).toNatClampNeg ≤ 40) (am_let (am_sr s5 (o0 + 2) (va_cpy (s5.1 (o1 + 2)) (s5.1 (o0 + 2)) (0 : Int32).toNatClampNeg (0 : Int32).toNatClampNeg (40 : Int32).toNatClampNeg)) (fun (s7 : AS) => some (s7, ()))))))))
def kX0_take : List (Nat × Instr × Nat) := [(0, .aload_n 0, 1), (1, .aload_n 1, 1), (2, .getfield 18, 3), (5, .putfield 18, 3), (8, .aload_n 0, 1), (9, .aload_n 1, 1), (10, .getfield 22, 3), (13, .putfield 22, 3), (16, .aload_n 0, 1), (17, .aload_n 1, 1), (18, .getfield 25, 3), (21, .putfield 25, 3), (24, .aload_n 1, 1), (25, .getfield 9, 3), (28, .iconst 0, 1), (29, .aload_n 0, 1), (30, .getfield 9, 3), (33, .iconst 0, 1), (34, .bipush 40, 2), (36, .invokestatic 28, 3), (39, .aload_n 1, 1), (40, .getfield 15, 3), (43, .iconst 0, 1), (44, .aload_n 0, 1), (45, .getfield 15, 3), (48, .iconst 0, 1), (49, .bipush 40, 2), (51, .invokestatic 28, 3), (54, .return_, 1)]
theorem qX0_take : ∀ q ∈ kX0_take, decode mX0_take.2.2.1 q.1 = .ok (q.2.1, q.2.2) ∧ am_iok mX0_take.2.2.2.1 q.1 q.2.1 q.2.2 = true := by decide +kernel
set_option maxRecDepth 100000 in
theorem wX0_take : Cond.code mX0_take.2.1 mX0_take.2.2.1 mX0_take.2.2.2.1 mX0_take.2.2.2.2.1 ∈ am_T := List.mem_filter.mpr ⟨List.mem_of_getElem? (i := 1256) rfl, rfl⟩
set_option maxHeartbeats 4000000 in
set_option maxRecDepth 100000 in
theorem tX0_take (l : Launch) (d : Nat) {s0 : AS} {o0 : Nat} {o1 : Nat} {sE : AS} {rE : Unit} (hf : fX0_take s0 o0 o1 = some (sE, rE)) : am_Ct l (d + 1) mX0_take [.inr (.inr ((1, 0, 0), o0)), .inr (.inr ((1, 0, 0), o1))] s0 sE none := by
  refine am_sim l (d + 0) (code := kX0_take) (by decide +kernel) wX0_take qX0_take (Nat.le_of_ble_eq_true rfl) ?_
  intro X hX
  show X 0 [(0, .inr (.inr ((1, 0, 0), o0))), (1, .inr (.inr ((1, 0, 0), o1)))] [] s0
  unfold fX0_take at hf
  refine am_blk hX 0 4 (And.intro rfl (And.intro rfl (am_nl (Z := fun s1 => X 8 [(0, .inr (.inr ((1, 0, 0), o0))), (1, .inr (.inr ((1, 0, 0), o1)))] [] s1) hf (fun s1 hf => ?_))))
  refine am_blk hX 4 4 (And.intro rfl (And.intro rfl (am_nl (Z := fun s2 => X 16 [(0, .inr (.inr ((1, 0, 0), o0))), (1, .inr (.inr ((1, 0, 0), o1)))] [] s2) hf (fun s2 hf => ?_))))
  refine am_blk hX 8 4 (And.intro rfl (And.intro rfl (am_nl (Z := fun s3 => X 24 [(0, .inr (.inr ((1, 0, 0), o0))), (1, .inr (.inr ((1, 0, 0), o1)))] [] s3) hf (fun s3 hf => ?_))))
  obtain ⟨g4, hf⟩ := am_g_of hf
  refine am_blk hX 12 8 (And.intro rfl (And.intro rfl (And.intro rfl (And.intro rfl (And.intro g4 (am_nl (Z := fun s5 => X 39 [(0, .inr (.inr ((1, 0, 0), o0))), (1, .inr (.inr ((1, 0, 0), o1)))] [] s5) hf (fun s5 hf => ?_)))))))
  obtain ⟨g6, hf⟩ := am_g_of hf
  refine am_blk hX 20 8 (And.intro rfl (And.intro rfl (And.intro rfl (And.intro rfl (And.intro g6 (am_nl (Z := fun s7 => X 54 [(0, .inr (.inr ((1, 0, 0), o0))), (1, .inr (.inr ((1, 0, 0), o1)))] [] s7) hf (fun s7 hf => ?_)))))))
  refine am_blk hX 28 1 (And.intro rfl (am_rv hf))
def fX0_takeBack (s0 : AS) (o0 : Nat) : Option (AS × Unit) :=
  am_let (fun (s1 : AS) => some (s1, ())) (fun J43 => if (s0.1 o0 0) ≤ 0 then (J43 s0) else (am_let (am_si s0 o0 0 ((s0.1 o0 0) - (1 : Int32))) (fun (s2 : AS) => am_g (¬ ((s2.1 o0 0) < 0 ∨ 40 ≤ (s2.1 o0 0).toNatClampNeg)) (am_let (am_si s2 o0 1 (s2.1 (o0 + 1) ((s2.1 o0 0).toNatClampNeg))) (fun (s4 : AS) => am_g (¬ ((s4.1 o0 0) < 0 ∨ 40 ≤ (s4.1 o0 0).toNatClampNeg)) (am_let (am_si s4 o0 2 (s4.1 (o0 + 2) ((s4.1 o0 0).toNatClampNeg))) (fun (s6 : AS) => J43 s6)))))))
def kX0_takeBack : List (Nat × Instr × Nat) := [(0, .aload_n 0, 1), (1, .getfield 18, 3), (4, .ifCond .le 39, 3), (7, .aload_n 0, 1), (8, .dup, 1), (9, .getfield 18, 3), (12, .iconst 1, 1), (13, .isub, 1), (14, .putfield 18, 3), (17, .aload_n 0, 1), (18, .aload_n 0, 1), (19, .getfield 9, 3), (22, .aload_n 0, 1), (23, .getfield 18, 3), (26, .iaload, 1), (27, .putfield 22, 3), (30, .aload_n 0, 1), (31, .aload_n 0, 1), (32, .getfield 15, 3), (35, .aload_n 0, 1), (36, .getfield 18, 3), (39, .iaload, 1), (40, .putfield 25, 3), (43, .return_, 1)]
theorem qX0_takeBack : ∀ q ∈ kX0_takeBack, decode mX0_takeBack.2.2.1 q.1 = .ok (q.2.1, q.2.2) ∧ am_iok mX0_takeBack.2.2.2.1 q.1 q.2.1 q.2.2 = true := by decide +kernel
set_option maxRecDepth 100000 in
theorem wX0_takeBack : Cond.code mX0_takeBack.2.1 mX0_takeBack.2.2.1 mX0_takeBack.2.2.2.1 mX0_takeBack.2.2.2.2.1 ∈ am_T := List.mem_filter.mpr ⟨List.mem_of_getElem? (i := 1240) rfl, rfl⟩
set_option maxHeartbeats 4000000 in
set_option maxRecDepth 100000 in
theorem tX0_takeBack (l : Launch) (d : Nat) {s0 : AS} {o0 : Nat} {sE : AS} {rE : Unit} (hf : fX0_takeBack s0 o0 = some (sE, rE)) : am_Ct l (d + 1) mX0_takeBack [.inr (.inr ((1, 0, 0), o0))] s0 sE none := by
  refine am_sim l (d + 0) (code := kX0_takeBack) (by decide +kernel) wX0_takeBack qX0_takeBack (Nat.le_of_ble_eq_true rfl) ?_
  intro X hX
  show X 0 [(0, .inr (.inr ((1, 0, 0), o0)))] [] s0
  unfold fX0_takeBack at hf
  refine am_jn hf (fun J43 => ∀ (s1 : AS), J43 s1 = some (sE, rE) → X 43 [] [] s1) ?_ ?_
  · intro s1 hf
    refine am_blk hX 23 1 (And.intro rfl (am_rv hf))
  · intro J43 hJ43 hf
    refine am_blk hX 0 3 (And.intro rfl (And.intro (fun hb => ?_) (fun hb => ?_)))
    · have hf := am_it hf hb
      show X 43 [(0, .inr (.inr ((1, 0, 0), o0)))] [] s0
      exact am_wk hX [] (hJ43 s0 hf)
    · have hf := am_if hf hb
      show X 7 [(0, .inr (.inr ((1, 0, 0), o0)))] [] s0
      refine am_blk hX 3 6 (And.intro rfl (And.intro rfl (am_nl (Z := fun s2 => X 17 [(0, .inr (.inr ((1, 0, 0), o0)))] [] s2) hf (fun s2 hf => ?_))))
      obtain ⟨g3, hf⟩ := am_g_of hf
      refine am_blk hX 9 7 (And.intro rfl (And.intro rfl (And.intro rfl (And.intro g3 (And.intro rfl (am_nl (Z := fun s4 => X 30 [(0, .inr (.inr ((1, 0, 0), o0)))] [] s4) hf (fun s4 hf => ?_)))))))
      obtain ⟨g5, hf⟩ := am_g_of hf
      refine am_blk hX 16 7 (And.intro rfl (And.intro rfl (And.intro rfl (And.intro g5 (And.intro rfl (am_nl (Z := fun s6 => X 43 [(0, .inr (.inr ((1, 0, 0), o0)))] [] s6) hf (fun s6 hf => ?_)))))))
      exact am_wk hX [] (hJ43 s6 hf)
def fX1_begin (s0 : AS) (o0 : Nat) (o1 : Nat) (a2 : Int32) (o3 : Nat) : Option (AS × Unit) :=
  am_let (am_si s0 o0 0 (s0.1 o1 2)) (fun (s1 : AS) => am_let (am_si s1 o0 1 (s1.1 o1 3)) (fun (s2 : AS) => am_let (am_si s2 o0 2 a2) (fun (s3 : AS) => am_let (am_si s3 o0 3 (0 : Int32)) (fun (s4 : AS) => am_let (am_si s4 o0 4 (-1 : Int32)) (fun (s5 : AS) => am_let (am_si s5 o0 5 (60 : Int32)) (fun (s6 : AS) => am_let (am_sj s6 o0 6 (0 : Int64)) (fun (s7 : AS) => am_let (am_si s7 o0 7 (Int32.ofNat o3)) (fun (s8 : AS) => am_let (am_si s8 o0 8 (Int32.ofNat o3)) (fun (s9 : AS) => am_let (am_si s9 o0 9 (0 : Int32)) (fun (s10 : AS) => am_let (am_si s10 o0 10 (-1 : Int32)) (fun (s11 : AS) => am_let (am_si s11 o0 11 (-1 : Int32)) (fun (s12 : AS) => am_let (am_si s12 o0 12 (-1 : Int32)) (fun (s13 : AS) => some (s13, ()))))))))))))))
def kX1_begin : List (Nat × Instr × Nat) := [(0, .aload_n 0, 1), (1, .aload_n 1, 1), (2, .getfield 9, 3), (5, .putfield 15, 3), (8, .aload_n 0, 1), (9, .aload_n 1, 1), (10, .getfield 18, 3), (13, .putfield 21, 3), (16, .aload_n 0, 1), (17, .iload_n 2, 1), (18, .putfield 22, 3), (21, .aload_n 0, 1), (22, .iconst 0, 1), (23, .putfield 25, 3), (26, .aload_n 0, 1), (27, .iconst (-1), 1), (28, .putfield 28, 3), (31, .aload_n 0, 1), (32, .bipush 60, 2), (34, .putfield 31, 3), (37, .aload_n 0, 1), (38, .lconst 0, 1), (39, .putfield 34, 3), (42, .aload_n 0, 1), (43, .aload_n 3, 1), (44, .putfield 38, 3), (47, .aload_n 0, 1), (48, .aload_n 3, 1), (49, .putfield 42, 3), (52, .aload_n 0, 1), (53, .iconst 0, 1), (54, .putfield 45, 3), (57, .aload_n 0, 1), (58, .iconst (-1), 1), (59, .putfield 48, 3), (62, .aload_n 0, 1), (63, .iconst (-1), 1), (64, .putfield 51, 3), (67, .aload_n 0, 1), (68, .iconst (-1), 1), (69, .putfield 54, 3), (72, .return_, 1)]
theorem qX1_begin : ∀ q ∈ kX1_begin, decode mX1_begin.2.2.1 q.1 = .ok (q.2.1, q.2.2) ∧ am_iok mX1_begin.2.2.2.1 q.1 q.2.1 q.2.2 = true := by decide +kernel
set_option maxRecDepth 100000 in
theorem wX1_begin : Cond.code mX1_begin.2.1 mX1_begin.2.2.1 mX1_begin.2.2.2.1 mX1_begin.2.2.2.2.1 ∈ am_T := List.mem_filter.mpr ⟨List.mem_of_getElem? (i := 747) rfl, rfl⟩
set_option maxHeartbeats 4000000 in
set_option maxRecDepth 100000 in
theorem tX1_begin (l : Launch) (d : Nat) {s0 : AS} {o0 : Nat} {o1 : Nat} {a2 : Int32} {o3 : Nat} {sE : AS} {rE : Unit} (hf : fX1_begin s0 o0 o1 a2 o3 = some (sE, rE)) : am_Ct l (d + 1) mX1_begin [.inr (.inr ((2, 0, 0), o0)), .inr (.inr ((4, 0, 0), o1)), .inl a2, .inr (.inr ((8, 0, 0), o3))] s0 sE none := by
  refine am_sim l (d + 0) (code := kX1_begin) (by decide +kernel) wX1_begin qX1_begin (Nat.le_of_ble_eq_true rfl) ?_
  intro X hX
  show X 0 [(0, .inr (.inr ((2, 0, 0), o0))), (1, .inr (.inr ((4, 0, 0), o1))), (2, .inl a2), (3, .inr (.inr ((8, 0, 0), o3)))] [] s0
  unfold fX1_begin at hf
  refine am_blk hX 0 4 (And.intro rfl (And.intro rfl (am_nl (Z := fun s1 => X 8 [(0, .inr (.inr ((2, 0, 0), o0))), (1, .inr (.inr ((4, 0, 0), o1))), (2, .inl a2), (3, .inr (.inr ((8, 0, 0), o3)))] [] s1) hf (fun s1 hf => ?_))))
  refine am_blk hX 4 4 (And.intro rfl (And.intro rfl (am_nl (Z := fun s2 => X 16 [(0, .inr (.inr ((2, 0, 0), o0))), (1, .inr (.inr ((4, 0, 0), o1))), (2, .inl a2), (3, .inr (.inr ((8, 0, 0), o3)))] [] s2) hf (fun s2 hf => ?_))))
  refine am_blk hX 8 3 (And.intro rfl (am_nl (Z := fun s3 => X 21 [(0, .inr (.inr ((2, 0, 0), o0))), (1, .inr (.inr ((4, 0, 0), o1))), (2, .inl a2), (3, .inr (.inr ((8, 0, 0), o3)))] [] s3) hf (fun s3 hf => ?_)))
  refine am_blk hX 11 3 (And.intro rfl (am_nl (Z := fun s4 => X 26 [(0, .inr (.inr ((2, 0, 0), o0))), (1, .inr (.inr ((4, 0, 0), o1))), (2, .inl a2), (3, .inr (.inr ((8, 0, 0), o3)))] [] s4) hf (fun s4 hf => ?_)))
  refine am_blk hX 14 3 (And.intro rfl (am_nl (Z := fun s5 => X 31 [(0, .inr (.inr ((2, 0, 0), o0))), (1, .inr (.inr ((4, 0, 0), o1))), (2, .inl a2), (3, .inr (.inr ((8, 0, 0), o3)))] [] s5) hf (fun s5 hf => ?_)))
  refine am_blk hX 17 3 (And.intro rfl (am_nl (Z := fun s6 => X 37 [(0, .inr (.inr ((2, 0, 0), o0))), (1, .inr (.inr ((4, 0, 0), o1))), (2, .inl a2), (3, .inr (.inr ((8, 0, 0), o3)))] [] s6) hf (fun s6 hf => ?_)))
  refine am_blk hX 20 3 (And.intro rfl (am_nl (Z := fun s7 => X 42 [(0, .inr (.inr ((2, 0, 0), o0))), (1, .inr (.inr ((4, 0, 0), o1))), (2, .inl a2), (3, .inr (.inr ((8, 0, 0), o3)))] [] s7) hf (fun s7 hf => ?_)))
  refine am_blk hX 23 3 (And.intro rfl (am_nl (Z := fun s8 => X 47 [(0, .inr (.inr ((2, 0, 0), o0))), (1, .inr (.inr ((4, 0, 0), o1))), (2, .inl a2), (3, .inr (.inr ((8, 0, 0), o3)))] [] s8) hf (fun s8 hf => ?_)))
  refine am_blk hX 26 3 (And.intro rfl (am_nl (Z := fun s9 => X 52 [(0, .inr (.inr ((2, 0, 0), o0))), (1, .inr (.inr ((4, 0, 0), o1))), (2, .inl a2), (3, .inr (.inr ((8, 0, 0), o3)))] [] s9) hf (fun s9 hf => ?_)))
  refine am_blk hX 29 3 (And.intro rfl (am_nl (Z := fun s10 => X 57 [(0, .inr (.inr ((2, 0, 0), o0))), (1, .inr (.inr ((4, 0, 0), o1))), (2, .inl a2), (3, .inr (.inr ((8, 0, 0), o3)))] [] s10) hf (fun s10 hf => ?_)))
  refine am_blk hX 32 3 (And.intro rfl (am_nl (Z := fun s11 => X 62 [(0, .inr (.inr ((2, 0, 0), o0))), (1, .inr (.inr ((4, 0, 0), o1))), (2, .inl a2), (3, .inr (.inr ((8, 0, 0), o3)))] [] s11) hf (fun s11 hf => ?_)))
  refine am_blk hX 35 3 (And.intro rfl (am_nl (Z := fun s12 => X 67 [(0, .inr (.inr ((2, 0, 0), o0))), (1, .inr (.inr ((4, 0, 0), o1))), (2, .inl a2), (3, .inr (.inr ((8, 0, 0), o3)))] [] s12) hf (fun s12 hf => ?_)))
  refine am_blk hX 38 3 (And.intro rfl (am_nl (Z := fun s13 => X 72 [(0, .inr (.inr ((2, 0, 0), o0))), (1, .inr (.inr ((4, 0, 0), o1))), (2, .inl a2), (3, .inr (.inr ((8, 0, 0), o3)))] [] s13) hf (fun s13 hf => ?_)))
  refine am_blk hX 41 1 (And.intro rfl (am_rv hf))
def fX1_isSham (s0 : AS) (o0 : Nat) (a1 : Int32) (a2 : Int32) : Option Int32 :=
  am_let (fun (x1 : Int32) => am_g (x1 = 0 ∨ x1 = 1) (some x1)) (fun J21 => am_let (J21 (0 : Int32)) (fun J20 => if a1 = (s0.1 o0 10) then (if a2 = (s0.1 o0 11) then (J21 (1 : Int32)) else (J20)) else (J20)))
def kX1_isSham : List (Nat × Instr × Nat) := [(0, .iload_n 1, 1), (1, .aload_n 0, 1), (2, .getfield 48, 3), (5, .if_icmp .ne 15, 3), (8, .iload_n 2, 1), (9, .aload_n 0, 1), (10, .getfield 51, 3), (13, .if_icmp .ne 7, 3), (16, .iconst 1, 1), (17, .goto 4, 3), (20, .iconst 0, 1), (21, .ireturn, 1)]
theorem qX1_isSham : ∀ q ∈ kX1_isSham, decode mX1_isSham.2.2.1 q.1 = .ok (q.2.1, q.2.2) ∧ am_iok mX1_isSham.2.2.2.1 q.1 q.2.1 q.2.2 = true := by decide +kernel
set_option maxRecDepth 100000 in
theorem wX1_isSham : Cond.code mX1_isSham.2.1 mX1_isSham.2.2.1 mX1_isSham.2.2.2.1 mX1_isSham.2.2.2.2.1 ∈ am_T := List.mem_filter.mpr ⟨List.mem_of_getElem? (i := 791) rfl, rfl⟩
set_option maxHeartbeats 4000000 in
set_option maxRecDepth 100000 in
theorem tX1_isSham (l : Launch) (d : Nat) {s0 : AS} {o0 : Nat} {a1 : Int32} {a2 : Int32} {rE : Int32} (hf : fX1_isSham s0 o0 a1 a2 = some rE) : am_Ct l (d + 1) mX1_isSham [.inr (.inr ((2, 0, 0), o0)), .inl a1, .inl a2] s0 s0 (some (.inl rE)) := by
  refine am_sim l (d + 0) (code := kX1_isSham) (by decide +kernel) wX1_isSham qX1_isSham (Nat.le_of_ble_eq_true rfl) ?_
  intro X hX
  show X 0 [(0, .inr (.inr ((2, 0, 0), o0))), (1, .inl a1), (2, .inl a2)] [] s0
  unfold fX1_isSham at hf
  refine am_jn hf (fun J21 => ∀ (x1 : Int32), J21 x1 = some rE → X 21 [] [.inl x1] s0) ?_ ?_
  · intro x1 hf
    obtain ⟨g2, hf⟩ := am_g_of hf
    refine am_blk hX 11 1 (And.intro g2 (am_rpi hf))
  · intro J21 hJ21 hf
    refine am_jn hf (fun J20 => J20 = some rE → X 20 [] [] s0) ?_ ?_
    · intro hf
      refine am_blk hX 10 1 (?_)
      show X 21 [] [.inl (0 : Int32)] s0
      exact am_wk hX [] (hJ21 (0 : Int32) hf)
    · intro J20 hJ20 hf
      refine am_blk hX 0 4 (And.intro rfl (And.intro (fun hb => ?_) (fun hb => ?_)))
      · have hf := am_if hf hb
        show X 20 [(0, .inr (.inr ((2, 0, 0), o0))), (1, .inl a1), (2, .inl a2)] [] s0
        exact am_wk hX [] (hJ20 hf)
      · have hf := am_it hf hb
        show X 8 [(0, .inr (.inr ((2, 0, 0), o0))), (1, .inl a1), (2, .inl a2)] [] s0
        refine am_blk hX 4 4 (And.intro rfl (And.intro (fun hb => ?_) (fun hb => ?_)))
        · have hf := am_if hf hb
          show X 20 [(0, .inr (.inr ((2, 0, 0), o0))), (1, .inl a1), (2, .inl a2)] [] s0
          exact am_wk hX [] (hJ20 hf)
        · have hf := am_it hf hb
          show X 16 [(0, .inr (.inr ((2, 0, 0), o0))), (1, .inl a1), (2, .inl a2)] [] s0
          refine am_blk hX 8 2 (?_)
          show X 21 [(0, .inr (.inr ((2, 0, 0), o0))), (1, .inl a1), (2, .inl a2)] [.inl (1 : Int32)] s0
          exact am_wk hX [] (hJ21 (1 : Int32) hf)
def fX1_rainsAt (s0 : AS) (o0 : Nat) (a1 : Int32) : Option Int32 :=
  am_let (fun (x1 : Int32) => am_g (x1 = 0 ∨ x1 = 1) (some x1)) (fun J18 => if (lg_cmp (((s0.2 o0 6) >>> (a1.toInt64 &&& 63)) &&& (1 : Int64)) (1 : Int64)) = 0 then (J18 (1 : Int32)) else (J18 (0 : Int32)))
def kX1_rainsAt : List (Nat × Instr × Nat) := [(0, .aload_n 0, 1), (1, .getfield 34, 3), (4, .iload_n 1, 1), (5, .lshr, 1), (6, .lconst 1, 1), (7, .land, 1), (8, .lconst 1, 1), (9, .lcmp, 1), (10, .ifCond .ne 7, 3), (13, .iconst 1, 1), (14, .goto 4, 3), (17, .iconst 0, 1), (18, .ireturn, 1)]
theorem qX1_rainsAt : ∀ q ∈ kX1_rainsAt, decode mX1_rainsAt.2.2.1 q.1 = .ok (q.2.1, q.2.2) ∧ am_iok mX1_rainsAt.2.2.2.1 q.1 q.2.1 q.2.2 = true := by decide +kernel
set_option maxRecDepth 100000 in
theorem wX1_rainsAt : Cond.code mX1_rainsAt.2.1 mX1_rainsAt.2.2.1 mX1_rainsAt.2.2.2.1 mX1_rainsAt.2.2.2.2.1 ∈ am_T := List.mem_filter.mpr ⟨List.mem_of_getElem? (i := 760) rfl, rfl⟩
set_option maxHeartbeats 4000000 in
set_option maxRecDepth 100000 in
theorem tX1_rainsAt (l : Launch) (d : Nat) {s0 : AS} {o0 : Nat} {a1 : Int32} {rE : Int32} (hf : fX1_rainsAt s0 o0 a1 = some rE) : am_Ct l (d + 1) mX1_rainsAt [.inr (.inr ((2, 0, 0), o0)), .inl a1] s0 s0 (some (.inl rE)) := by
  refine am_sim l (d + 0) (code := kX1_rainsAt) (by decide +kernel) wX1_rainsAt qX1_rainsAt (Nat.le_of_ble_eq_true rfl) ?_
  intro X hX
  show X 0 [(0, .inr (.inr ((2, 0, 0), o0))), (1, .inl a1)] [] s0
  unfold fX1_rainsAt at hf
  refine am_jn hf (fun J18 => ∀ (x1 : Int32), J18 x1 = some rE → X 18 [] [.inl x1] s0) ?_ ?_
  · intro x1 hf
    obtain ⟨g2, hf⟩ := am_g_of hf
    refine am_blk hX 12 1 (And.intro g2 (am_rpi hf))
  · intro J18 hJ18 hf
    refine am_blk hX 0 9 (And.intro rfl (And.intro (fun hb => ?_) (fun hb => ?_)))
    · have hf := am_if hf hb
      show X 17 [(0, .inr (.inr ((2, 0, 0), o0))), (1, .inl a1)] [] s0
      refine am_blk hX 11 1 (?_)
      show X 18 [(0, .inr (.inr ((2, 0, 0), o0))), (1, .inl a1)] [.inl (0 : Int32)] s0
      exact am_wk hX [] (hJ18 (0 : Int32) hf)
    · have hf := am_it hf hb
      show X 13 [(0, .inr (.inr ((2, 0, 0), o0))), (1, .inl a1)] [] s0
      refine am_blk hX 9 2 (?_)
      show X 18 [(0, .inr (.inr ((2, 0, 0), o0))), (1, .inl a1)] [.inl (1 : Int32)] s0
      exact am_wk hX [] (hJ18 (1 : Int32) hf)
def fX1_turnsAt (s0 : AS) (o0 : Nat) (a1 : Int32) (o2 : Nat) : Option (AS × Unit) :=
  am_let (am_si s0 o0 9 a1) (fun (s1 : AS) => am_let (am_si s1 o0 8 (Int32.ofNat o2)) (fun (s2 : AS) => some (s2, ())))
def kX1_turnsAt : List (Nat × Instr × Nat) := [(0, .aload_n 0, 1), (1, .iload_n 1, 1), (2, .putfield 45, 3), (5, .aload_n 0, 1), (6, .aload_n 2, 1), (7, .putfield 42, 3), (10, .return_, 1)]
theorem qX1_turnsAt : ∀ q ∈ kX1_turnsAt, decode mX1_turnsAt.2.2.1 q.1 = .ok (q.2.1, q.2.2) ∧ am_iok mX1_turnsAt.2.2.2.1 q.1 q.2.1 q.2.2 = true := by decide +kernel
set_option maxRecDepth 100000 in
theorem wX1_turnsAt : Cond.code mX1_turnsAt.2.1 mX1_turnsAt.2.2.1 mX1_turnsAt.2.2.2.1 mX1_turnsAt.2.2.2.2.1 ∈ am_T := List.mem_filter.mpr ⟨List.mem_of_getElem? (i := 1007) rfl, rfl⟩
set_option maxHeartbeats 4000000 in
set_option maxRecDepth 100000 in
theorem tX1_turnsAt (l : Launch) (d : Nat) {s0 : AS} {o0 : Nat} {a1 : Int32} {o2 : Nat} {sE : AS} {rE : Unit} (hf : fX1_turnsAt s0 o0 a1 o2 = some (sE, rE)) : am_Ct l (d + 1) mX1_turnsAt [.inr (.inr ((2, 0, 0), o0)), .inl a1, .inr (.inr ((8, 0, 0), o2))] s0 sE none := by
  refine am_sim l (d + 0) (code := kX1_turnsAt) (by decide +kernel) wX1_turnsAt qX1_turnsAt (Nat.le_of_ble_eq_true rfl) ?_
  intro X hX
  show X 0 [(0, .inr (.inr ((2, 0, 0), o0))), (1, .inl a1), (2, .inr (.inr ((8, 0, 0), o2)))] [] s0
  unfold fX1_turnsAt at hf
  refine am_blk hX 0 3 (And.intro rfl (am_nl (Z := fun s1 => X 5 [(0, .inr (.inr ((2, 0, 0), o0))), (1, .inl a1), (2, .inr (.inr ((8, 0, 0), o2)))] [] s1) hf (fun s1 hf => ?_)))
  refine am_blk hX 3 3 (And.intro rfl (am_nl (Z := fun s2 => X 10 [(0, .inr (.inr ((2, 0, 0), o0))), (1, .inl a1), (2, .inr (.inr ((8, 0, 0), o2)))] [] s2) hf (fun s2 hf => ?_)))
  refine am_blk hX 6 1 (And.intro rfl (am_rv hf))
def fX1_votesFalsely (s0 : AS) (o0 : Nat) (a1 : Int32) (a2 : Int32) (a3 : Int32) : Option (AS × Unit) :=
  am_let (am_si s0 o0 10 a1) (fun (s1 : AS) => am_let (am_si s1 o0 11 a2) (fun (s2 : AS) => am_let (am_si s2 o0 12 a3) (fun (s3 : AS) => some (s3, ()))))
def kX1_votesFalsely : List (Nat × Instr × Nat) := [(0, .aload_n 0, 1), (1, .iload_n 1, 1), (2, .putfield 48, 3), (5, .aload_n 0, 1), (6, .iload_n 2, 1), (7, .putfield 51, 3), (10, .aload_n 0, 1), (11, .iload_n 3, 1), (12, .putfield 54, 3), (15, .return_, 1)]
theorem qX1_votesFalsely : ∀ q ∈ kX1_votesFalsely, decode mX1_votesFalsely.2.2.1 q.1 = .ok (q.2.1, q.2.2) ∧ am_iok mX1_votesFalsely.2.2.2.1 q.1 q.2.1 q.2.2 = true := by decide +kernel
set_option maxRecDepth 100000 in
theorem wX1_votesFalsely : Cond.code mX1_votesFalsely.2.1 mX1_votesFalsely.2.2.1 mX1_votesFalsely.2.2.2.1 mX1_votesFalsely.2.2.2.2.1 ∈ am_T := List.mem_filter.mpr ⟨List.mem_of_getElem? (i := 1148) rfl, rfl⟩
set_option maxHeartbeats 4000000 in
set_option maxRecDepth 100000 in
theorem tX1_votesFalsely (l : Launch) (d : Nat) {s0 : AS} {o0 : Nat} {a1 : Int32} {a2 : Int32} {a3 : Int32} {sE : AS} {rE : Unit} (hf : fX1_votesFalsely s0 o0 a1 a2 a3 = some (sE, rE)) : am_Ct l (d + 1) mX1_votesFalsely [.inr (.inr ((2, 0, 0), o0)), .inl a1, .inl a2, .inl a3] s0 sE none := by
  refine am_sim l (d + 0) (code := kX1_votesFalsely) (by decide +kernel) wX1_votesFalsely qX1_votesFalsely (Nat.le_of_ble_eq_true rfl) ?_
  intro X hX
  show X 0 [(0, .inr (.inr ((2, 0, 0), o0))), (1, .inl a1), (2, .inl a2), (3, .inl a3)] [] s0
  unfold fX1_votesFalsely at hf
  refine am_blk hX 0 3 (And.intro rfl (am_nl (Z := fun s1 => X 5 [(0, .inr (.inr ((2, 0, 0), o0))), (1, .inl a1), (2, .inl a2), (3, .inl a3)] [] s1) hf (fun s1 hf => ?_)))
  refine am_blk hX 3 3 (And.intro rfl (am_nl (Z := fun s2 => X 10 [(0, .inr (.inr ((2, 0, 0), o0))), (1, .inl a1), (2, .inl a2), (3, .inl a3)] [] s2) hf (fun s2 hf => ?_)))
  refine am_blk hX 6 3 (And.intro rfl (am_nl (Z := fun s3 => X 15 [(0, .inr (.inr ((2, 0, 0), o0))), (1, .inl a1), (2, .inl a2), (3, .inl a3)] [] s3) hf (fun s3 hf => ?_)))
  refine am_blk hX 9 1 (And.intro rfl (am_rv hf))
def fX1_waysAt (s0 : AS) (o0 : Nat) (a1 : Int32) : Option Nat :=
  am_let (fun (x1 : Nat) => some x1) (fun J19 => if a1 < (s0.1 o0 9) then (J19 ((s0.1 o0 7).toNatClampNeg)) else (J19 ((s0.1 o0 8).toNatClampNeg)))
def kX1_waysAt : List (Nat × Instr × Nat) := [(0, .iload_n 1, 1), (1, .aload_n 0, 1), (2, .getfield 45, 3), (5, .if_icmp .lt 10, 3), (8, .aload_n 0, 1), (9, .getfield 42, 3), (12, .goto 7, 3), (15, .aload_n 0, 1), (16, .getfield 38, 3), (19, .areturn, 1)]
theorem qX1_waysAt : ∀ q ∈ kX1_waysAt, decode mX1_waysAt.2.2.1 q.1 = .ok (q.2.1, q.2.2) ∧ am_iok mX1_waysAt.2.2.2.1 q.1 q.2.1 q.2.2 = true := by decide +kernel
set_option maxRecDepth 100000 in
theorem wX1_waysAt : Cond.code mX1_waysAt.2.1 mX1_waysAt.2.2.1 mX1_waysAt.2.2.2.1 mX1_waysAt.2.2.2.2.1 ∈ am_T := List.mem_filter.mpr ⟨List.mem_of_getElem? (i := 787) rfl, rfl⟩
set_option maxHeartbeats 4000000 in
set_option maxRecDepth 100000 in
theorem tX1_waysAt (l : Launch) (d : Nat) {s0 : AS} {o0 : Nat} {a1 : Int32} {rE : Nat} (hf : fX1_waysAt s0 o0 a1 = some rE) : am_Ct l (d + 1) mX1_waysAt [.inr (.inr ((2, 0, 0), o0)), .inl a1] s0 s0 (some (.inr (.inr ((12, 0, 0), rE)))) := by
  refine am_sim l (d + 0) (code := kX1_waysAt) (by decide +kernel) wX1_waysAt qX1_waysAt (Nat.le_of_ble_eq_true rfl) ?_
  intro X hX
  show X 0 [(0, .inr (.inr ((2, 0, 0), o0))), (1, .inl a1)] [] s0
  unfold fX1_waysAt at hf
  refine am_jn hf (fun J19 => ∀ (x1 : Nat), J19 x1 = some rE → X 19 [] [.inr (.inr ((12, 0, 0), x1))] s0) ?_ ?_
  · intro x1 hf
    refine am_blk hX 9 1 (And.intro (And.intro rfl rfl) (am_rpw hf))
  · intro J19 hJ19 hf
    refine am_blk hX 0 4 (And.intro rfl (And.intro (fun hb => ?_) (fun hb => ?_)))
    · have hf := am_it hf hb
      show X 15 [(0, .inr (.inr ((2, 0, 0), o0))), (1, .inl a1)] [] s0
      refine am_blk hX 7 2 (And.intro rfl (?_))
      show X 19 [(0, .inr (.inr ((2, 0, 0), o0))), (1, .inl a1)] [.inr (.inr ((12, 0, 0), (s0.1 o0 7).toNatClampNeg))] s0
      exact am_wk hX [] (hJ19 ((s0.1 o0 7).toNatClampNeg) hf)
    · have hf := am_if hf hb
      show X 8 [(0, .inr (.inr ((2, 0, 0), o0))), (1, .inl a1)] [] s0
      refine am_blk hX 4 3 (And.intro rfl (?_))
      show X 19 [(0, .inr (.inr ((2, 0, 0), o0))), (1, .inl a1)] [.inr (.inr ((12, 0, 0), (s0.1 o0 8).toNatClampNeg))] s0
      exact am_wk hX [] (hJ19 ((s0.1 o0 8).toNatClampNeg) hf)
def fX3_clear (s0 : AS) (o0 : Nat) : Option (AS × Unit) :=
  am_let (am_si s0 o0 0 (0 : Int32)) (fun (s1 : AS) => am_let (am_si s1 o0 1 (0 : Int32)) (fun (s2 : AS) => am_let (am_si s2 o0 2 (0 : Int32)) (fun (s3 : AS) => am_let (am_si s3 o0 3 (0 : Int32)) (fun (s4 : AS) => am_let (am_si s4 o0 4 (0 : Int32)) (fun (s5 : AS) => am_let (am_si s5 o0 5 (0 : Int32)) (fun (s6 : AS) => am_let (am_si s6 o0 6 (0 : Int32)) (fun (s7 : AS) => am_c (fJ7_fill_53178 s7 (o0 + 21) 6 (0 : Int32)) (fun (s9 : AS) (v8 : Unit) => some (s9, ())))))))))
def kX3_clear : List (Nat × Instr × Nat) := [(0, .aload_n 0, 1), (1, .iconst 0, 1), (2, .putfield 23, 3), (5, .aload_n 0, 1), (6, .iconst 0, 1), (7, .putfield 27, 3), (10, .aload_n 0, 1), (11, .iconst 0, 1), (12, .putfield 30, 3), (15, .aload_n 0, 1), (16, .iconst 0, 1), (17, .putfield 33, 3), (20, .aload_n 0, 1), (21, .iconst 0, 1), (22, .putfield 36, 3), (25, .aload_n 0, 1), (26, .iconst 0, 1), (27, .putfield 39, 3), (30, .aload_n 0, 1), (31, .iconst 0, 1), (32, .putfield 42, 3), (35, .aload_n 0, 1), (36, .getfield 19, 3), (39, .iconst 0, 1), (40, .invokestatic 45, 3), (43, .return_, 1)]
theorem qX3_clear : ∀ q ∈ kX3_clear, decode mX3_clear.2.2.1 q.1 = .ok (q.2.1, q.2.2) ∧ am_iok mX3_clear.2.2.2.1 q.1 q.2.1 q.2.2 = true := by decide +kernel
set_option maxRecDepth 100000 in
theorem wX3_clear : Cond.code mX3_clear.2.1 mX3_clear.2.2.1 mX3_clear.2.2.2.1 mX3_clear.2.2.2.2.1 ∈ am_T := List.mem_filter.mpr ⟨List.mem_of_getElem? (i := 531) rfl, rfl⟩
set_option maxHeartbeats 4000000 in
set_option maxRecDepth 100000 in
theorem tX3_clear (l : Launch) (d : Nat) {s0 : AS} {o0 : Nat} {sE : AS} {rE : Unit} (hf : fX3_clear s0 o0 = some (sE, rE)) : am_Ct l (d + 2) mX3_clear [.inr (.inr ((4, 0, 0), o0))] s0 sE none := by
  refine am_sim l (d + 1) (code := kX3_clear) (by decide +kernel) wX3_clear qX3_clear (Nat.le_of_ble_eq_true rfl) ?_
  intro X hX
  show X 0 [(0, .inr (.inr ((4, 0, 0), o0)))] [] s0
  unfold fX3_clear at hf
  refine am_blk hX 0 3 (And.intro rfl (am_nl (Z := fun s1 => X 5 [(0, .inr (.inr ((4, 0, 0), o0)))] [] s1) hf (fun s1 hf => ?_)))
  refine am_blk hX 3 3 (And.intro rfl (am_nl (Z := fun s2 => X 10 [(0, .inr (.inr ((4, 0, 0), o0)))] [] s2) hf (fun s2 hf => ?_)))
  refine am_blk hX 6 3 (And.intro rfl (am_nl (Z := fun s3 => X 15 [(0, .inr (.inr ((4, 0, 0), o0)))] [] s3) hf (fun s3 hf => ?_)))
  refine am_blk hX 9 3 (And.intro rfl (am_nl (Z := fun s4 => X 20 [(0, .inr (.inr ((4, 0, 0), o0)))] [] s4) hf (fun s4 hf => ?_)))
  refine am_blk hX 12 3 (And.intro rfl (am_nl (Z := fun s5 => X 25 [(0, .inr (.inr ((4, 0, 0), o0)))] [] s5) hf (fun s5 hf => ?_)))
  refine am_blk hX 15 3 (And.intro rfl (am_nl (Z := fun s6 => X 30 [(0, .inr (.inr ((4, 0, 0), o0)))] [] s6) hf (fun s6 hf => ?_)))
  refine am_blk hX 18 3 (And.intro rfl (am_nl (Z := fun s7 => X 35 [(0, .inr (.inr ((4, 0, 0), o0)))] [] s7) hf (fun s7 hf => ?_)))
  obtain ⟨s9, v8, hcv8, hf⟩ := am_c_of hf
  refine am_blk hX 21 5 (And.intro rfl (And.intro rfl (Exists.intro s9 (Exists.intro none (And.intro (tJ7_fill_53178 l (d + 0) hcv8) (And.intro rfl (am_rv hf)))))))
def fX8_holds (a0 : Int32) (a1 : Int32) : Option Int32 :=
  am_let (fun (x1 : Int32) => am_g (x1 = 0 ∨ x1 = 1) (some x1)) (fun J14 => if ((a0 >>> (a1 &&& 31)) &&& (1 : Int32)) = (1 : Int32) then (J14 (1 : Int32)) else (J14 (0 : Int32)))
def kX8_holds : List (Nat × Instr × Nat) := [(0, .iload_n 0, 1), (1, .iload_n 1, 1), (2, .ishr, 1), (3, .iconst 1, 1), (4, .iand, 1), (5, .iconst 1, 1), (6, .if_icmp .ne 7, 3), (9, .iconst 1, 1), (10, .goto 4, 3), (13, .iconst 0, 1), (14, .ireturn, 1)]
theorem qX8_holds : ∀ q ∈ kX8_holds, decode mX8_holds.2.2.1 q.1 = .ok (q.2.1, q.2.2) ∧ am_iok mX8_holds.2.2.2.1 q.1 q.2.1 q.2.2 = true := by decide +kernel
set_option maxRecDepth 100000 in
theorem wX8_holds : Cond.code mX8_holds.2.1 mX8_holds.2.2.1 mX8_holds.2.2.2.1 mX8_holds.2.2.2.2.1 ∈ am_T := List.mem_filter.mpr ⟨List.mem_of_getElem? (i := 721) rfl, rfl⟩
set_option maxHeartbeats 4000000 in
set_option maxRecDepth 100000 in
theorem tX8_holds (l : Launch) (d : Nat) {s0 : AS} {a0 : Int32} {a1 : Int32} {rE : Int32} (hf : fX8_holds a0 a1 = some rE) : am_Ct l (d + 1) mX8_holds [.inl a0, .inl a1] s0 s0 (some (.inl rE)) := by
  refine am_sim l (d + 0) (code := kX8_holds) (by decide +kernel) wX8_holds qX8_holds (Nat.le_of_ble_eq_true rfl) ?_
  intro X hX
  show X 0 [(0, .inl a0), (1, .inl a1)] [] s0
  unfold fX8_holds at hf
  refine am_jn hf (fun J14 => ∀ (x1 : Int32), J14 x1 = some rE → X 14 [] [.inl x1] s0) ?_ ?_
  · intro x1 hf
    obtain ⟨g2, hf⟩ := am_g_of hf
    refine am_blk hX 10 1 (And.intro g2 (am_rpi hf))
  · intro J14 hJ14 hf
    refine am_blk hX 0 7 (And.intro (fun hb => ?_) (fun hb => ?_))
    · have hf := am_if hf hb
      show X 13 [(0, .inl a0), (1, .inl a1)] [] s0
      refine am_blk hX 9 1 (?_)
      show X 14 [(0, .inl a0), (1, .inl a1)] [.inl (0 : Int32)] s0
      exact am_wk hX [] (hJ14 (0 : Int32) hf)
    · have hf := am_it hf hb
      show X 9 [(0, .inl a0), (1, .inl a1)] [] s0
      refine am_blk hX 7 2 (?_)
      show X 14 [(0, .inl a0), (1, .inl a1)] [.inl (1 : Int32)] s0
      exact am_wk hX [] (hJ14 (1 : Int32) hf)
def fX3_contentBy_L4 (o0 : Nat) (a1 : Int32) (s0 : AS) : Nat → Int32 → Int32 → Option Int32
  | 0, _, _ => none
  | n4 + 1, x1, x2 =>
    if (s0.1 o0 6) ≤ x2 then (some x1) else (am_g (¬ (x2 < 0 ∨ 8 ≤ x2.toNatClampNeg)) (am_g (¬ ((2 : Int32) < 0 ∨ 5 ≤ (2 : Int32).toNatClampNeg)) (am_r (fX8_holds a1 (s0.1 (o0 + 12 + 1 + x2.toNatClampNeg) ((2 : Int32).toNatClampNeg))) (fun (v5 : Int32) => am_let (fun (x6 : Int32) => am_let (x2 + (1 : Int32)) (fun (x7 : Int32) => fX3_contentBy_L4 o0 a1 s0 n4 x6 x7)) (fun J30 => if v5 = 0 then (J30 x1) else (am_let (x1 + (1 : Int32)) (fun (x8 : Int32) => J30 x8)))))))
def fX3_contentBy (s0 : AS) (o0 : Nat) (a1 : Int32) : Option Int32 :=
  fX3_contentBy_L4 o0 a1 s0 am_fu (0 : Int32) (0 : Int32)
def kX3_contentBy : List (Nat × Instr × Nat) := [(0, .iconst 0, 1), (1, .istore_n 2, 1), (2, .iconst 0, 1), (3, .istore_n 3, 1), (4, .iload_n 3, 1), (5, .aload_n 0, 1), (6, .getfield 42, 3), (9, .if_icmp .ge 27, 3), (12, .iload_n 1, 1), (13, .aload_n 0, 1), (14, .getfield 16, 3), (17, .iload_n 3, 1), (18, .aaload, 1), (19, .iconst 2, 1), (20, .iaload, 1), (21, .invokestatic 57, 3), (24, .ifCond .eq 6, 3), (27, .iinc 2 1, 3), (30, .iinc 3 1, 3), (33, .goto (-29), 3), (36, .iload_n 2, 1), (37, .ireturn, 1)]
theorem qX3_contentBy : ∀ q ∈ kX3_contentBy, decode mX3_contentBy.2.2.1 q.1 = .ok (q.2.1, q.2.2) ∧ am_iok mX3_contentBy.2.2.2.1 q.1 q.2.1 q.2.2 = true := by decide +kernel
set_option maxRecDepth 100000 in
theorem wX3_contentBy : Cond.code mX3_contentBy.2.1 mX3_contentBy.2.2.1 mX3_contentBy.2.2.2.1 mX3_contentBy.2.2.2.2.1 ∈ am_T := List.mem_filter.mpr ⟨List.mem_of_getElem? (i := 1052) rfl, rfl⟩
set_option maxHeartbeats 4000000 in
set_option maxRecDepth 100000 in
theorem tX3_contentBy (l : Launch) (d : Nat) {s0 : AS} {o0 : Nat} {a1 : Int32} {rE : Int32} (hf : fX3_contentBy s0 o0 a1 = some rE) : am_Ct l (d + 2) mX3_contentBy [.inr (.inr ((4, 0, 0), o0)), .inl a1] s0 s0 (some (.inl rE)) := by
  refine am_sim l (d + 1) (code := kX3_contentBy) (by decide +kernel) wX3_contentBy qX3_contentBy (Nat.le_of_ble_eq_true rfl) ?_
  intro X hX
  show X 0 [(0, .inr (.inr ((4, 0, 0), o0))), (1, .inl a1)] [] s0
  unfold fX3_contentBy at hf
  have hL4 : ∀ (n4 : Nat) (x1 : Int32) (x2 : Int32), fX3_contentBy_L4 o0 a1 s0 n4 x1 x2 = some rE → X 4 [(0, .inr (.inr ((4, 0, 0), o0))), (1, .inl a1), (2, .inl x1), (3, .inl x2)] [] s0 := by
    intro n4
    induction n4 with
    | zero => intro x1 x2 hf; exact am_no (show none = some _ from hf)
    | succ n4 ih4 =>
      intro x1 x2 hf
      refine am_blk hX 4 4 (And.intro rfl (And.intro (fun hb => ?_) (fun hb => ?_)))
      · have hf := am_it hf hb
        show X 36 [(0, .inr (.inr ((4, 0, 0), o0))), (1, .inl a1), (2, .inl x1), (3, .inl x2)] [] s0
        refine am_blk hX 20 2 (am_rpi hf)
      · have hf := am_if hf hb
        show X 12 [(0, .inr (.inr ((4, 0, 0), o0))), (1, .inl a1), (2, .inl x1), (3, .inl x2)] [] s0
        obtain ⟨g3, hf⟩ := am_g_of hf
        obtain ⟨g4, hf⟩ := am_g_of hf
        obtain ⟨v5, hcv5, hf⟩ := am_r_of hf
        refine am_jn hf (fun J30 => ∀ (x6 : Int32), J30 x6 = some rE → X 30 [(0, .inr (.inr ((4, 0, 0), o0))), (1, .inl a1), (2, .inl x6), (3, .inl x2)] [] s0) ?_ ?_
        · intro x6 hf
          refine am_blk hX 18 1 (am_nl (Z := fun x7 => X 33 [(3, .inl x7), (0, .inr (.inr ((4, 0, 0), o0))), (1, .inl a1), (2, .inl x6)] [] s0) hf (fun x7 hf => ?_))
          refine am_blk hX 19 1 (?_)
          show X 4 [(3, .inl x7), (0, .inr (.inr ((4, 0, 0), o0))), (1, .inl a1), (2, .inl x6)] [] s0
          exact am_wk hX [1, 2, 3, 0] (ih4 x6 x7 hf)
        · intro J30 hJ30 hf
          refine am_blk hX 8 9 (And.intro rfl (And.intro g3 (And.intro rfl (And.intro g4 (And.intro rfl (Exists.intro s0 (Exists.intro (some (.inl v5)) (And.intro (tX8_holds l (d + 0) hcv5) (And.intro (fun hb => ?_) (fun hb => ?_))))))))))
          · have hf := am_it hf hb
            show X 30 [(0, .inr (.inr ((4, 0, 0), o0))), (1, .inl a1), (2, .inl x1), (3, .inl x2)] [] s0
            exact am_wk hX [0, 1, 2, 3] (hJ30 x1 hf)
          · have hf := am_if hf hb
            show X 27 [(0, .inr (.inr ((4, 0, 0), o0))), (1, .inl a1), (2, .inl x1), (3, .inl x2)] [] s0
            refine am_blk hX 17 1 (am_nl (Z := fun x8 => X 30 [(2, .inl x8), (0, .inr (.inr ((4, 0, 0), o0))), (1, .inl a1), (3, .inl x2)] [] s0) hf (fun x8 hf => ?_))
            exact am_wk hX [1, 2, 0, 3] (hJ30 x8 hf)
  refine am_blk hX 0 4 (?_)
  show X 4 [(3, .inl (0 : Int32)), (2, .inl (0 : Int32)), (0, .inr (.inr ((4, 0, 0), o0))), (1, .inl a1)] [] s0
  exact am_wk hX [2, 3, 1, 0] (hL4 am_fu (0 : Int32) (0 : Int32) hf)
def fX3_costOf_L4 (o0 : Nat) (a1 : Int32) (s0 : AS) : Nat → Int32 → Int32 → Option Int32
  | 0, _, _ => none
  | n4 + 1, x1, x2 =>
    if (6 : Int32) ≤ x2 then (some x1) else (am_r (fX8_holds a1 x2) (fun (v3 : Int32) => am_let (fun (x4 : Int32) => am_let (x2 + (1 : Int32)) (fun (x5 : Int32) => fX3_costOf_L4 o0 a1 s0 n4 x4 x5)) (fun J27 => if v3 = 0 then (J27 x1) else (am_g (¬ (x2 < 0 ∨ 6 ≤ x2.toNatClampNeg)) (am_let (x1 + (s0.1 (o0 + 21) x2.toNatClampNeg)) (fun (x7 : Int32) => J27 x7))))))
def fX3_costOf (s0 : AS) (o0 : Nat) (a1 : Int32) : Option Int32 :=
  fX3_costOf_L4 o0 a1 s0 am_fu (0 : Int32) (0 : Int32)
def kX3_costOf : List (Nat × Instr × Nat) := [(0, .iconst 0, 1), (1, .istore_n 2, 1), (2, .iconst 0, 1), (3, .istore_n 3, 1), (4, .iload_n 3, 1), (5, .bipush 6, 2), (7, .if_icmp .ge 26, 3), (10, .iload_n 1, 1), (11, .iload_n 3, 1), (12, .invokestatic 57, 3), (15, .ifCond .eq 12, 3), (18, .iload_n 2, 1), (19, .aload_n 0, 1), (20, .getfield 19, 3), (23, .iload_n 3, 1), (24, .iaload, 1), (25, .iadd, 1), (26, .istore_n 2, 1), (27, .iinc 3 1, 3), (30, .goto (-26), 3), (33, .iload_n 2, 1), (34, .ireturn, 1)]
theorem qX3_costOf : ∀ q ∈ kX3_costOf, decode mX3_costOf.2.2.1 q.1 = .ok (q.2.1, q.2.2) ∧ am_iok mX3_costOf.2.2.2.1 q.1 q.2.1 q.2.2 = true := by decide +kernel
set_option maxRecDepth 100000 in
theorem wX3_costOf : Cond.code mX3_costOf.2.1 mX3_costOf.2.2.1 mX3_costOf.2.2.2.1 mX3_costOf.2.2.2.2.1 ∈ am_T := List.mem_filter.mpr ⟨List.mem_of_getElem? (i := 1019) rfl, rfl⟩
set_option maxHeartbeats 4000000 in
set_option maxRecDepth 100000 in
theorem tX3_costOf (l : Launch) (d : Nat) {s0 : AS} {o0 : Nat} {a1 : Int32} {rE : Int32} (hf : fX3_costOf s0 o0 a1 = some rE) : am_Ct l (d + 2) mX3_costOf [.inr (.inr ((4, 0, 0), o0)), .inl a1] s0 s0 (some (.inl rE)) := by
  refine am_sim l (d + 1) (code := kX3_costOf) (by decide +kernel) wX3_costOf qX3_costOf (Nat.le_of_ble_eq_true rfl) ?_
  intro X hX
  show X 0 [(0, .inr (.inr ((4, 0, 0), o0))), (1, .inl a1)] [] s0
  unfold fX3_costOf at hf
  have hL4 : ∀ (n4 : Nat) (x1 : Int32) (x2 : Int32), fX3_costOf_L4 o0 a1 s0 n4 x1 x2 = some rE → X 4 [(0, .inr (.inr ((4, 0, 0), o0))), (1, .inl a1), (2, .inl x1), (3, .inl x2)] [] s0 := by
    intro n4
    induction n4 with
    | zero => intro x1 x2 hf; exact am_no (show none = some _ from hf)
    | succ n4 ih4 =>
      intro x1 x2 hf
      refine am_blk hX 4 3 (And.intro (fun hb => ?_) (fun hb => ?_))
      · have hf := am_it hf hb
        show X 33 [(0, .inr (.inr ((4, 0, 0), o0))), (1, .inl a1), (2, .inl x1), (3, .inl x2)] [] s0
        refine am_blk hX 20 2 (am_rpi hf)
      · have hf := am_if hf hb
        show X 10 [(0, .inr (.inr ((4, 0, 0), o0))), (1, .inl a1), (2, .inl x1), (3, .inl x2)] [] s0
        obtain ⟨v3, hcv3, hf⟩ := am_r_of hf
        refine am_jn hf (fun J27 => ∀ (x4 : Int32), J27 x4 = some rE → X 27 [(0, .inr (.inr ((4, 0, 0), o0))), (1, .inl a1), (2, .inl x4), (3, .inl x2)] [] s0) ?_ ?_
        · intro x4 hf
          refine am_blk hX 18 1 (am_nl (Z := fun x5 => X 30 [(3, .inl x5), (0, .inr (.inr ((4, 0, 0), o0))), (1, .inl a1), (2, .inl x4)] [] s0) hf (fun x5 hf => ?_))
          refine am_blk hX 19 1 (?_)
          show X 4 [(3, .inl x5), (0, .inr (.inr ((4, 0, 0), o0))), (1, .inl a1), (2, .inl x4)] [] s0
          exact am_wk hX [1, 2, 3, 0] (ih4 x4 x5 hf)
        · intro J27 hJ27 hf
          refine am_blk hX 7 4 (And.intro rfl (Exists.intro s0 (Exists.intro (some (.inl v3)) (And.intro (tX8_holds l (d + 0) hcv3) (And.intro (fun hb => ?_) (fun hb => ?_))))))
          · have hf := am_it hf hb
            show X 27 [(0, .inr (.inr ((4, 0, 0), o0))), (1, .inl a1), (2, .inl x1), (3, .inl x2)] [] s0
            exact am_wk hX [0, 1, 2, 3] (hJ27 x1 hf)
          · have hf := am_if hf hb
            show X 18 [(0, .inr (.inr ((4, 0, 0), o0))), (1, .inl a1), (2, .inl x1), (3, .inl x2)] [] s0
            obtain ⟨g6, hf⟩ := am_g_of hf
            refine am_blk hX 11 7 (And.intro rfl (And.intro rfl (And.intro g6 (am_nl (Z := fun x7 => X 27 [(2, .inl x7), (0, .inr (.inr ((4, 0, 0), o0))), (1, .inl a1), (3, .inl x2)] [] s0) hf (fun x7 hf => ?_)))))
            exact am_wk hX [1, 2, 0, 3] (hJ27 x7 hf)
  refine am_blk hX 0 4 (?_)
  show X 4 [(3, .inl (0 : Int32)), (2, .inl (0 : Int32)), (0, .inr (.inr ((4, 0, 0), o0))), (1, .inl a1)] [] s0
  exact am_wk hX [2, 3, 1, 0] (hL4 am_fu (0 : Int32) (0 : Int32) hf)
def fX3_take_L90 (o0 : Nat) (o1 : Nat) : Nat → AS → Int32 → Option (AS × Unit)
  | 0, _, _ => none
  | n90 + 1, s9, x10 =>
    if (8 : Int32) ≤ x10 then (am_g (¬ (0 : Int32) < 0 ∧ ¬ (0 : Int32) < 0 ∧ ¬ (6 : Int32) < 0 ∧ (0 : Int32).toNatClampNeg + (6 : Int32).toNatClampNeg ≤ 6 ∧ (0 : Int32).toNatClampNeg + (6 : Int32).toNatClampNeg ≤ 6) (am_let (am_sr s9 (o0 + 21) (va_cpy (s9.1 (o1 + 21)) (s9.1 (o0 + 21)) (0 : Int32).toNatClampNeg (0 : Int32).toNatClampNeg (6 : Int32).toNatClampNeg)) (fun (s12 : AS) => some (s12, ())))) else (am_g (¬ (x10 < 0 ∨ 8 ≤ x10.toNatClampNeg)) (am_g (¬ (x10 < 0 ∨ 8 ≤ x10.toNatClampNeg)) (am_g (¬ (0 : Int32) < 0 ∧ ¬ (0 : Int32) < 0 ∧ ¬ (5 : Int32) < 0 ∧ (0 : Int32).toNatClampNeg + (5 : Int32).toNatClampNeg ≤ 5 ∧ (0 : Int32).toNatClampNeg + (5 : Int32).toNatClampNeg ≤ 5) (am_let (am_sr s9 (o0 + 12 + 1 + x10.toNatClampNeg) (va_cpy (s9.1 (o1 + 12 + 1 + x10.toNatClampNeg)) (s9.1 (o0 + 12 + 1 + x10.toNatClampNeg)) (0 : Int32).toNatClampNeg (0 : Int32).toNatClampNeg (5 : Int32).toNatClampNeg)) (fun (s16 : AS) => am_let (x10 + (1 : Int32)) (fun (x17 : Int32) => fX3_take_L90 o0 o1 n90 s16 x17))))))
def fX3_take_L58 (o0 : Nat) (o1 : Nat) (J88 : AS → Option (AS × Unit)) : Nat → AS → Int32 → Option (AS × Unit)
  | 0, _, _ => none
  | n58 + 1, s18, x19 =>
    if (10 : Int32) ≤ x19 then (J88 s18) else (am_g (¬ (x19 < 0 ∨ 10 ≤ x19.toNatClampNeg)) (am_g (¬ (x19 < 0 ∨ 10 ≤ x19.toNatClampNeg)) (am_g (¬ (0 : Int32) < 0 ∧ ¬ (0 : Int32) < 0 ∧ ¬ (3 : Int32) < 0 ∧ (0 : Int32).toNatClampNeg + (3 : Int32).toNatClampNeg ≤ 3 ∧ (0 : Int32).toNatClampNeg + (3 : Int32).toNatClampNeg ≤ 3) (am_let (am_sr s18 (o0 + 1 + 1 + x19.toNatClampNeg) (va_cpy (s18.1 (o1 + 1 + 1 + x19.toNatClampNeg)) (s18.1 (o0 + 1 + 1 + x19.toNatClampNeg)) (0 : Int32).toNatClampNeg (0 : Int32).toNatClampNeg (3 : Int32).toNatClampNeg)) (fun (s23 : AS) => am_let (x19 + (1 : Int32)) (fun (x24 : Int32) => fX3_take_L58 o0 o1 J88 n58 s23 x24))))))
def fX3_take (s0 : AS) (o0 : Nat) (o1 : Nat) : Option (AS × Unit) :=
  am_let (am_si s0 o0 0 (s0.1 o1 0)) (fun (s1 : AS) => am_let (am_si s1 o0 1 (s1.1 o1 1)) (fun (s2 : AS) => am_let (am_si s2 o0 2 (s2.1 o1 2)) (fun (s3 : AS) => am_let (am_si s3 o0 3 (s3.1 o1 3)) (fun (s4 : AS) => am_let (am_si s4 o0 4 (s4.1 o1 4)) (fun (s5 : AS) => am_let (am_si s5 o0 5 (s5.1 o1 5)) (fun (s6 : AS) => am_let (am_si s6 o0 6 (s6.1 o1 6)) (fun (s7 : AS) => am_let (fun (s8 : AS) => fX3_take_L90 o0 o1 am_fu s8 (0 : Int32)) (fun J88 => fX3_take_L58 o0 o1 J88 am_fu s7 (0 : Int32)))))))))
def kX3_take : List (Nat × Instr × Nat) := [(0, .aload_n 0, 1), (1, .aload_n 1, 1), (2, .getfield 23, 3), (5, .putfield 23, 3), (8, .aload_n 0, 1), (9, .aload_n 1, 1), (10, .getfield 27, 3), (13, .putfield 27, 3), (16, .aload_n 0, 1), (17, .aload_n 1, 1), (18, .getfield 30, 3), (21, .putfield 30, 3), (24, .aload_n 0, 1), (25, .aload_n 1, 1), (26, .getfield 33, 3), (29, .putfield 33, 3), (32, .aload_n 0, 1), (33, .aload_n 1, 1), (34, .getfield 36, 3), (37, .putfield 36, 3), (40, .aload_n 0, 1), (41, .aload_n 1, 1), (42, .getfield 39, 3), (45, .putfield 39, 3), (48, .aload_n 0, 1), (49, .aload_n 1, 1), (50, .getfield 42, 3), (53, .putfield 42, 3), (56, .iconst 0, 1), (57, .istore_n 2, 1), (58, .iload_n 2, 1), (59, .bipush 10, 2), (61, .if_icmp .ge 27, 3), (64, .aload_n 1, 1), (65, .getfield 11, 3), (68, .iload_n 2, 1), (69, .aaload, 1), (70, .iconst 0, 1), (71, .aload_n 0, 1), (72, .getfield 11, 3), (75, .iload_n 2, 1), (76, .aaload, 1), (77, .iconst 0, 1), (78, .iconst 3, 1), (79, .invokestatic 51, 3), (82, .iinc 2 1, 3), (85, .goto (-27), 3), (88, .iconst 0, 1), (89, .istore_n 2, 1), (90, .iload_n 2, 1), (91, .bipush 8, 2), (93, .if_icmp .ge 27, 3), (96, .aload_n 1, 1), (97, .getfield 16, 3), (100, .iload_n 2, 1), (101, .aaload, 1), (102, .iconst 0, 1), (103, .aload_n 0, 1), (104, .getfield 16, 3), (107, .iload_n 2, 1), (108, .aaload, 1), (109, .iconst 0, 1), (110, .iconst 5, 1), (111, .invokestatic 51, 3), (114, .iinc 2 1, 3), (117, .goto (-27), 3), (120, .aload_n 1, 1), (121, .getfield 19, 3), (124, .iconst 0, 1), (125, .aload_n 0, 1), (126, .getfield 19, 3), (129, .iconst 0, 1), (130, .bipush 6, 2), (132, .invokestatic 51, 3), (135, .return_, 1)]
theorem qX3_take : ∀ q ∈ kX3_take, decode mX3_take.2.2.1 q.1 = .ok (q.2.1, q.2.2) ∧ am_iok mX3_take.2.2.2.1 q.1 q.2.1 q.2.2 = true := by decide +kernel
set_option maxRecDepth 100000 in
theorem wX3_take : Cond.code mX3_take.2.1 mX3_take.2.2.1 mX3_take.2.2.2.1 mX3_take.2.2.2.2.1 ∈ am_T := List.mem_filter.mpr ⟨List.mem_of_getElem? (i := 661) rfl, rfl⟩
set_option maxHeartbeats 4000000 in
set_option maxRecDepth 100000 in
theorem tX3_take (l : Launch) (d : Nat) {s0 : AS} {o0 : Nat} {o1 : Nat} {sE : AS} {rE : Unit} (hf : fX3_take s0 o0 o1 = some (sE, rE)) : am_Ct l (d + 1) mX3_take [.inr (.inr ((4, 0, 0), o0)), .inr (.inr ((4, 0, 0), o1))] s0 sE none := by
  refine am_sim l (d + 0) (code := kX3_take) (by decide +kernel) wX3_take qX3_take (Nat.le_of_ble_eq_true rfl) ?_
  intro X hX
  show X 0 [(0, .inr (.inr ((4, 0, 0), o0))), (1, .inr (.inr ((4, 0, 0), o1)))] [] s0
  unfold fX3_take at hf
  refine am_blk hX 0 4 (And.intro rfl (And.intro rfl (am_nl (Z := fun s1 => X 8 [(0, .inr (.inr ((4, 0, 0), o0))), (1, .inr (.inr ((4, 0, 0), o1)))] [] s1) hf (fun s1 hf => ?_))))
  refine am_blk hX 4 4 (And.intro rfl (And.intro rfl (am_nl (Z := fun s2 => X 16 [(0, .inr (.inr ((4, 0, 0), o0))), (1, .inr (.inr ((4, 0, 0), o1)))] [] s2) hf (fun s2 hf => ?_))))
  refine am_blk hX 8 4 (And.intro rfl (And.intro rfl (am_nl (Z := fun s3 => X 24 [(0, .inr (.inr ((4, 0, 0), o0))), (1, .inr (.inr ((4, 0, 0), o1)))] [] s3) hf (fun s3 hf => ?_))))
  refine am_blk hX 12 4 (And.intro rfl (And.intro rfl (am_nl (Z := fun s4 => X 32 [(0, .inr (.inr ((4, 0, 0), o0))), (1, .inr (.inr ((4, 0, 0), o1)))] [] s4) hf (fun s4 hf => ?_))))
  refine am_blk hX 16 4 (And.intro rfl (And.intro rfl (am_nl (Z := fun s5 => X 40 [(0, .inr (.inr ((4, 0, 0), o0))), (1, .inr (.inr ((4, 0, 0), o1)))] [] s5) hf (fun s5 hf => ?_))))
  refine am_blk hX 20 4 (And.intro rfl (And.intro rfl (am_nl (Z := fun s6 => X 48 [(0, .inr (.inr ((4, 0, 0), o0))), (1, .inr (.inr ((4, 0, 0), o1)))] [] s6) hf (fun s6 hf => ?_))))
  refine am_blk hX 24 4 (And.intro rfl (And.intro rfl (am_nl (Z := fun s7 => X 56 [(0, .inr (.inr ((4, 0, 0), o0))), (1, .inr (.inr ((4, 0, 0), o1)))] [] s7) hf (fun s7 hf => ?_))))
  refine am_jn hf (fun J88 => ∀ (s8 : AS), J88 s8 = some (sE, rE) → X 88 [(0, .inr (.inr ((4, 0, 0), o0))), (1, .inr (.inr ((4, 0, 0), o1)))] [] s8) ?_ ?_
  · intro s8 hf
    have hL90 : ∀ (n90 : Nat) (s9 : AS) (x10 : Int32), fX3_take_L90 o0 o1 n90 s9 x10 = some (sE, rE) → X 90 [(0, .inr (.inr ((4, 0, 0), o0))), (1, .inr (.inr ((4, 0, 0), o1))), (2, .inl x10)] [] s9 := by
      intro n90
      induction n90 with
      | zero => intro s9 x10 hf; exact am_no (show none = some _ from hf)
      | succ n90 ih90 =>
        intro s9 x10 hf
        refine am_blk hX 49 3 (And.intro (fun hb => ?_) (fun hb => ?_))
        · have hf := am_it hf hb
          show X 120 [(0, .inr (.inr ((4, 0, 0), o0))), (1, .inr (.inr ((4, 0, 0), o1))), (2, .inl x10)] [] s9
          obtain ⟨g11, hf⟩ := am_g_of hf
          refine am_blk hX 66 8 (And.intro rfl (And.intro rfl (And.intro rfl (And.intro rfl (And.intro g11 (am_nl (Z := fun s12 => X 135 [(0, .inr (.inr ((4, 0, 0), o0))), (1, .inr (.inr ((4, 0, 0), o1))), (2, .inl x10)] [] s12) hf (fun s12 hf => ?_)))))))
          refine am_blk hX 74 1 (And.intro rfl (am_rv hf))
        · have hf := am_if hf hb
          show X 96 [(0, .inr (.inr ((4, 0, 0), o0))), (1, .inr (.inr ((4, 0, 0), o1))), (2, .inl x10)] [] s9
          obtain ⟨g13, hf⟩ := am_g_of hf
          obtain ⟨g14, hf⟩ := am_g_of hf
          obtain ⟨g15, hf⟩ := am_g_of hf
          refine am_blk hX 52 12 (And.intro rfl (And.intro g13 (And.intro rfl (And.intro g14 (And.intro rfl (And.intro rfl (And.intro g15 (am_nl (Z := fun s16 => X 114 [(0, .inr (.inr ((4, 0, 0), o0))), (1, .inr (.inr ((4, 0, 0), o1))), (2, .inl x10)] [] s16) hf (fun s16 hf => ?_)))))))))
          refine am_blk hX 64 1 (am_nl (Z := fun x17 => X 117 [(2, .inl x17), (0, .inr (.inr ((4, 0, 0), o0))), (1, .inr (.inr ((4, 0, 0), o1)))] [] s16) hf (fun x17 hf => ?_))
          refine am_blk hX 65 1 (?_)
          show X 90 [(2, .inl x17), (0, .inr (.inr ((4, 0, 0), o0))), (1, .inr (.inr ((4, 0, 0), o1)))] [] s16
          exact am_wk hX [1, 2, 0] (ih90 s16 x17 hf)
    refine am_blk hX 47 2 (?_)
    show X 90 [(2, .inl (0 : Int32)), (0, .inr (.inr ((4, 0, 0), o0))), (1, .inr (.inr ((4, 0, 0), o1)))] [] s8
    exact am_wk hX [1, 2, 0] (hL90 am_fu s8 (0 : Int32) hf)
  · intro J88 hJ88 hf
    have hL58 : ∀ (n58 : Nat) (s18 : AS) (x19 : Int32), fX3_take_L58 o0 o1 J88 n58 s18 x19 = some (sE, rE) → X 58 [(0, .inr (.inr ((4, 0, 0), o0))), (1, .inr (.inr ((4, 0, 0), o1))), (2, .inl x19)] [] s18 := by
      intro n58
      induction n58 with
      | zero => intro s18 x19 hf; exact am_no (show none = some _ from hf)
      | succ n58 ih58 =>
        intro s18 x19 hf
        refine am_blk hX 30 3 (And.intro (fun hb => ?_) (fun hb => ?_))
        · have hf := am_it hf hb
          show X 88 [(0, .inr (.inr ((4, 0, 0), o0))), (1, .inr (.inr ((4, 0, 0), o1))), (2, .inl x19)] [] s18
          exact am_wk hX [0, 1] (hJ88 s18 hf)
        · have hf := am_if hf hb
          show X 64 [(0, .inr (.inr ((4, 0, 0), o0))), (1, .inr (.inr ((4, 0, 0), o1))), (2, .inl x19)] [] s18
          obtain ⟨g20, hf⟩ := am_g_of hf
          obtain ⟨g21, hf⟩ := am_g_of hf
          obtain ⟨g22, hf⟩ := am_g_of hf
          refine am_blk hX 33 12 (And.intro rfl (And.intro g20 (And.intro rfl (And.intro g21 (And.intro rfl (And.intro rfl (And.intro g22 (am_nl (Z := fun s23 => X 82 [(0, .inr (.inr ((4, 0, 0), o0))), (1, .inr (.inr ((4, 0, 0), o1))), (2, .inl x19)] [] s23) hf (fun s23 hf => ?_)))))))))
          refine am_blk hX 45 1 (am_nl (Z := fun x24 => X 85 [(2, .inl x24), (0, .inr (.inr ((4, 0, 0), o0))), (1, .inr (.inr ((4, 0, 0), o1)))] [] s23) hf (fun x24 hf => ?_))
          refine am_blk hX 46 1 (?_)
          show X 58 [(2, .inl x24), (0, .inr (.inr ((4, 0, 0), o0))), (1, .inr (.inr ((4, 0, 0), o1)))] [] s23
          exact am_wk hX [1, 2, 0] (ih58 s23 x24 hf)
    refine am_blk hX 28 2 (?_)
    show X 58 [(2, .inl (0 : Int32)), (0, .inr (.inr ((4, 0, 0), o0))), (1, .inr (.inr ((4, 0, 0), o1)))] [] s7
    exact am_wk hX [1, 2, 0] (hL58 am_fu s7 (0 : Int32) hf)
def fX4_byteAt (s0 : AS) (o0 : Nat) (a1 : Int32) : Option Int32 :=
  am_let (fun (x1 : Int32) => some x1) (fun J31 => am_let (J31 (-1 : Int32)) (fun J30 => if a1 < 0 then (J30) else (if (s0.1 o0 3) ≤ a1 then (J30) else (if (Int32.ofNat 800) ≤ a1 then (J30) else (am_g (¬ (a1 < 0 ∨ 800 ≤ a1.toNatClampNeg)) (J31 (s0.1 (o0 + 1) a1.toNatClampNeg)))))))
def kX4_byteAt : List (Nat × Instr × Nat) := [(0, .iload_n 1, 1), (1, .ifCond .lt 29, 3), (4, .iload_n 1, 1), (5, .aload_n 0, 1), (6, .getfield 19, 3), (9, .if_icmp .ge 21, 3), (12, .iload_n 1, 1), (13, .aload_n 0, 1), (14, .getfield 15, 3), (17, .arraylength, 1), (18, .if_icmp .ge 12, 3), (21, .aload_n 0, 1), (22, .getfield 15, 3), (25, .iload_n 1, 1), (26, .baload, 1), (27, .goto 4, 3), (30, .iconst (-1), 1), (31, .ireturn, 1)]
theorem qX4_byteAt : ∀ q ∈ kX4_byteAt, decode mX4_byteAt.2.2.1 q.1 = .ok (q.2.1, q.2.2) ∧ am_iok mX4_byteAt.2.2.2.1 q.1 q.2.1 q.2.2 = true := by decide +kernel
set_option maxRecDepth 100000 in
theorem wX4_byteAt : Cond.code mX4_byteAt.2.1 mX4_byteAt.2.2.1 mX4_byteAt.2.2.2.1 mX4_byteAt.2.2.2.2.1 ∈ am_T := List.mem_filter.mpr ⟨List.mem_of_getElem? (i := 542) rfl, rfl⟩
set_option maxHeartbeats 4000000 in
set_option maxRecDepth 100000 in
theorem tX4_byteAt (l : Launch) (d : Nat) {s0 : AS} {o0 : Nat} {a1 : Int32} {rE : Int32} (hf : fX4_byteAt s0 o0 a1 = some rE) : am_Ct l (d + 1) mX4_byteAt [.inr (.inr ((5, 0, 0), o0)), .inl a1] s0 s0 (some (.inl rE)) := by
  refine am_sim l (d + 0) (code := kX4_byteAt) (by decide +kernel) wX4_byteAt qX4_byteAt (Nat.le_of_ble_eq_true rfl) ?_
  intro X hX
  show X 0 [(0, .inr (.inr ((5, 0, 0), o0))), (1, .inl a1)] [] s0
  unfold fX4_byteAt at hf
  refine am_jn hf (fun J31 => ∀ (x1 : Int32), J31 x1 = some rE → X 31 [] [.inl x1] s0) ?_ ?_
  · intro x1 hf
    refine am_blk hX 17 1 (am_rpi hf)
  · intro J31 hJ31 hf
    refine am_jn hf (fun J30 => J30 = some rE → X 30 [] [] s0) ?_ ?_
    · intro hf
      refine am_blk hX 16 1 (?_)
      show X 31 [] [.inl (-1 : Int32)] s0
      exact am_wk hX [] (hJ31 (-1 : Int32) hf)
    · intro J30 hJ30 hf
      refine am_blk hX 0 2 (And.intro (fun hb => ?_) (fun hb => ?_))
      · have hf := am_it hf hb
        show X 30 [(0, .inr (.inr ((5, 0, 0), o0))), (1, .inl a1)] [] s0
        exact am_wk hX [] (hJ30 hf)
      · have hf := am_if hf hb
        show X 4 [(0, .inr (.inr ((5, 0, 0), o0))), (1, .inl a1)] [] s0
        refine am_blk hX 2 4 (And.intro rfl (And.intro (fun hb => ?_) (fun hb => ?_)))
        · have hf := am_it hf hb
          show X 30 [(0, .inr (.inr ((5, 0, 0), o0))), (1, .inl a1)] [] s0
          exact am_wk hX [] (hJ30 hf)
        · have hf := am_if hf hb
          show X 12 [(0, .inr (.inr ((5, 0, 0), o0))), (1, .inl a1)] [] s0
          refine am_blk hX 6 5 (And.intro rfl (And.intro (Or.inl rfl) (And.intro (fun hb => ?_) (fun hb => ?_))))
          · have hf := am_it hf hb
            show X 30 [(0, .inr (.inr ((5, 0, 0), o0))), (1, .inl a1)] [] s0
            exact am_wk hX [] (hJ30 hf)
          · have hf := am_if hf hb
            show X 21 [(0, .inr (.inr ((5, 0, 0), o0))), (1, .inl a1)] [] s0
            obtain ⟨g2, hf⟩ := am_g_of hf
            refine am_blk hX 11 5 (And.intro rfl (And.intro (Or.inl rfl) (And.intro g2 (?_))))
            show X 31 [(0, .inr (.inr ((5, 0, 0), o0))), (1, .inl a1)] [.inl (s0.1 (o0 + 1) a1.toNatClampNeg)] s0
            exact am_wk hX [] (hJ31 (s0.1 (o0 + 1) a1.toNatClampNeg) hf)
def fX4_fail (s0 : AS) (o0 : Nat) (a1 : Int32) (a2 : Int32) : Option (AS × Unit) :=
  am_let (fun (s1 : AS) => some (s1, ())) (fun J17 => if (s0.1 o0 0) = 0 then (am_let (am_si s0 o0 0 a1) (fun (s2 : AS) => am_let (am_si s2 o0 1 a2) (fun (s3 : AS) => J17 s3))) else (J17 s0))
def kX4_fail : List (Nat × Instr × Nat) := [(0, .aload_n 0, 1), (1, .getfield 25, 3), (4, .ifCond .ne 13, 3), (7, .aload_n 0, 1), (8, .iload_n 1, 1), (9, .putfield 25, 3), (12, .aload_n 0, 1), (13, .iload_n 2, 1), (14, .putfield 9, 3), (17, .return_, 1)]
theorem qX4_fail : ∀ q ∈ kX4_fail, decode mX4_fail.2.2.1 q.1 = .ok (q.2.1, q.2.2) ∧ am_iok mX4_fail.2.2.2.1 q.1 q.2.1 q.2.2 = true := by decide +kernel
set_option maxRecDepth 100000 in
theorem wX4_fail : Cond.code mX4_fail.2.1 mX4_fail.2.2.1 mX4_fail.2.2.2.1 mX4_fail.2.2.2.2.1 ∈ am_T := List.mem_filter.mpr ⟨List.mem_of_getElem? (i := 615) rfl, rfl⟩
set_option maxHeartbeats 4000000 in
set_option maxRecDepth 100000 in
theorem tX4_fail (l : Launch) (d : Nat) {s0 : AS} {o0 : Nat} {a1 : Int32} {a2 : Int32} {sE : AS} {rE : Unit} (hf : fX4_fail s0 o0 a1 a2 = some (sE, rE)) : am_Ct l (d + 1) mX4_fail [.inr (.inr ((5, 0, 0), o0)), .inl a1, .inl a2] s0 sE none := by
  refine am_sim l (d + 0) (code := kX4_fail) (by decide +kernel) wX4_fail qX4_fail (Nat.le_of_ble_eq_true rfl) ?_
  intro X hX
  show X 0 [(0, .inr (.inr ((5, 0, 0), o0))), (1, .inl a1), (2, .inl a2)] [] s0
  unfold fX4_fail at hf
  refine am_jn hf (fun J17 => ∀ (s1 : AS), J17 s1 = some (sE, rE) → X 17 [] [] s1) ?_ ?_
  · intro s1 hf
    refine am_blk hX 9 1 (And.intro rfl (am_rv hf))
  · intro J17 hJ17 hf
    refine am_blk hX 0 3 (And.intro rfl (And.intro (fun hb => ?_) (fun hb => ?_)))
    · have hf := am_if hf hb
      show X 17 [(0, .inr (.inr ((5, 0, 0), o0))), (1, .inl a1), (2, .inl a2)] [] s0
      exact am_wk hX [] (hJ17 s0 hf)
    · have hf := am_it hf hb
      show X 7 [(0, .inr (.inr ((5, 0, 0), o0))), (1, .inl a1), (2, .inl a2)] [] s0
      refine am_blk hX 3 3 (And.intro rfl (am_nl (Z := fun s2 => X 12 [(0, .inr (.inr ((5, 0, 0), o0))), (1, .inl a1), (2, .inl a2)] [] s2) hf (fun s2 hf => ?_)))
      refine am_blk hX 6 3 (And.intro rfl (am_nl (Z := fun s3 => X 17 [(0, .inr (.inr ((5, 0, 0), o0))), (1, .inl a1), (2, .inl a2)] [] s3) hf (fun s3 hf => ?_)))
      exact am_wk hX [] (hJ17 s3 hf)
def fX4_isDigit (s0 : AS) (o0 : Nat) (a1 : Int32) : Option Int32 :=
  am_r (fX4_byteAt s0 o0 a1) (fun (v1 : Int32) => am_let (fun (x2 : Int32) => am_g (x2 = 0 ∨ x2 = 1) (some x2)) (fun J25 => am_let (J25 (0 : Int32)) (fun J24 => if v1 < (48 : Int32) then (J24) else (am_r (fX4_byteAt s0 o0 a1) (fun (v4 : Int32) => if (57 : Int32) < v4 then (J24) else (J25 (1 : Int32)))))))
def kX4_isDigit : List (Nat × Instr × Nat) := [(0, .aload_n 0, 1), (1, .iload_n 1, 1), (2, .invokevirtual 131, 3), (5, .bipush 48, 2), (7, .if_icmp .lt 17, 3), (10, .aload_n 0, 1), (11, .iload_n 1, 1), (12, .invokevirtual 131, 3), (15, .bipush 57, 2), (17, .if_icmp .gt 7, 3), (20, .iconst 1, 1), (21, .goto 4, 3), (24, .iconst 0, 1), (25, .ireturn, 1)]
theorem qX4_isDigit : ∀ q ∈ kX4_isDigit, decode mX4_isDigit.2.2.1 q.1 = .ok (q.2.1, q.2.2) ∧ am_iok mX4_isDigit.2.2.2.1 q.1 q.2.1 q.2.2 = true := by decide +kernel
set_option maxRecDepth 100000 in
theorem wX4_isDigit : Cond.code mX4_isDigit.2.1 mX4_isDigit.2.2.1 mX4_isDigit.2.2.2.1 mX4_isDigit.2.2.2.2.1 ∈ am_T := List.mem_filter.mpr ⟨List.mem_of_getElem? (i := 624) rfl, rfl⟩
set_option maxHeartbeats 4000000 in
set_option maxRecDepth 100000 in
theorem tX4_isDigit (l : Launch) (d : Nat) {s0 : AS} {o0 : Nat} {a1 : Int32} {rE : Int32} (hf : fX4_isDigit s0 o0 a1 = some rE) : am_Ct l (d + 2) mX4_isDigit [.inr (.inr ((5, 0, 0), o0)), .inl a1] s0 s0 (some (.inl rE)) := by
  refine am_sim l (d + 1) (code := kX4_isDigit) (by decide +kernel) wX4_isDigit qX4_isDigit (Nat.le_of_ble_eq_true rfl) ?_
  intro X hX
  show X 0 [(0, .inr (.inr ((5, 0, 0), o0))), (1, .inl a1)] [] s0
  unfold fX4_isDigit at hf
  obtain ⟨v1, hcv1, hf⟩ := am_r_of hf
  refine am_jn hf (fun J25 => ∀ (x2 : Int32), J25 x2 = some rE → X 25 [] [.inl x2] s0) ?_ ?_
  · intro x2 hf
    obtain ⟨g3, hf⟩ := am_g_of hf
    refine am_blk hX 13 1 (And.intro g3 (am_rpi hf))
  · intro J25 hJ25 hf
    refine am_jn hf (fun J24 => J24 = some rE → X 24 [] [] s0) ?_ ?_
    · intro hf
      refine am_blk hX 12 1 (?_)
      show X 25 [] [.inl (0 : Int32)] s0
      exact am_wk hX [] (hJ25 (0 : Int32) hf)
    · intro J24 hJ24 hf
      refine am_blk hX 0 5 (And.intro rfl (And.intro rfl (Exists.intro s0 (Exists.intro (some (.inl v1)) (And.intro (tX4_byteAt l (d + 0) hcv1) (And.intro (fun hb => ?_) (fun hb => ?_)))))))
      · have hf := am_it hf hb
        show X 24 [(0, .inr (.inr ((5, 0, 0), o0))), (1, .inl a1)] [] s0
        exact am_wk hX [] (hJ24 hf)
      · have hf := am_if hf hb
        show X 10 [(0, .inr (.inr ((5, 0, 0), o0))), (1, .inl a1)] [] s0
        obtain ⟨v4, hcv4, hf⟩ := am_r_of hf
        refine am_blk hX 5 5 (And.intro rfl (And.intro rfl (Exists.intro s0 (Exists.intro (some (.inl v4)) (And.intro (tX4_byteAt l (d + 0) hcv4) (And.intro (fun hb => ?_) (fun hb => ?_)))))))
        · have hf := am_it hf hb
          show X 24 [(0, .inr (.inr ((5, 0, 0), o0))), (1, .inl a1)] [] s0
          exact am_wk hX [] (hJ24 hf)
        · have hf := am_if hf hb
          show X 20 [(0, .inr (.inr ((5, 0, 0), o0))), (1, .inl a1)] [] s0
          refine am_blk hX 10 2 (?_)
          show X 25 [(0, .inr (.inr ((5, 0, 0), o0))), (1, .inl a1)] [.inl (1 : Int32)] s0
          exact am_wk hX [] (hJ25 (1 : Int32) hf)
def fX4_isLetter (s0 : AS) (o0 : Nat) (a1 : Int32) : Option Int32 :=
  am_r (fX4_byteAt s0 o0 a1) (fun (v1 : Int32) => am_let (fun (x2 : Int32) => am_g (x2 = 0 ∨ x2 = 1) (some x2)) (fun J25 => am_let (J25 (0 : Int32)) (fun J24 => if v1 < (97 : Int32) then (J24) else (am_r (fX4_byteAt s0 o0 a1) (fun (v4 : Int32) => if (122 : Int32) < v4 then (J24) else (J25 (1 : Int32)))))))
def kX4_isLetter : List (Nat × Instr × Nat) := [(0, .aload_n 0, 1), (1, .iload_n 1, 1), (2, .invokevirtual 131, 3), (5, .bipush 97, 2), (7, .if_icmp .lt 17, 3), (10, .aload_n 0, 1), (11, .iload_n 1, 1), (12, .invokevirtual 131, 3), (15, .bipush 122, 2), (17, .if_icmp .gt 7, 3), (20, .iconst 1, 1), (21, .goto 4, 3), (24, .iconst 0, 1), (25, .ireturn, 1)]
theorem qX4_isLetter : ∀ q ∈ kX4_isLetter, decode mX4_isLetter.2.2.1 q.1 = .ok (q.2.1, q.2.2) ∧ am_iok mX4_isLetter.2.2.2.1 q.1 q.2.1 q.2.2 = true := by decide +kernel
set_option maxRecDepth 100000 in
theorem wX4_isLetter : Cond.code mX4_isLetter.2.1 mX4_isLetter.2.2.1 mX4_isLetter.2.2.2.1 mX4_isLetter.2.2.2.2.1 ∈ am_T := List.mem_filter.mpr ⟨List.mem_of_getElem? (i := 611) rfl, rfl⟩
set_option maxHeartbeats 4000000 in
set_option maxRecDepth 100000 in
theorem tX4_isLetter (l : Launch) (d : Nat) {s0 : AS} {o0 : Nat} {a1 : Int32} {rE : Int32} (hf : fX4_isLetter s0 o0 a1 = some rE) : am_Ct l (d + 2) mX4_isLetter [.inr (.inr ((5, 0, 0), o0)), .inl a1] s0 s0 (some (.inl rE)) := by
  refine am_sim l (d + 1) (code := kX4_isLetter) (by decide +kernel) wX4_isLetter qX4_isLetter (Nat.le_of_ble_eq_true rfl) ?_
  intro X hX
  show X 0 [(0, .inr (.inr ((5, 0, 0), o0))), (1, .inl a1)] [] s0
  unfold fX4_isLetter at hf
  obtain ⟨v1, hcv1, hf⟩ := am_r_of hf
  refine am_jn hf (fun J25 => ∀ (x2 : Int32), J25 x2 = some rE → X 25 [] [.inl x2] s0) ?_ ?_
  · intro x2 hf
    obtain ⟨g3, hf⟩ := am_g_of hf
    refine am_blk hX 13 1 (And.intro g3 (am_rpi hf))
  · intro J25 hJ25 hf
    refine am_jn hf (fun J24 => J24 = some rE → X 24 [] [] s0) ?_ ?_
    · intro hf
      refine am_blk hX 12 1 (?_)
      show X 25 [] [.inl (0 : Int32)] s0
      exact am_wk hX [] (hJ25 (0 : Int32) hf)
    · intro J24 hJ24 hf
      refine am_blk hX 0 5 (And.intro rfl (And.intro rfl (Exists.intro s0 (Exists.intro (some (.inl v1)) (And.intro (tX4_byteAt l (d + 0) hcv1) (And.intro (fun hb => ?_) (fun hb => ?_)))))))
      · have hf := am_it hf hb
        show X 24 [(0, .inr (.inr ((5, 0, 0), o0))), (1, .inl a1)] [] s0
        exact am_wk hX [] (hJ24 hf)
      · have hf := am_if hf hb
        show X 10 [(0, .inr (.inr ((5, 0, 0), o0))), (1, .inl a1)] [] s0
        obtain ⟨v4, hcv4, hf⟩ := am_r_of hf
        refine am_blk hX 5 5 (And.intro rfl (And.intro rfl (Exists.intro s0 (Exists.intro (some (.inl v4)) (And.intro (tX4_byteAt l (d + 0) hcv4) (And.intro (fun hb => ?_) (fun hb => ?_)))))))
        · have hf := am_it hf hb
          show X 24 [(0, .inr (.inr ((5, 0, 0), o0))), (1, .inl a1)] [] s0
          exact am_wk hX [] (hJ24 hf)
        · have hf := am_if hf hb
          show X 20 [(0, .inr (.inr ((5, 0, 0), o0))), (1, .inl a1)] [] s0
          refine am_blk hX 10 2 (?_)
          show X 25 [(0, .inr (.inr ((5, 0, 0), o0))), (1, .inl a1)] [.inl (1 : Int32)] s0
          exact am_wk hX [] (hJ25 (1 : Int32) hf)
