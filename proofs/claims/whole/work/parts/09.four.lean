/-! ONE STEP: Math, arraycopy, answers; the whole step; THE SIMULATION. -/
section AMD
variable {p : Program} {l : Launch} {e : Env} {R : Room} {s : State} {m : MethodId} {args : Array Value} {below : List Frame} {meth : Method} {c : Code} {H : Heap} {locs : List Loc} {Q : State → Prop}
variable {D : va_G} {cy : Nat → ClassId} {ad sd sv : Nat → Nat} {A : Nat → Prop} {M : AM} {pc : Nat} {ls : Array Slot} {lv : AL} {st : List AV} {σ : AS} {d cl sl : Nat}
theorem am_1_max (C : am_Cx p R cl sl d s m args meth c M D cy sd sv A) {n : Nat} {k : Nat} (hmx : am_mx M.1 k = some 0) (hd : decode M.2.2.1 pc = .ok (.invokestatic k, n)) (hi : am_iok M.2.2.2.1 pc (.invokestatic k) n = true) (h : am_i2 st fun x y r => Nat.ble (r.map am_cat).sum 8 = true ∧ am_X p l e R cl sl s m args below meth c Q M D cy ad sd A (pc + 3) lv (.inl (if x < y then y else x) :: r) σ) : am_X p l e R cl sl s m args below meth c Q M D cy ad sd A pc lv st σ := by
  obtain ⟨hx, hb, hml, hown, hts, hr, hlk, ho, hE, hA, hm20, hR1, hR2, hR3, hR4⟩ := C
  intro hlv hst hk H locs ls hP hD hS hl
  obtain rfl := am_iok_n rfl hi
  obtain ⟨x, y, r, rfl, hcat, h⟩ := am_i2_of h
  obtain ⟨p9, hok9⟩ := am_mx_ok ho hmx
  have hl9 := hts _ (am_has_in hok9)
  have h8 := Nat.le_of_ble_eq_true hcat
  refine va_mmax hx hb (hml.trans hl.1.symm) hown hl9 (hts _ (am_fix_T (by simp))) (hts _ (am_fix_T (by simp))) (hts _ (am_fix_T (by simp))) (Nat.le_trans (Nat.le_add_left 1 d) hR1) ?_ hR3 hR4 hd (h hlv (am_okc trivial (am_okt (am_okt hst))) hk H locs ls hP hD hS hl)
  have := am_cat_sum (ad := ad) (sd := sd) r
  show (List.map (fun v => v.category) (List.map (ac_v ad sd) r)).sum + 13 ≤ R.locals
  omega
theorem am_1_min (C : am_Cx p R cl sl d s m args meth c M D cy sd sv A) {n : Nat} {k : Nat} (hmx : am_mx M.1 k = some 1) (hd : decode M.2.2.1 pc = .ok (.invokestatic k, n)) (hi : am_iok M.2.2.2.1 pc (.invokestatic k) n = true) (h : am_i2 st fun x y r => Nat.ble (r.map am_cat).sum 8 = true ∧ am_X p l e R cl sl s m args below meth c Q M D cy ad sd A (pc + 3) lv (.inl (if y < x then y else x) :: r) σ) : am_X p l e R cl sl s m args below meth c Q M D cy ad sd A pc lv st σ := by
  obtain ⟨hx, hb, hml, hown, hts, hr, hlk, ho, hE, hA, hm20, hR1, hR2, hR3, hR4⟩ := C
  intro hlv hst hk H locs ls hP hD hS hl
  obtain rfl := am_iok_n rfl hi
  obtain ⟨x, y, r, rfl, hcat, h⟩ := am_i2_of h
  obtain ⟨p9, hok9⟩ := am_mx_ok ho hmx
  have hl9 := hts _ (am_has_in hok9)
  have h8 := Nat.le_of_ble_eq_true hcat
  refine va_mmin hx hb (hml.trans hl.1.symm) hown hl9 (hts _ (am_fix_T (by simp))) (hts _ (am_fix_T (by simp))) (hts _ (am_fix_T (by simp))) (Nat.le_trans (Nat.le_add_left 1 d) hR1) ?_ hR3 hR4 hd (h hlv (am_okc trivial (am_okt (am_okt hst))) hk H locs ls hP hD hS hl)
  have := am_cat_sum (ad := ad) (sd := sd) r
  show (List.map (fun v => v.category) (List.map (ac_v ad sd) r)).sum + 13 ≤ R.locals
  omega
theorem am_1_copy (C : am_Cx p R cl sl d s m args meth c M D cy sd sv A) {n : Nat} {k : Nat} (hca : am_ca M.1 k = true) (hd : decode M.2.2.1 pc = .ok (.invokestatic k, n)) (hi : am_iok M.2.2.2.1 pc (.invokestatic k) n = true) (h : am_i1 st fun n r => am_i1 r fun dp r => am_r1 r fun u b r => am_i1 r fun sp r => am_r1 r fun t a r => Nat.ble (r.map am_cat).sum 8 = true ∧ am_cp t u a b sp dp n σ fun σ' => am_X p l e R cl sl s m args below meth c Q M D cy ad sd A (pc + 3) lv r σ') : am_X p l e R cl sl s m args below meth c Q M D cy ad sd A pc lv st σ := by
  obtain ⟨hx, hb, hml, hown, hts, hr, hlk, ho, hE, hA, hm20, hR1, hR2, hR3, hR4⟩ := C
  intro hlv hst hk H locs ls hP hD hS hl
  obtain rfl := am_iok_n rfl hi
  obtain ⟨n9, r1, e1, h1⟩ := am_i1_of h
  subst e1
  obtain ⟨dp, r2, e1, h2⟩ := am_i1_of h1
  subst e1
  obtain ⟨u, b, r3, e1, h3⟩ := am_r1_of h2
  subst e1
  obtain ⟨sp, r4, e1, h4⟩ := am_i1_of h3
  subst e1
  obtain ⟨t, a, r, e1, h5⟩ := am_r1_of h4
  subst e1
  clear h h1 h2 h3 h4
  obtain ⟨hcat, h⟩ := h5
  have h8 := Nat.le_of_ble_eq_true hcat
  obtain ⟨⟨g1, g2, g3, g4, g5⟩, h⟩ := h
  have ho1 : am_okr u b := am_okh (am_okt (am_okt hst))
  have ho2 : am_okr t a := am_okh (am_okt (am_okt (am_okt (am_okt hst))))
  have hor : ∀ x ∈ r, am_okv x := am_okt (am_okt (am_okt (am_okt (am_okt hst))))
  have hl9 := hts _ (am_ca_ok ho hca)
  have hloc : (List.map (fun v => v.category) (List.map (ac_v ad sd) r)).sum + (nativeFrameWords "java/lang/System" "arraycopy" 5 + 11) ≤ R.locals := by
    have := am_cat_sum (ad := ad) (sd := sd) r
    have h7 : nativeFrameWords "java/lang/System" "arraycopy" 5 = 7 := by decide +kernel
    rw [h7]
    omega
  split at h
  · rename_i e1 e2
    obtain ⟨k1, k2, k3⟩ := am_okr_a ho2 e1 (by decide) ad sd
    obtain ⟨q1, q2, q3⟩ := am_okr_a ho1 e2 (by decide) ad sd
    have he := am_w_get (cy := cy) (ad := ad) (σ := σ) k1
    rw [am_cell_i (by rw [k2]; exact e1) (Or.inr (Or.inl rfl)), k2] at he
    have hf := am_w_get (cy := cy) (ad := ad) (σ := σ) q1
    rw [am_cell_i (by rw [q2]; exact e2) (Or.inr (Or.inl rfl)), q2] at hf
    rw [List.map_cons, List.map_cons, List.map_cons, List.map_cons, List.map_cons, k3, q3]
    refine va_copyi hx hb (hml.trans hl.1.symm) hown hl9 (hts _ (am_fix_T (by simp))) (hts _ (am_fix_T (by simp))) (hts _ (am_fix_T (by simp))) hE.1 hP hD hS a b 1 1 he hf rfl rfl rfl g1 g2 g3 g4 g5 (fun _ _ => rfl) (Nat.le_trans (Nat.le_add_left 1 d) hR1) hloc hd (fun H1 locs1 hP1 hD1 hS1 => ?_)
    rw [am_w_set (σ := σ) (σ' := am_sr σ b (va_cpy (σ.1 a) (σ.1 b) sp.toNatClampNeg dp.toNatClampNeg n9.toNatClampNeg)) q1 (by rw [am_cell_i (by rw [q2]; exact e2) (Or.inr (Or.inl rfl)), q2]; simp [am_sr, am_u2]) (fun j _ e => am_cell_eq (by simp [am_sr, am_u2, e]) rfl)] at hP1 hD1
    exact h hlv hor (am_hok_sr hk (by rw [q2]; omega)) H1 locs1 ls hP1 hD1 hS1 hl
  · rename_i e1 e2
    obtain ⟨k1, k2, k3⟩ := am_okr_a ho2 e1 (by decide) ad sd
    obtain ⟨q1, q2, q3⟩ := am_okr_a ho1 e2 (by decide) ad sd
    have he := am_w_get (cy := cy) (ad := ad) (σ := σ) k1
    rw [am_cell_j (by rw [k2]; exact e1), k2] at he
    have hf := am_w_get (cy := cy) (ad := ad) (σ := σ) q1
    rw [am_cell_j (by rw [q2]; exact e2), q2] at hf
    rw [List.map_cons, List.map_cons, List.map_cons, List.map_cons, List.map_cons, k3, q3]
    refine va_copyl hx hb (hml.trans hl.1.symm) hown hl9 (hts _ (am_fix_T (by simp))) (hts _ (am_fix_T (by simp))) (hts _ (am_fix_T (by simp))) hE.1 hP hD hS a b 2 2 he hf rfl rfl rfl g1 g2 g3 g4 g5 (fun _ _ => rfl) (Nat.le_trans (Nat.le_add_left 1 d) hR1) hloc hd (fun H1 locs1 hP1 hD1 hS1 => ?_)
    rw [am_w_set (σ := σ) (σ' := am_srj σ b (va_cpy (σ.2 a) (σ.2 b) sp.toNatClampNeg dp.toNatClampNeg n9.toNatClampNeg)) q1 (by rw [am_cell_j (by rw [q2]; exact e2), q2]; simp [am_srj, am_u2]) (fun j _ e => am_cell_eq rfl (by simp [am_srj, am_u2, e]))] at hP1 hD1
    exact h hlv hor (am_hok_j hk rfl) H1 locs1 ls hP1 hD1 hS1 hl
  · exact h.elim
/-- the method's own end -/
def am_Fin (s : State) (args : Array Value) (Qc : Array Value → State → Outcome → State → Prop) (D : va_G) (cy : Nat → ClassId) (ad sd : Nat → Nat) (A : Nat → Prop) (fin : Option AV → AS → Prop) : Prop :=
  ∀ (r : Option AV) (σ : AS), fin r σ → am_hok σ → (∀ v, r = some v → am_okv v) → ∀ (H : Heap) (locs : List Loc) (t : State), va_P D am_cls (am_w cy ad σ) H → va_S A s.heap H locs → t.heap = H → Qc args s (.returned (r.map (ac_v ad sd))) t
theorem am_1_ireturn (C : am_Cx p R cl sl d s m args meth c M D cy sd sv A) {Qc : Array Value → State → Outcome → State → Prop} {fin : Option AV → AS → Prop} (hF : am_Fin s args Qc D cy ad sd A fin) {n : Nat} (hd : decode M.2.2.1 pc = .ok (.ireturn, n)) (hi : am_iok M.2.2.2.1 pc .ireturn n = true) (h : (match st with
    | [.inl v] => am_rn M.2.2.2.2.1 v (fin (some (.inl v)) σ)
    | _ => False)) : am_X p l e R cl sl s m args below meth c (MQ below Qc args s cl sl A) M D cy ad sd A pc lv st σ := by
  obtain ⟨hx, hb, hml, hown, hts, hr, hlk, ho, hE, hA, hm20, hR1, hR2, hR3, hR4⟩ := C
  intro hlv hst hk H locs ls hP hD hS hl
  obtain rfl := am_iok_n rfl hi
  split at h
  · rename_i v
    unfold am_rn at h
    split at h
    · rename_i hrt
      exact W.iret hx hb (hr.trans hrt) (fun t ht _ => hF _ _ h hk (fun _ z => by cases z; trivial) H locs t hP hS ht) hS.2.2 hd hlk
    · rename_i hrt
      exact W.zret hx hb (hr.trans hrt) (by rcases h.1 with z | z <;> rw [z] <;> rfl) (fun t ht _ => hF _ _ h.2 hk (fun _ z => by cases z; trivial) H locs t hP hS ht) hS.2.2 hd hlk
    · rename_i hrt
      exact W.zret hx hb (hr.trans hrt) (congrArg Value.int h.1) (fun t ht _ => hF _ _ h.2 hk (fun _ z => by cases z; trivial) H locs t hP hS ht) hS.2.2 hd hlk
    · rename_i hrt
      exact W.zret hx hb (hr.trans hrt) (congrArg Value.int h.1) (fun t ht _ => hF _ _ h.2 hk (fun _ z => by cases z; trivial) H locs t hP hS ht) hS.2.2 hd hlk
    · exact h.elim
  · exact h.elim
theorem am_1_lreturn (C : am_Cx p R cl sl d s m args meth c M D cy sd sv A) {Qc : Array Value → State → Outcome → State → Prop} {fin : Option AV → AS → Prop} (hF : am_Fin s args Qc D cy ad sd A fin) {n : Nat} (hd : decode M.2.2.1 pc = .ok (.lreturn, n)) (hi : am_iok M.2.2.2.1 pc .lreturn n = true) (h : (match st with
    | [.inr (.inl v)] => M.2.2.2.2.1 = some .long ∧ fin (some (.inr (.inl v))) σ
    | _ => False)) : am_X p l e R cl sl s m args below meth c (MQ below Qc args s cl sl A) M D cy ad sd A pc lv st σ := by
  obtain ⟨hx, hb, hml, hown, hts, hr, hlk, ho, hE, hA, hm20, hR1, hR2, hR3, hR4⟩ := C
  intro hlv hst hk H locs ls hP hD hS hl
  obtain rfl := am_iok_n rfl hi
  split at h
  · exact W.lret hx hb (hr.trans h.1) (fun t ht _ => hF _ _ h.2 hk (fun _ z => by cases z; trivial) H locs t hP hS ht) hS.2.2 hd hlk
  · exact h.elim
theorem am_1_return (C : am_Cx p R cl sl d s m args meth c M D cy sd sv A) {Qc : Array Value → State → Outcome → State → Prop} {fin : Option AV → AS → Prop} (hF : am_Fin s args Qc D cy ad sd A fin) {n : Nat} (hd : decode M.2.2.1 pc = .ok (.return_, n)) (hi : am_iok M.2.2.2.1 pc .return_ n = true) (h : (match st with
    | [] => M.2.2.2.2.1 = none ∧ fin none σ
    | _ => False)) : am_X p l e R cl sl s m args below meth c (MQ below Qc args s cl sl A) M D cy ad sd A pc lv st σ := by
  obtain ⟨hx, hb, hml, hown, hts, hr, hlk, ho, hE, hA, hm20, hR1, hR2, hR3, hR4⟩ := C
  intro hlv hst hk H locs ls hP hD hS hl
  obtain rfl := am_iok_n rfl hi
  split at h
  · exact W.vret hx hb (hr.trans h.1) (fun t ht _ => hF _ _ h.2 hk (fun _ z => by cases z) H locs t hP hS ht) hS.2.2 hd hlk
  · exact h.elim
theorem am_1_areturn (C : am_Cx p R cl sl d s m args meth c M D cy sd sv A) {Qc : Array Value → State → Outcome → State → Prop} {fin : Option AV → AS → Prop} (hF : am_Fin s args Qc D cy ad sd A fin) {n : Nat} (hd : decode M.2.2.1 pc = .ok (.areturn, n)) (hi : am_iok M.2.2.2.1 pc .areturn n = true) (h : (match st with
    | [.inr (.inr (t, o))] => (t.1 = 12 ∧ M.2.2.2.2.1 = some (.object "MarchFolk$Ways")) ∧ fin (some (.inr (.inr (t, o)))) σ
    | _ => False)) : am_X p l e R cl sl s m args below meth c (MQ below Qc args s cl sl A) M D cy ad sd A pc lv st σ := by
  obtain ⟨hx, hb, hml, hown, hts, hr, hlk, ho, hE, hA, hm20, hR1, hR2, hR3, hR4⟩ := C
  intro hlv hst hk H locs ls hP hD hS hl
  obtain rfl := am_iok_n rfl hi
  split at h
  · rename_i t o
    refine W.aret hx hb (hr.trans h.1.2) (Or.inl ⟨_, rfl⟩) ?_ (fun t ht _ => hF _ _ h.2 hk (fun _ z => by cases z; exact am_okh hst) H locs t hP hS ht) hS.2.2 hd hlk
    simp only [ac_v, h.1.1, if_neg (show ¬ (12 : Nat) = 0 by decide), if_neg (show ¬ (12 : Nat) = 11 by decide), if_pos]
    split
    · exact Or.inl rfl
    · exact Or.inr ⟨_, rfl⟩
  · exact h.elim
def am_ret : Instr → Bool
  | .ireturn => true
  | .lreturn => true
  | .areturn => true
  | .return_ => true
  | _ => false
set_option maxHeartbeats 4000000 in
theorem am_one0 (C : am_Cx p R cl sl d s m args meth c M D cy sd sv A) {fin : Option AV → AS → Prop} {P : AP} (hPc : ∀ m as σ σ' v, P m as σ σ' v → am_Ct l d m as σ σ' v) {n : Nat} {i : Instr} (hd : decode M.2.2.1 pc = .ok (i, n)) (hi : am_iok M.2.2.2.1 pc i n = true) (hnr : am_ret i = false)
    (h : am_1 M P fin (am_X p l e R cl sl s m args below meth c Q M D cy ad sd A) i pc lv st σ) : am_X p l e R cl sl s m args below meth c Q M D cy ad sd A pc lv st σ := by
  cases i with
  | iconst _ => exact am_1_iconst C hd hi h
  | bipush _ => exact am_1_bipush C hd hi h
  | sipush _ => exact am_1_sipush C hd hi h
  | lconst _ => exact am_1_lconst C hd hi h
  | ldc _ => exact am_1_ldc C hd hi h
  | ldc_w _ => exact am_1_ldc_w C hd hi h
  | ldc2_w _ => exact am_1_ldc2_w C hd hi h
  | iload_n _ => exact am_1_iload_n C hd hi h
  | iload _ => exact am_1_iload C hd hi h
  | lload_n _ => exact am_1_lload_n C hd hi h
  | lload _ => exact am_1_lload C hd hi h
  | aload_n _ => exact am_1_aload_n C hd hi h
  | aload _ => exact am_1_aload C hd hi h
  | istore_n _ => exact am_1_istore_n C hd hi h
  | istore _ => exact am_1_istore C hd hi h
  | lstore_n _ => exact am_1_lstore_n C hd hi h
  | lstore _ => exact am_1_lstore C hd hi h
  | astore_n _ => exact am_1_astore_n C hd hi h
  | astore _ => exact am_1_astore C hd hi h
  | iinc _ _ => exact am_1_iinc C hd hi h
  | dup => exact am_1_dup C hd hi h
  | dup2 => exact am_1_dup2 C hd hi h
  | pop => exact am_1_pop C hd hi h
  | iadd => exact am_1_iadd C hd hi h
  | isub => exact am_1_isub C hd hi h
  | imul => exact am_1_imul C hd hi h
  | idiv => exact am_1_idiv C hd hi h
  | irem => exact am_1_irem C hd hi h
  | ishl => exact am_1_ishl C hd hi h
  | ishr => exact am_1_ishr C hd hi h
  | iushr => exact am_1_iushr C hd hi h
  | iand => exact am_1_iand C hd hi h
  | ior => exact am_1_ior C hd hi h
  | ixor => exact am_1_ixor C hd hi h
  | ladd => exact am_1_ladd C hd hi h
  | lsub => exact am_1_lsub C hd hi h
  | lmul => exact am_1_lmul C hd hi h
  | ldiv => exact am_1_ldiv C hd hi h
  | lrem => exact am_1_lrem C hd hi h
  | land => exact am_1_land C hd hi h
  | lor => exact am_1_lor C hd hi h
  | lshl => exact am_1_lshl C hd hi h
  | lshr => exact am_1_lshr C hd hi h
  | i2l => exact am_1_i2l C hd hi h
  | l2i => exact am_1_l2i C hd hi h
  | i2b => exact am_1_i2b C hd hi h
  | i2s => exact am_1_i2s C hd hi h
  | lcmp => exact am_1_lcmp C hd hi h
  | ifCond c9 _ =>
    cases c9 with
    | eq => exact am_1_if_eq C hd hi h
    | ne => exact am_1_if_ne C hd hi h
    | lt => exact am_1_if_lt C hd hi h
    | ge => exact am_1_if_ge C hd hi h
    | gt => exact am_1_if_gt C hd hi h
    | le => exact am_1_if_le C hd hi h
  | if_icmp c9 _ =>
    cases c9 with
    | eq => exact am_1_icmp_eq C hd hi h
    | ne => exact am_1_icmp_ne C hd hi h
    | lt => exact am_1_icmp_lt C hd hi h
    | ge => exact am_1_icmp_ge C hd hi h
    | gt => exact am_1_icmp_gt C hd hi h
    | le => exact am_1_icmp_le C hd hi h
  | goto _ => exact am_1_goto C hd hi h
  | tableswitch _ _ _ _ => exact am_1_tableswitch C hd hi h
  | lookupswitch _ _ => exact am_1_lookupswitch C hd hi h
  | ifnull _ => exact am_1_ifnull C hd hi h
  | getfield _ => exact am_1_getfield C hd hi h
  | getstatic _ => exact am_1_getstatic C hd hi h
  | i2c => exact am_1_i2c C hd hi h
  | putfield _ => exact am_1_putfield C hd hi h
  | iaload => exact am_1_iaload C hd hi h
  | baload => exact am_1_baload C hd hi h
  | laload => exact am_1_laload C hd hi h
  | aaload => exact am_1_aaload C hd hi h
  | iastore => exact am_1_iastore C hd hi h
  | bastore => exact am_1_bastore C hd hi h
  | lastore => exact am_1_lastore C hd hi h
  | arraylength => exact am_1_arraylength C hd hi h
  | ireturn => cases hnr
  | lreturn => cases hnr
  | areturn => cases hnr
  | return_ => cases hnr
  | invokestatic k =>
    have h : am_ivs M P (am_X p l e R cl sl s m args below meth c Q M D cy ad sd A) k pc lv st σ := h
    unfold am_ivs at h
    split at h
    · rename_i m9 hm9
      split at h
      · rename_i as r hpop
        exact am_1_callS C hPc hm9 hpop h.1 hd hi h.2
      · exact h.elim
    · rename_i m9 hm9
      split at h
      · rename_i as r hpop
        exact am_1_callSN C hPc hm9 hpop h.1 hd hi h.2
      · exact h.elim
    · exact h.elim
    · split at h
      · rename_i hmx
        exact am_1_max C hmx hd hi h
      · rename_i hmx
        exact am_1_min C hmx hd hi h
      · exact h.elim
      · exact am_1_copy C h.1 hd hi h.2
  | invokevirtual k =>
    have h : am_ivv M P (am_X p l e R cl sl s m args below meth c Q M D cy ad sd A) k pc lv st σ := h
    unfold am_ivv at h
    split at h
    · rename_i m9 hm9
      split at h
      · rename_i as t o r hpop
        exact am_1_callV C hPc hm9 hpop h.1 h.2.1 hd hi h.2.2
      · exact h.elim
    · exact h.elim
  | _ => exact h.elim
set_option maxHeartbeats 4000000 in
theorem am_one (C : am_Cx p R cl sl d s m args meth c M D cy sd sv A) {Qc : Array Value → State → Outcome → State → Prop} {fin : Option AV → AS → Prop} (hF : am_Fin s args Qc D cy ad sd A fin) {P : AP} (hPc : ∀ m as σ σ' v, P m as σ σ' v → am_Ct l d m as σ σ' v) {n : Nat} {i : Instr} (hd : decode M.2.2.1 pc = .ok (i, n)) (hi : am_iok M.2.2.2.1 pc i n = true)
    (h : am_1 M P fin (am_X p l e R cl sl s m args below meth c (MQ below Qc args s cl sl A) M D cy ad sd A) i pc lv st σ) : am_X p l e R cl sl s m args below meth c (MQ below Qc args s cl sl A) M D cy ad sd A pc lv st σ := by
  cases i with
  | ireturn => exact am_1_ireturn C hF hd hi h
  | lreturn => exact am_1_lreturn C hF hd hi h
  | areturn => exact am_1_areturn C hF hd hi h
  | return_ => exact am_1_return C hF hd hi h
  | _ => exact am_one0 C hPc hd hi rfl h
end AMD
/-- what every method is told of: X is closed under the machine's steps, and under forgetting of locals -/
def am_clo (M : AM) (code : List (Nat × Instr × Nat)) (P : AP) (fin : Option AV → AS → Prop) (X : Nat → AL → List AV → AS → Prop) : Prop :=
  (∀ pc i n lv st σ, (pc, i, n) ∈ code → am_1 M P fin X i pc lv st σ → X pc lv st σ) ∧ ∀ pc lv lv' st σ, X pc lv' st σ → (∀ q ∈ lv', q ∈ lv) → X pc lv st σ
def am_args : Nat → List AV → AL
  | _, [] => []
  | i, v :: vs => (i, v) :: am_args (i + am_cat v) vs
def am_RR (M : AM) (code : List (Nat × Instr × Nat)) (P : AP) (as : List AV) (σ σ' : AS) (r : Option AV) : Prop :=
  ∀ X, am_clo M code P (fun r' σ'' => r' = r ∧ σ'' = σ') X → X 0 (am_args 0 as) [] σ
theorem am_args_eq (ad sd : Nat → Nat) : ∀ (as : List AV) (i : Nat), lv_args i (as.map (ac_v ad sd)) = ac_l ad sd (am_args i as)
  | [], _ => rfl
  | v :: vs, i => by
    have h1 : (if (ac_v ad sd v).category = 2 then i + 2 else i + 1) = i + am_cat v := by
      rw [ac_cat]
      rcases v with x | x | x <;> rfl
    show (i, ac_v ad sd v) :: lv_args _ (vs.map (ac_v ad sd)) = (i, ac_v ad sd v) :: ac_l ad sd (am_args _ vs)
    rw [h1, am_args_eq ad sd vs]
theorem am_args_ok : ∀ (as : List AV) (i : Nat), (∀ v ∈ as, am_okv v) → ∀ q ∈ am_args i as, am_okv q.2
  | [], _, _, q, hq => by cases hq
  | v :: vs, i, h, q, hq => by
    rcases List.mem_cons.mp hq with hq | hq
    · rw [hq]; exact h v List.mem_cons_self
    · exact am_args_ok vs _ (fun x hx => h x (List.mem_cons_of_mem _ hx)) q hq
theorem am_sl_len (ad sd : Nat → Nat) : ∀ (as : List AV), (lg_sl (as.map (ac_v ad sd))).length = (as.map am_cat).sum
  | [] => rfl
  | v :: vs => by
    have ih := am_sl_len ad sd vs
    have h1 : ((if (ac_v ad sd v).category = 2 then [Slot.val (ac_v ad sd v), Slot.second] else [Slot.val (ac_v ad sd v)])).length = am_cat v := by
      rw [ac_cat]
      rcases v with x | x | x <;> rfl
    simp only [lg_sl, List.map_cons, List.flatMap_cons, List.length_append, List.sum_cons] at ih ⊢
    rw [ih, h1]
/-- THE SIMULATION: a run of the abstract machine is a contract -/
theorem am_sim (l : Launch) (d : Nat) {M : AM} {code : List (Nat × Instr × Nat)} {as : List AV} {σ σ' : AS} {r : Option AV} (hM : am_mok M = true) (hw : Cond.code M.2.1 M.2.2.1 M.2.2.2.1 M.2.2.2.2.1 ∈ am_T) (hc : ∀ q ∈ code, decode M.2.2.1 q.1 = .ok (q.2.1, q.2.2) ∧ am_iok M.2.2.2.1 q.1 q.2.1 q.2.2 = true) (hn : (as.map am_cat).sum ≤ M.2.2.2.1) (h : am_RR M code (am_Ct l d) as σ σ' r) : am_Ct l (d + 1) M as σ σ' r := by
  refine ⟨hw, fun D cy ad sd sv sz hok hk => ?_⟩
  simp only [am_mok, Bool.and_eq_true, decide_eq_true_eq] at hM
  obtain ⟨⟨⟨⟨⟨⟨z1, z2⟩, z3⟩, z4⟩, z5⟩, z6⟩, z7⟩ := hM
  refine Met.ofW (cc := M.2.2.1) (maxL := M.2.2.2.1) (ret := M.2.2.2.2.1) z1 rfl ?_
  intro p e s m args below meth c s₁ B hml hv
  obtain ⟨rfl, hsz, hP, hD0, hE⟩ := hv
  subst hsz
  have hts := atoms_spec (ws := am_ws M) B.pre
  have hown : s.vm.findClass M.2.1.cls = some m.cls := findClass_of_methodNamed B.named
  rw [z6] at hown
  have hD : va_D (va_A (am_w cy ad σ) s.heap.size) (am_w cy ad σ) := hD0.self
  have C : am_Cx p (am_rm (d + 1)) 0 0 d s m (as.map (ac_v ad sd)).toArray meth c M D cy sd sv (va_A (am_w cy ad σ) s.heap.size) := ⟨B.exec, B.bytes, hml, hown, fun w hw => hts w (List.mem_cons_of_mem _ hw), B.returns, B.notSynchronized, Nat.lt_succ_of_lt z7, hE, fun q hq => Or.inr hq, z5, Nat.le_refl _, Nat.le_refl _, Nat.le_refl _, Nat.le_refl _⟩
  have hF : am_Fin s (as.map (ac_v ad sd)).toArray (am_Q D cy ad sd σ' r (va_A (am_w cy ad σ) s.heap.size)) D cy ad sd (va_A (am_w cy ad σ) s.heap.size) (fun r' σ'' => r' = r ∧ σ'' = σ') := by
    intro r' σ'' hr hk' hok' H locs t hP' hS' ht
    obtain ⟨rfl, rfl⟩ := hr
    exact ⟨⟨rfl, hk', hok', by rw [ht]; exact hP'⟩, hS'.F ht⟩
  have hX := h (am_X p l e (am_rm (d + 1)) 0 0 s m (as.map (ac_v ad sd)).toArray below meth c (MQ below (am_Q D cy ad sd σ' r (va_A (am_w cy ad σ) s.heap.size)) (as.map (ac_v ad sd)).toArray s 0 0 (va_A (am_w cy ad σ) s.heap.size)) M D cy ad sd (va_A (am_w cy ad σ) s.heap.size)) ⟨fun pc i n lv st σ2 hi h1 => by
      obtain ⟨g1, g2⟩ := hc _ hi
      exact am_one C hF (fun _ _ _ _ _ z => z) g1 g2 h1, fun pc lv lv' st σ2 h1 h2 => by
      intro hlv hst hk2 H locs ls g1 g2 g3 g4
      exact h1 (fun q hq => hlv q (h2 q hq)) hst hk2 H locs ls g1 g2 g3 ⟨g4.1, g4.2.1, fun q hq => by
        obtain ⟨q', hq', rfl⟩ := List.mem_map.mp hq
        exact g4.2.2 _ (List.mem_map.mpr ⟨q', h2 q' hq', rfl⟩)⟩⟩
  have hl := lv_entry (as.map (ac_v ad sd)) (n := M.2.2.2.1) (by rw [am_sl_len]; exact hn)
  rw [lg_entry_eq]
  rw [am_args_eq] at hl
  exact hX (am_args_ok as 0 hok) (fun v hv => by cases hv) hk s.heap [] _ hP hD va_S.rf hl
