/-! CONSTRUCTORS of the leaves, printed by wip/gen/gencons.py. -/
theorem kn_over {t : FieldType} {A : Array Value} {U : State} (h : va_Nw (.arrayOver (.array t)) U) : (Cond.arrayOver (.array t)).before A U = true := h
section KNA
variable {p : Program} {l : Launch} {e : Env} {R : Room} {s : State} {m : MethodId} {args : Array Value} {below : List Frame} {meth : Method} {c : Code} {H : Heap} {locs : List Loc} {cells slots : Nat} {Q : State → Prop}
variable {cc : ByteArray} {pc : Nat} {ls : Array Slot} {rest : List Value} {D : va_G} {cl : List vw_C} {tys : List (ClassId × FieldType)} {A : Nat → Prop} {ws : va_W} {H0 : Heap}
theorem kn_newa (hexec : p.tables.exec = Jvm.exec) (hb : c.code = cc) {atype : ArrayType} (harr : (Cond.arrayClass (newarray.typeOf atype)).before args s = true) {ty : FieldType} (hty : newarray.typeOf atype = ty) (hK : va_K D cl tys s) (k : Nat) {c9 : ClassId} (ht : tys[k]? = some (c9, ty)) (hra : ∀ c : ClassId, va_RA s c ty → s.vm.findClass ("[" ++ ty.toString) = some c) (hP : va_P D cl ws H) (hD : va_D A ws) (hS : va_S A H0 H locs) (hA : ∀ q, H0.size ≤ q → A q)
    {n : Int32} {N' : Nat} {a0 : vp_A} (ha : ∀ cA : ClassId, vp_cell cA a0 = arrV cA N' (fun _ => defaultValue ty)) (hn : ¬ n < 0) (hN : n.toNatClampNeg = N') (hbytes : N' * componentBytes ty ≤ 536870912) (hcells : cells + 1 ≤ R.cells) (hslots : slots + N' ≤ R.slots) (hdg : decode cc pc = .ok (.newarray atype, 2))
    (kk : ∀ (q : Nat) (H1 : Heap), va_P D cl (ws ++ [(q, .inl (c9, a0))]) H1 → va_D A (ws ++ [(q, .inl (c9, a0))]) → va_S A H0 H1 locs → W p l e R s m args below meth c H1 locs (cells + 1) (slots + N') Q (F0 m (pc + 2) ls (.ref q :: rest))) : W p l e R s m args below meth c H locs cells slots Q (F0 m pc ls (.int n :: rest)) := by
  refine va_newa hexec hb harr hty hK hP hD hS hA ha hn hN hbytes hcells hslots hdg (fun q cA H1 hK1 hP1 hD1 hS1 => ?_)
  have e1 := hra _ (hK1.2 tys.length (cA, ty) (by rw [List.getElem?_append_right (Nat.le_refl _), Nat.sub_self]; rfl)).2
  have e2 := hra _ (hK.2 k _ ht).2
  have ec : cA = c9 := Option.some.inj (e1.symm.trans e2)
  subst ec
  exact kk q H1 hP1 hD1 hS1
end KNA
theorem dX0_init_0 : decode cX0_init 0 = .ok (.aload_n 0, 1) := by decide +kernel
theorem dX0_init_1 : decode cX0_init 1 = .ok (.invokespecial 3, 3) := by decide +kernel
theorem dX0_init_4 : decode cX0_init 4 = .ok (.aload_n 0, 1) := by decide +kernel
theorem dX0_init_5 : decode cX0_init 5 = .ok (.bipush 40, 2) := by decide +kernel
theorem dX0_init_7 : decode cX0_init 7 = .ok (.newarray .int, 2) := by decide +kernel
theorem dX0_init_9 : decode cX0_init 9 = .ok (.putfield 9, 3) := by decide +kernel
theorem dX0_init_12 : decode cX0_init 12 = .ok (.aload_n 0, 1) := by decide +kernel
theorem dX0_init_13 : decode cX0_init 13 = .ok (.bipush 40, 2) := by decide +kernel
theorem dX0_init_15 : decode cX0_init 15 = .ok (.newarray .int, 2) := by decide +kernel
theorem dX0_init_17 : decode cX0_init 17 = .ok (.putfield 15, 3) := by decide +kernel
theorem dX0_init_20 : decode cX0_init 20 = .ok (.return_, 1) := by decide +kernel
theorem kw_254 : Cond.methodLink RX0 3 objectInit ∈ am_T := am_has_in (p := 254) (by decide +kernel)
theorem kw_153 : Cond.instanceMethod objectInit ∈ am_T := am_has_in (p := 153) (by decide +kernel)
set_option maxRecDepth 100000 in
theorem kw_154 : Cond.code objectInit ⟨#[0xb1]⟩ 1 none ∈ am_T := List.mem_filter.mpr ⟨List.mem_of_getElem? (i := 154) rfl, rfl⟩
theorem kw_248 : Cond.arrayClass .int ∈ am_T := am_has_in (p := 248) (by decide +kernel)
theorem kw_261 : Cond.fieldLink RX0 9 "MarchFolk$Acts" "answeredAhead" "[I" ∈ am_T := am_has_in (p := 261) (by decide +kernel)
theorem kw_262 : Cond.fieldLink RX0 15 "MarchFolk$Acts" "barredAhead" "[I" ∈ am_T := am_has_in (p := 262) (by decide +kernel)
set_option maxHeartbeats 40000000 in
set_option maxRecDepth 100000 in
theorem kc_X0 (l : Launch) (D : va_G) (cy : Nat → ClassId) : kn_Con l D cy yX0_init cX0_init 1 0 [.int 0, .int 0, .int 0, .null, .null] [] 1 2 80 3 (kn_cell cy 47) := by
  intro h0 sz
  refine Met.ofW (cc := cX0_init) (maxL := 1) (ret := none) (by decide) rfl ?_
  intro p e s m args below meth c s₁ B hml hv
  obtain ⟨rfl, hsz, hP, hD0, hE⟩ := hv
  have hx := B.exec
  have hb := B.bytes
  have hr := B.returns
  have hts0 := atoms_spec (ws := kn_ws yX0_init cX0_init 1) B.pre
  have hts : ∀ w ∈ am_T, w.before _ s = true := fun w hw => hts0 w (List.mem_cons_of_mem _ hw)
  have hown : s.vm.findClass RX0 = some m.cls := findClass_of_methodNamed B.named
  have hlocks := B.notSynchronized
  have hin : meth.name = "<init>" := (name_of_methodNamed B.named B.method).1
  subst hsz
  have hD := hD0.self (sz := s.heap.size)
  generalize hAe : va_A [(h0, .inr (0, [.int 0, .int 0, .int 0, .null, .null]))] s.heap.size = A at hD ⊢
  have hA : ∀ q : Nat, s.heap.size ≤ q → A q := fun q h => by rw [← hAe]; exact Or.inr h
  have hS : va_S A s.heap s.heap [] := va_S.rf
  have hK := hE.1
  have F : kn_F p c cX0_init 1 s m _ RX0 D cy := ⟨hx, hb, hml, hts, hown, hE⟩
  have hl := lv_entry ([.ref h0]) (n := 1) (Nat.le_of_ble_eq_true rfl)
  rw [lg_entry_eq]
  generalize (lg_sl ([.ref h0]) ++ List.replicate (1 - (lg_sl ([.ref h0])).length) Slot.unset).toArray = ls at hl ⊢
  have hl : lv_has ls 1 [(0, .ref h0)] := hl
  refine lv_aload_n hx hb dX0_init_0 rfl (lv_at hl 0 rfl) ?_
  refine W.objInit hx hb hown (hts _ kw_254) (hts _ kw_153) (hts _ kw_154) rfl (by rw [hml]; exact hl.1) rfl dX0_init_1 (Nat.le_of_ble_eq_true rfl) (Nat.le_of_ble_eq_true rfl) ?_
  refine W.eq (g2 := F0 m 4 ls []) rfl ?_
  have hP : va_P D am_cls ([(h0, .inr (0, [.int 0, .int 0, .int 0, .null, .null]))]) s.heap := hP
  refine lv_aload_n hx hb dX0_init_4 rfl (lv_at hl 0 rfl) ?_
  refine lv_bipush (v := 40) hx hb dX0_init_5 (by decide) ?_
  refine kn_newa (atype := .int) (ty := .int) (c9 := cy 21) (N' := 40) (a0 := (40, .inl (fun _ => 0))) hx hb (hts _ kw_248) rfl hK 1 rfl (fun _ h9 => h9) hP hD hS hA (fun _ => rfl) (by decide) (by decide) (Nat.le_of_ble_eq_true rfl) (Nat.le_of_ble_eq_true rfl) (Nat.le_of_ble_eq_true rfl) dX0_init_7 (fun q1 H hP hD hS => ?_)
  have hP : va_P D am_cls ([(h0, .inr (0, [.int 0, .int 0, .int 0, .null, .null]))] ++ [(q1, .inl (cy 21, 40, .inl (fun _ => 0)))]) H := hP
  have hD : va_D A ([(h0, .inr (0, [.int 0, .int 0, .int 0, .null, .null]))] ++ [(q1, .inl (cy 21, 40, .inl (fun _ => 0)))]) := hD
  refine va_putF (D := D) (ci := 0) (v := .ref q1) (ty := .array .int) (C := RX0) (T := TX0) (N := 5) hx hb hts (am_ws_T (ci := 0) (by omega)) tyX0 tyX0_ok nmX0 hown hK hP hD hS 0 rfl rfl 3 (by decide) (hts _ kw_261) (fun _ h9 => h9) rfl hin rfl (by decide +kernel) rfl rfl (Nat.le_of_ble_eq_true rfl) dX0_init_9 (fun H locs hP hD hS => ?_)
  have hP : va_P D am_cls ([(h0, .inr (0, [.int 0, .int 0, .int 0, .ref q1, .null]))] ++ [(q1, .inl (cy 21, 40, .inl (fun _ => 0)))]) H := hP
  have hD : va_D A ([(h0, .inr (0, [.int 0, .int 0, .int 0, .ref q1, .null]))] ++ [(q1, .inl (cy 21, 40, .inl (fun _ => 0)))]) := hD
  refine lv_aload_n hx hb dX0_init_12 rfl (lv_at hl 0 rfl) ?_
  refine lv_bipush (v := 40) hx hb dX0_init_13 (by decide) ?_
  refine kn_newa (atype := .int) (ty := .int) (c9 := cy 21) (N' := 40) (a0 := (40, .inl (fun _ => 0))) hx hb (hts _ kw_248) rfl hK 1 rfl (fun _ h9 => h9) hP hD hS hA (fun _ => rfl) (by decide) (by decide) (Nat.le_of_ble_eq_true rfl) (Nat.le_of_ble_eq_true rfl) (Nat.le_of_ble_eq_true rfl) dX0_init_15 (fun q2 H hP hD hS => ?_)
  have hP : va_P D am_cls ([(h0, .inr (0, [.int 0, .int 0, .int 0, .ref q1, .null]))] ++ [(q1, .inl (cy 21, 40, .inl (fun _ => 0)))] ++ [(q2, .inl (cy 21, 40, .inl (fun _ => 0)))]) H := hP
  have hD : va_D A ([(h0, .inr (0, [.int 0, .int 0, .int 0, .ref q1, .null]))] ++ [(q1, .inl (cy 21, 40, .inl (fun _ => 0)))] ++ [(q2, .inl (cy 21, 40, .inl (fun _ => 0)))]) := hD
  refine va_putF (D := D) (ci := 0) (v := .ref q2) (ty := .array .int) (C := RX0) (T := TX0) (N := 5) hx hb hts (am_ws_T (ci := 0) (by omega)) tyX0 tyX0_ok nmX0 hown hK hP hD hS 0 rfl rfl 4 (by decide) (hts _ kw_262) (fun _ h9 => h9) rfl hin rfl (by decide +kernel) rfl rfl (Nat.le_of_ble_eq_true rfl) dX0_init_17 (fun H locs hP hD hS => ?_)
  have hP : va_P D am_cls ([(h0, .inr (0, [.int 0, .int 0, .int 0, .ref q1, .ref q2]))] ++ [(q1, .inl (cy 21, 40, .inl (fun _ => 0)))] ++ [(q2, .inl (cy 21, 40, .inl (fun _ => 0)))]) H := hP
  have hD : va_D A ([(h0, .inr (0, [.int 0, .int 0, .int 0, .ref q1, .ref q2]))] ++ [(q1, .inl (cy 21, 40, .inl (fun _ => 0)))] ++ [(q2, .inl (cy 21, 40, .inl (fun _ => 0)))]) := hD
  have hC := kn_conv (n := 3) (cell := kn_cell cy 47) (q := (fun j : Nat => if j = 0 then h0 else if j = 1 then q1 else q2)) (fun j hj => by
    rcases (by omega : j = 0 ∨ j = 1 ∨ j = 2) with rfl | rfl | rfl
    · exact ⟨_, rfl, kn_ag_e rfl⟩
    · exact ⟨_, rfl, kn_ag_e rfl⟩
    · exact ⟨_, rfl, kn_ag_e rfl⟩
    ) hP hD
  refine W.widen (k := 2) (n := 80) (Nat.le_of_ble_eq_true rfl) (Nat.le_of_ble_eq_true rfl) ?_
  exact W.vret hx hb hr (fun t ht hW => ⟨⟨_, rfl, rfl, by rw [ht]; exact hC.1, hC.2⟩, hS.F ht⟩) hS.2.2 dX0_init_20
theorem dX1_init_0 : decode cX1_init 0 = .ok (.aload_n 0, 1) := by decide +kernel
theorem dX1_init_1 : decode cX1_init 1 = .ok (.invokespecial 3, 3) := by decide +kernel
theorem dX1_init_4 : decode cX1_init 4 = .ok (.return_, 1) := by decide +kernel
theorem kw_362 : Cond.methodLink RX1 3 objectInit ∈ am_T := am_has_in (p := 362) (by decide +kernel)
set_option maxHeartbeats 40000000 in
set_option maxRecDepth 100000 in
theorem kc_X1 (l : Launch) (D : va_G) (cy : Nat → ClassId) : kn_Con l D cy yX1_init cX1_init 1 1 [.int 0, .int 0, .int 0, .int 0, .int 0, .int 0, .long 0, .null, .null, .int 0, .int 0, .int 0, .int 0] [] 1 0 0 1 (kn_cell cy 172) := by
  intro h0 sz
  refine Met.ofW (cc := cX1_init) (maxL := 1) (ret := none) (by decide) rfl ?_
  intro p e s m args below meth c s₁ B hml hv
  obtain ⟨rfl, hsz, hP, hD0, hE⟩ := hv
  have hx := B.exec
  have hb := B.bytes
  have hr := B.returns
  have hts0 := atoms_spec (ws := kn_ws yX1_init cX1_init 1) B.pre
  have hts : ∀ w ∈ am_T, w.before _ s = true := fun w hw => hts0 w (List.mem_cons_of_mem _ hw)
  have hown : s.vm.findClass RX1 = some m.cls := findClass_of_methodNamed B.named
  have hlocks := B.notSynchronized
  have hin : meth.name = "<init>" := (name_of_methodNamed B.named B.method).1
  subst hsz
  have hD := hD0.self (sz := s.heap.size)
  generalize hAe : va_A [(h0, .inr (1, [.int 0, .int 0, .int 0, .int 0, .int 0, .int 0, .long 0, .null, .null, .int 0, .int 0, .int 0, .int 0]))] s.heap.size = A at hD ⊢
  have hA : ∀ q : Nat, s.heap.size ≤ q → A q := fun q h => by rw [← hAe]; exact Or.inr h
  have hS : va_S A s.heap s.heap [] := va_S.rf
  have hK := hE.1
  have F : kn_F p c cX1_init 1 s m _ RX1 D cy := ⟨hx, hb, hml, hts, hown, hE⟩
  have hl := lv_entry ([.ref h0]) (n := 1) (Nat.le_of_ble_eq_true rfl)
  rw [lg_entry_eq]
  generalize (lg_sl ([.ref h0]) ++ List.replicate (1 - (lg_sl ([.ref h0])).length) Slot.unset).toArray = ls at hl ⊢
  have hl : lv_has ls 1 [(0, .ref h0)] := hl
  refine lv_aload_n hx hb dX1_init_0 rfl (lv_at hl 0 rfl) ?_
  refine W.objInit hx hb hown (hts _ kw_362) (hts _ kw_153) (hts _ kw_154) rfl (by rw [hml]; exact hl.1) rfl dX1_init_1 (Nat.le_of_ble_eq_true rfl) (Nat.le_of_ble_eq_true rfl) ?_
  refine W.eq (g2 := F0 m 4 ls []) rfl ?_
  have hP : va_P D am_cls ([(h0, .inr (1, [.int 0, .int 0, .int 0, .int 0, .int 0, .int 0, .long 0, .null, .null, .int 0, .int 0, .int 0, .int 0]))]) s.heap := hP
  have hC := kn_conv (n := 1) (cell := kn_cell cy 172) (q := (fun j : Nat => if j = 0 then h0 else h0)) (fun j hj => by
    rcases (by omega : j = 0) with rfl
    · exact ⟨_, rfl, kn_ag_e rfl⟩
    ) hP hD
  refine W.widen (k := 0) (n := 0) (Nat.le_of_ble_eq_true rfl) (Nat.le_of_ble_eq_true rfl) ?_
  exact W.vret hx hb hr (fun t ht hW => ⟨⟨_, rfl, rfl, by rw [ht]; exact hC.1, hC.2⟩, hS.F ht⟩) hS.2.2 dX1_init_4
theorem dX5_init_0 : decode cX5_init 0 = .ok (.aload_n 0, 1) := by decide +kernel
theorem dX5_init_1 : decode cX5_init 1 = .ok (.invokespecial 3, 3) := by decide +kernel
theorem dX5_init_4 : decode cX5_init 4 = .ok (.aload_n 0, 1) := by decide +kernel
theorem dX5_init_5 : decode cX5_init 5 = .ok (.bipush 60, 2) := by decide +kernel
theorem dX5_init_7 : decode cX5_init 7 = .ok (.newarray .long, 2) := by decide +kernel
theorem dX5_init_9 : decode cX5_init 9 = .ok (.putfield 9, 3) := by decide +kernel
theorem dX5_init_12 : decode cX5_init 12 = .ok (.return_, 1) := by decide +kernel
theorem kw_443 : Cond.methodLink RX5 3 objectInit ∈ am_T := am_has_in (p := 443) (by decide +kernel)
theorem kw_461 : Cond.arrayClass .long ∈ am_T := am_has_in (p := 461) (by decide +kernel)
theorem kw_450 : Cond.fieldLink RX5 9 "MarchFolk$Slot" "numbers" "[J" ∈ am_T := am_has_in (p := 450) (by decide +kernel)
set_option maxHeartbeats 40000000 in
set_option maxRecDepth 100000 in
theorem kc_X5 (l : Launch) (D : va_G) (cy : Nat → ClassId) : kn_Con l D cy yX5_init cX5_init 1 5 [.int 0, .int 0, .int 0, .null] [] 1 1 60 2 (kn_cell cy 130) := by
  intro h0 sz
  refine Met.ofW (cc := cX5_init) (maxL := 1) (ret := none) (by decide) rfl ?_
  intro p e s m args below meth c s₁ B hml hv
  obtain ⟨rfl, hsz, hP, hD0, hE⟩ := hv
  have hx := B.exec
  have hb := B.bytes
  have hr := B.returns
  have hts0 := atoms_spec (ws := kn_ws yX5_init cX5_init 1) B.pre
  have hts : ∀ w ∈ am_T, w.before _ s = true := fun w hw => hts0 w (List.mem_cons_of_mem _ hw)
  have hown : s.vm.findClass RX5 = some m.cls := findClass_of_methodNamed B.named
  have hlocks := B.notSynchronized
  have hin : meth.name = "<init>" := (name_of_methodNamed B.named B.method).1
  subst hsz
  have hD := hD0.self (sz := s.heap.size)
  generalize hAe : va_A [(h0, .inr (5, [.int 0, .int 0, .int 0, .null]))] s.heap.size = A at hD ⊢
  have hA : ∀ q : Nat, s.heap.size ≤ q → A q := fun q h => by rw [← hAe]; exact Or.inr h
  have hS : va_S A s.heap s.heap [] := va_S.rf
  have hK := hE.1
  have F : kn_F p c cX5_init 1 s m _ RX5 D cy := ⟨hx, hb, hml, hts, hown, hE⟩
  have hl := lv_entry ([.ref h0]) (n := 1) (Nat.le_of_ble_eq_true rfl)
  rw [lg_entry_eq]
  generalize (lg_sl ([.ref h0]) ++ List.replicate (1 - (lg_sl ([.ref h0])).length) Slot.unset).toArray = ls at hl ⊢
  have hl : lv_has ls 1 [(0, .ref h0)] := hl
  refine lv_aload_n hx hb dX5_init_0 rfl (lv_at hl 0 rfl) ?_
  refine W.objInit hx hb hown (hts _ kw_443) (hts _ kw_153) (hts _ kw_154) rfl (by rw [hml]; exact hl.1) rfl dX5_init_1 (Nat.le_of_ble_eq_true rfl) (Nat.le_of_ble_eq_true rfl) ?_
  refine W.eq (g2 := F0 m 4 ls []) rfl ?_
  have hP : va_P D am_cls ([(h0, .inr (5, [.int 0, .int 0, .int 0, .null]))]) s.heap := hP
  refine lv_aload_n hx hb dX5_init_4 rfl (lv_at hl 0 rfl) ?_
  refine lv_bipush (v := 60) hx hb dX5_init_5 (by decide) ?_
  refine kn_newa (atype := .long) (ty := .long) (c9 := cy 22) (N' := 60) (a0 := (60, .inr (.inl (fun _ => 0)))) hx hb (hts _ kw_461) rfl hK 2 rfl (fun _ h9 => h9) hP hD hS hA (fun _ => rfl) (by decide) (by decide) (Nat.le_of_ble_eq_true rfl) (Nat.le_of_ble_eq_true rfl) (Nat.le_of_ble_eq_true rfl) dX5_init_7 (fun q1 H hP hD hS => ?_)
  have hP : va_P D am_cls ([(h0, .inr (5, [.int 0, .int 0, .int 0, .null]))] ++ [(q1, .inl (cy 22, 60, .inr (.inl (fun _ => 0))))]) H := hP
  have hD : va_D A ([(h0, .inr (5, [.int 0, .int 0, .int 0, .null]))] ++ [(q1, .inl (cy 22, 60, .inr (.inl (fun _ => 0))))]) := hD
  refine va_putF (D := D) (ci := 5) (v := .ref q1) (ty := .array .long) (C := RX5) (T := TX5) (N := 4) hx hb hts (am_ws_T (ci := 5) (by omega)) tyX5 tyX5_ok nmX5 hown hK hP hD hS 0 rfl rfl 3 (by decide) (hts _ kw_450) (fun _ h9 => h9) rfl hin rfl (by decide +kernel) rfl rfl (Nat.le_of_ble_eq_true rfl) dX5_init_9 (fun H locs hP hD hS => ?_)
  have hP : va_P D am_cls ([(h0, .inr (5, [.int 0, .int 0, .int 0, .ref q1]))] ++ [(q1, .inl (cy 22, 60, .inr (.inl (fun _ => 0))))]) H := hP
  have hD : va_D A ([(h0, .inr (5, [.int 0, .int 0, .int 0, .ref q1]))] ++ [(q1, .inl (cy 22, 60, .inr (.inl (fun _ => 0))))]) := hD
  have hC := kn_conv (n := 2) (cell := kn_cell cy 130) (q := (fun j : Nat => if j = 0 then h0 else q1)) (fun j hj => by
    rcases (by omega : j = 0 ∨ j = 1) with rfl | rfl
    · exact ⟨_, rfl, kn_ag_e rfl⟩
    · exact ⟨_, rfl, kn_ag_e rfl⟩
    ) hP hD
  refine W.widen (k := 1) (n := 60) (Nat.le_of_ble_eq_true rfl) (Nat.le_of_ble_eq_true rfl) ?_
  exact W.vret hx hb hr (fun t ht hW => ⟨⟨_, rfl, rfl, by rw [ht]; exact hC.1, hC.2⟩, hS.F ht⟩) hS.2.2 dX5_init_12
theorem dX6_init_0 : decode cX6_init 0 = .ok (.aload_n 0, 1) := by decide +kernel
theorem dX6_init_1 : decode cX6_init 1 = .ok (.invokespecial 3, 3) := by decide +kernel
theorem dX6_init_4 : decode cX6_init 4 = .ok (.aload_n 0, 1) := by decide +kernel
theorem dX6_init_5 : decode cX6_init 5 = .ok (.bipush 61, 2) := by decide +kernel
theorem dX6_init_7 : decode cX6_init 7 = .ok (.newarray .int, 2) := by decide +kernel
theorem dX6_init_9 : decode cX6_init 9 = .ok (.putfield 9, 3) := by decide +kernel
theorem dX6_init_12 : decode cX6_init 12 = .ok (.aload_n 0, 1) := by decide +kernel
theorem dX6_init_13 : decode cX6_init 13 = .ok (.bipush 61, 2) := by decide +kernel
theorem dX6_init_15 : decode cX6_init 15 = .ok (.newarray .int, 2) := by decide +kernel
theorem dX6_init_17 : decode cX6_init 17 = .ok (.putfield 15, 3) := by decide +kernel
theorem dX6_init_20 : decode cX6_init 20 = .ok (.aload_n 0, 1) := by decide +kernel
theorem dX6_init_21 : decode cX6_init 21 = .ok (.bipush 61, 2) := by decide +kernel
theorem dX6_init_23 : decode cX6_init 23 = .ok (.newarray .int, 2) := by decide +kernel
theorem dX6_init_25 : decode cX6_init 25 = .ok (.putfield 18, 3) := by decide +kernel
theorem dX6_init_28 : decode cX6_init 28 = .ok (.aload_n 0, 1) := by decide +kernel
theorem dX6_init_29 : decode cX6_init 29 = .ok (.bipush 8, 2) := by decide +kernel
theorem dX6_init_31 : decode cX6_init 31 = .ok (.newarray .int, 2) := by decide +kernel
theorem dX6_init_33 : decode cX6_init 33 = .ok (.putfield 21, 3) := by decide +kernel
theorem dX6_init_36 : decode cX6_init 36 = .ok (.aload_n 0, 1) := by decide +kernel
theorem dX6_init_37 : decode cX6_init 37 = .ok (.bipush 8, 2) := by decide +kernel
theorem dX6_init_39 : decode cX6_init 39 = .ok (.newarray .int, 2) := by decide +kernel
theorem dX6_init_41 : decode cX6_init 41 = .ok (.putfield 24, 3) := by decide +kernel
theorem dX6_init_44 : decode cX6_init 44 = .ok (.aload_n 0, 1) := by decide +kernel
theorem dX6_init_45 : decode cX6_init 45 = .ok (.bipush 8, 2) := by decide +kernel
theorem dX6_init_47 : decode cX6_init 47 = .ok (.newarray .int, 2) := by decide +kernel
theorem dX6_init_49 : decode cX6_init 49 = .ok (.putfield 27, 3) := by decide +kernel
theorem dX6_init_52 : decode cX6_init 52 = .ok (.aload_n 0, 1) := by decide +kernel
theorem dX6_init_53 : decode cX6_init 53 = .ok (.bipush 8, 2) := by decide +kernel
theorem dX6_init_55 : decode cX6_init 55 = .ok (.newarray .int, 2) := by decide +kernel
theorem dX6_init_57 : decode cX6_init 57 = .ok (.putfield 30, 3) := by decide +kernel
theorem dX6_init_60 : decode cX6_init 60 = .ok (.aload_n 0, 1) := by decide +kernel
theorem dX6_init_61 : decode cX6_init 61 = .ok (.bipush 7, 2) := by decide +kernel
theorem dX6_init_63 : decode cX6_init 63 = .ok (.newarray .int, 2) := by decide +kernel
theorem dX6_init_65 : decode cX6_init 65 = .ok (.putfield 33, 3) := by decide +kernel
theorem dX6_init_68 : decode cX6_init 68 = .ok (.return_, 1) := by decide +kernel
theorem kw_303 : Cond.methodLink RX6 3 objectInit ∈ am_T := am_has_in (p := 303) (by decide +kernel)
theorem kw_304 : Cond.fieldLink RX6 9 "MarchFolk$Walk" "where" "[I" ∈ am_T := am_has_in (p := 304) (by decide +kernel)
theorem kw_306 : Cond.fieldLink RX6 15 "MarchFolk$Walk" "crowd" "[I" ∈ am_T := am_has_in (p := 306) (by decide +kernel)
theorem kw_308 : Cond.fieldLink RX6 18 "MarchFolk$Walk" "goes" "[I" ∈ am_T := am_has_in (p := 308) (by decide +kernel)
theorem kw_310 : Cond.fieldLink RX6 21 "MarchFolk$Walk" "joined" "[I" ∈ am_T := am_has_in (p := 310) (by decide +kernel)
theorem kw_312 : Cond.fieldLink RX6 24 "MarchFolk$Walk" "left" "[I" ∈ am_T := am_has_in (p := 312) (by decide +kernel)
theorem kw_314 : Cond.fieldLink RX6 27 "MarchFolk$Walk" "rank" "[I" ∈ am_T := am_has_in (p := 314) (by decide +kernel)
theorem kw_326 : Cond.fieldLink RX6 30 "MarchFolk$Walk" "vote" "[I" ∈ am_T := am_has_in (p := 326) (by decide +kernel)
theorem kw_327 : Cond.fieldLink RX6 33 "MarchFolk$Walk" "tally" "[I" ∈ am_T := am_has_in (p := 327) (by decide +kernel)
set_option maxHeartbeats 40000000 in
set_option maxRecDepth 100000 in
theorem kc_X6 (l : Launch) (D : va_G) (cy : Nat → ClassId) : kn_Con l D cy yX6_init cX6_init 1 6 [.null, .null, .null, .null, .null, .null, .int 0, .int 0, .int 0, .int 0, .int 0, .int 0, .null, .null] [] 1 8 222 9 (kn_cell cy 163) := by
  intro h0 sz
  refine Met.ofW (cc := cX6_init) (maxL := 1) (ret := none) (by decide) rfl ?_
  intro p e s m args below meth c s₁ B hml hv
  obtain ⟨rfl, hsz, hP, hD0, hE⟩ := hv
  have hx := B.exec
  have hb := B.bytes
  have hr := B.returns
  have hts0 := atoms_spec (ws := kn_ws yX6_init cX6_init 1) B.pre
  have hts : ∀ w ∈ am_T, w.before _ s = true := fun w hw => hts0 w (List.mem_cons_of_mem _ hw)
  have hown : s.vm.findClass RX6 = some m.cls := findClass_of_methodNamed B.named
  have hlocks := B.notSynchronized
  have hin : meth.name = "<init>" := (name_of_methodNamed B.named B.method).1
  subst hsz
  have hD := hD0.self (sz := s.heap.size)
  generalize hAe : va_A [(h0, .inr (6, [.null, .null, .null, .null, .null, .null, .int 0, .int 0, .int 0, .int 0, .int 0, .int 0, .null, .null]))] s.heap.size = A at hD ⊢
  have hA : ∀ q : Nat, s.heap.size ≤ q → A q := fun q h => by rw [← hAe]; exact Or.inr h
  have hS : va_S A s.heap s.heap [] := va_S.rf
  have hK := hE.1
  have F : kn_F p c cX6_init 1 s m _ RX6 D cy := ⟨hx, hb, hml, hts, hown, hE⟩
  have hl := lv_entry ([.ref h0]) (n := 1) (Nat.le_of_ble_eq_true rfl)
  rw [lg_entry_eq]
  generalize (lg_sl ([.ref h0]) ++ List.replicate (1 - (lg_sl ([.ref h0])).length) Slot.unset).toArray = ls at hl ⊢
  have hl : lv_has ls 1 [(0, .ref h0)] := hl
  refine lv_aload_n hx hb dX6_init_0 rfl (lv_at hl 0 rfl) ?_
  refine W.objInit hx hb hown (hts _ kw_303) (hts _ kw_153) (hts _ kw_154) rfl (by rw [hml]; exact hl.1) rfl dX6_init_1 (Nat.le_of_ble_eq_true rfl) (Nat.le_of_ble_eq_true rfl) ?_
  refine W.eq (g2 := F0 m 4 ls []) rfl ?_
  have hP : va_P D am_cls ([(h0, .inr (6, [.null, .null, .null, .null, .null, .null, .int 0, .int 0, .int 0, .int 0, .int 0, .int 0, .null, .null]))]) s.heap := hP
  refine lv_aload_n hx hb dX6_init_4 rfl (lv_at hl 0 rfl) ?_
  refine lv_bipush (v := 61) hx hb dX6_init_5 (by decide) ?_
  refine kn_newa (atype := .int) (ty := .int) (c9 := cy 21) (N' := 61) (a0 := (61, .inl (fun _ => 0))) hx hb (hts _ kw_248) rfl hK 1 rfl (fun _ h9 => h9) hP hD hS hA (fun _ => rfl) (by decide) (by decide) (Nat.le_of_ble_eq_true rfl) (Nat.le_of_ble_eq_true rfl) (Nat.le_of_ble_eq_true rfl) dX6_init_7 (fun q1 H hP hD hS => ?_)
  have hP : va_P D am_cls ([(h0, .inr (6, [.null, .null, .null, .null, .null, .null, .int 0, .int 0, .int 0, .int 0, .int 0, .int 0, .null, .null]))] ++ [(q1, .inl (cy 21, 61, .inl (fun _ => 0)))]) H := hP
  have hD : va_D A ([(h0, .inr (6, [.null, .null, .null, .null, .null, .null, .int 0, .int 0, .int 0, .int 0, .int 0, .int 0, .null, .null]))] ++ [(q1, .inl (cy 21, 61, .inl (fun _ => 0)))]) := hD
  refine va_putF (D := D) (ci := 6) (v := .ref q1) (ty := .array .int) (C := RX6) (T := TX6) (N := 14) hx hb hts (am_ws_T (ci := 6) (by omega)) tyX6 tyX6_ok nmX6 hown hK hP hD hS 0 rfl rfl 0 (by decide) (hts _ kw_304) (fun _ h9 => h9) rfl hin rfl (by decide +kernel) rfl rfl (Nat.le_of_ble_eq_true rfl) dX6_init_9 (fun H locs hP hD hS => ?_)
  have hP : va_P D am_cls ([(h0, .inr (6, [.ref q1, .null, .null, .null, .null, .null, .int 0, .int 0, .int 0, .int 0, .int 0, .int 0, .null, .null]))] ++ [(q1, .inl (cy 21, 61, .inl (fun _ => 0)))]) H := hP
  have hD : va_D A ([(h0, .inr (6, [.ref q1, .null, .null, .null, .null, .null, .int 0, .int 0, .int 0, .int 0, .int 0, .int 0, .null, .null]))] ++ [(q1, .inl (cy 21, 61, .inl (fun _ => 0)))]) := hD
  refine lv_aload_n hx hb dX6_init_12 rfl (lv_at hl 0 rfl) ?_
  refine lv_bipush (v := 61) hx hb dX6_init_13 (by decide) ?_
  refine kn_newa (atype := .int) (ty := .int) (c9 := cy 21) (N' := 61) (a0 := (61, .inl (fun _ => 0))) hx hb (hts _ kw_248) rfl hK 1 rfl (fun _ h9 => h9) hP hD hS hA (fun _ => rfl) (by decide) (by decide) (Nat.le_of_ble_eq_true rfl) (Nat.le_of_ble_eq_true rfl) (Nat.le_of_ble_eq_true rfl) dX6_init_15 (fun q2 H hP hD hS => ?_)
  have hP : va_P D am_cls ([(h0, .inr (6, [.ref q1, .null, .null, .null, .null, .null, .int 0, .int 0, .int 0, .int 0, .int 0, .int 0, .null, .null]))] ++ [(q1, .inl (cy 21, 61, .inl (fun _ => 0)))] ++ [(q2, .inl (cy 21, 61, .inl (fun _ => 0)))]) H := hP
  have hD : va_D A ([(h0, .inr (6, [.ref q1, .null, .null, .null, .null, .null, .int 0, .int 0, .int 0, .int 0, .int 0, .int 0, .null, .null]))] ++ [(q1, .inl (cy 21, 61, .inl (fun _ => 0)))] ++ [(q2, .inl (cy 21, 61, .inl (fun _ => 0)))]) := hD
  refine va_putF (D := D) (ci := 6) (v := .ref q2) (ty := .array .int) (C := RX6) (T := TX6) (N := 14) hx hb hts (am_ws_T (ci := 6) (by omega)) tyX6 tyX6_ok nmX6 hown hK hP hD hS 0 rfl rfl 1 (by decide) (hts _ kw_306) (fun _ h9 => h9) rfl hin rfl (by decide +kernel) rfl rfl (Nat.le_of_ble_eq_true rfl) dX6_init_17 (fun H locs hP hD hS => ?_)
  have hP : va_P D am_cls ([(h0, .inr (6, [.ref q1, .ref q2, .null, .null, .null, .null, .int 0, .int 0, .int 0, .int 0, .int 0, .int 0, .null, .null]))] ++ [(q1, .inl (cy 21, 61, .inl (fun _ => 0)))] ++ [(q2, .inl (cy 21, 61, .inl (fun _ => 0)))]) H := hP
  have hD : va_D A ([(h0, .inr (6, [.ref q1, .ref q2, .null, .null, .null, .null, .int 0, .int 0, .int 0, .int 0, .int 0, .int 0, .null, .null]))] ++ [(q1, .inl (cy 21, 61, .inl (fun _ => 0)))] ++ [(q2, .inl (cy 21, 61, .inl (fun _ => 0)))]) := hD
  refine lv_aload_n hx hb dX6_init_20 rfl (lv_at hl 0 rfl) ?_
  refine lv_bipush (v := 61) hx hb dX6_init_21 (by decide) ?_
  refine kn_newa (atype := .int) (ty := .int) (c9 := cy 21) (N' := 61) (a0 := (61, .inl (fun _ => 0))) hx hb (hts _ kw_248) rfl hK 1 rfl (fun _ h9 => h9) hP hD hS hA (fun _ => rfl) (by decide) (by decide) (Nat.le_of_ble_eq_true rfl) (Nat.le_of_ble_eq_true rfl) (Nat.le_of_ble_eq_true rfl) dX6_init_23 (fun q3 H hP hD hS => ?_)
  have hP : va_P D am_cls ([(h0, .inr (6, [.ref q1, .ref q2, .null, .null, .null, .null, .int 0, .int 0, .int 0, .int 0, .int 0, .int 0, .null, .null]))] ++ [(q1, .inl (cy 21, 61, .inl (fun _ => 0)))] ++ [(q2, .inl (cy 21, 61, .inl (fun _ => 0)))] ++ [(q3, .inl (cy 21, 61, .inl (fun _ => 0)))]) H := hP
  have hD : va_D A ([(h0, .inr (6, [.ref q1, .ref q2, .null, .null, .null, .null, .int 0, .int 0, .int 0, .int 0, .int 0, .int 0, .null, .null]))] ++ [(q1, .inl (cy 21, 61, .inl (fun _ => 0)))] ++ [(q2, .inl (cy 21, 61, .inl (fun _ => 0)))] ++ [(q3, .inl (cy 21, 61, .inl (fun _ => 0)))]) := hD
  refine va_putF (D := D) (ci := 6) (v := .ref q3) (ty := .array .int) (C := RX6) (T := TX6) (N := 14) hx hb hts (am_ws_T (ci := 6) (by omega)) tyX6 tyX6_ok nmX6 hown hK hP hD hS 0 rfl rfl 2 (by decide) (hts _ kw_308) (fun _ h9 => h9) rfl hin rfl (by decide +kernel) rfl rfl (Nat.le_of_ble_eq_true rfl) dX6_init_25 (fun H locs hP hD hS => ?_)
  have hP : va_P D am_cls ([(h0, .inr (6, [.ref q1, .ref q2, .ref q3, .null, .null, .null, .int 0, .int 0, .int 0, .int 0, .int 0, .int 0, .null, .null]))] ++ [(q1, .inl (cy 21, 61, .inl (fun _ => 0)))] ++ [(q2, .inl (cy 21, 61, .inl (fun _ => 0)))] ++ [(q3, .inl (cy 21, 61, .inl (fun _ => 0)))]) H := hP
  have hD : va_D A ([(h0, .inr (6, [.ref q1, .ref q2, .ref q3, .null, .null, .null, .int 0, .int 0, .int 0, .int 0, .int 0, .int 0, .null, .null]))] ++ [(q1, .inl (cy 21, 61, .inl (fun _ => 0)))] ++ [(q2, .inl (cy 21, 61, .inl (fun _ => 0)))] ++ [(q3, .inl (cy 21, 61, .inl (fun _ => 0)))]) := hD
  refine lv_aload_n hx hb dX6_init_28 rfl (lv_at hl 0 rfl) ?_
  refine lv_bipush (v := 8) hx hb dX6_init_29 (by decide) ?_
  refine kn_newa (atype := .int) (ty := .int) (c9 := cy 21) (N' := 8) (a0 := (8, .inl (fun _ => 0))) hx hb (hts _ kw_248) rfl hK 1 rfl (fun _ h9 => h9) hP hD hS hA (fun _ => rfl) (by decide) (by decide) (Nat.le_of_ble_eq_true rfl) (Nat.le_of_ble_eq_true rfl) (Nat.le_of_ble_eq_true rfl) dX6_init_31 (fun q4 H hP hD hS => ?_)
  have hP : va_P D am_cls ([(h0, .inr (6, [.ref q1, .ref q2, .ref q3, .null, .null, .null, .int 0, .int 0, .int 0, .int 0, .int 0, .int 0, .null, .null]))] ++ [(q1, .inl (cy 21, 61, .inl (fun _ => 0)))] ++ [(q2, .inl (cy 21, 61, .inl (fun _ => 0)))] ++ [(q3, .inl (cy 21, 61, .inl (fun _ => 0)))] ++ [(q4, .inl (cy 21, 8, .inl (fun _ => 0)))]) H := hP
  have hD : va_D A ([(h0, .inr (6, [.ref q1, .ref q2, .ref q3, .null, .null, .null, .int 0, .int 0, .int 0, .int 0, .int 0, .int 0, .null, .null]))] ++ [(q1, .inl (cy 21, 61, .inl (fun _ => 0)))] ++ [(q2, .inl (cy 21, 61, .inl (fun _ => 0)))] ++ [(q3, .inl (cy 21, 61, .inl (fun _ => 0)))] ++ [(q4, .inl (cy 21, 8, .inl (fun _ => 0)))]) := hD
  refine va_putF (D := D) (ci := 6) (v := .ref q4) (ty := .array .int) (C := RX6) (T := TX6) (N := 14) hx hb hts (am_ws_T (ci := 6) (by omega)) tyX6 tyX6_ok nmX6 hown hK hP hD hS 0 rfl rfl 3 (by decide) (hts _ kw_310) (fun _ h9 => h9) rfl hin rfl (by decide +kernel) rfl rfl (Nat.le_of_ble_eq_true rfl) dX6_init_33 (fun H locs hP hD hS => ?_)
  have hP : va_P D am_cls ([(h0, .inr (6, [.ref q1, .ref q2, .ref q3, .ref q4, .null, .null, .int 0, .int 0, .int 0, .int 0, .int 0, .int 0, .null, .null]))] ++ [(q1, .inl (cy 21, 61, .inl (fun _ => 0)))] ++ [(q2, .inl (cy 21, 61, .inl (fun _ => 0)))] ++ [(q3, .inl (cy 21, 61, .inl (fun _ => 0)))] ++ [(q4, .inl (cy 21, 8, .inl (fun _ => 0)))]) H := hP
  have hD : va_D A ([(h0, .inr (6, [.ref q1, .ref q2, .ref q3, .ref q4, .null, .null, .int 0, .int 0, .int 0, .int 0, .int 0, .int 0, .null, .null]))] ++ [(q1, .inl (cy 21, 61, .inl (fun _ => 0)))] ++ [(q2, .inl (cy 21, 61, .inl (fun _ => 0)))] ++ [(q3, .inl (cy 21, 61, .inl (fun _ => 0)))] ++ [(q4, .inl (cy 21, 8, .inl (fun _ => 0)))]) := hD
  refine lv_aload_n hx hb dX6_init_36 rfl (lv_at hl 0 rfl) ?_
  refine lv_bipush (v := 8) hx hb dX6_init_37 (by decide) ?_
  refine kn_newa (atype := .int) (ty := .int) (c9 := cy 21) (N' := 8) (a0 := (8, .inl (fun _ => 0))) hx hb (hts _ kw_248) rfl hK 1 rfl (fun _ h9 => h9) hP hD hS hA (fun _ => rfl) (by decide) (by decide) (Nat.le_of_ble_eq_true rfl) (Nat.le_of_ble_eq_true rfl) (Nat.le_of_ble_eq_true rfl) dX6_init_39 (fun q5 H hP hD hS => ?_)
  have hP : va_P D am_cls ([(h0, .inr (6, [.ref q1, .ref q2, .ref q3, .ref q4, .null, .null, .int 0, .int 0, .int 0, .int 0, .int 0, .int 0, .null, .null]))] ++ [(q1, .inl (cy 21, 61, .inl (fun _ => 0)))] ++ [(q2, .inl (cy 21, 61, .inl (fun _ => 0)))] ++ [(q3, .inl (cy 21, 61, .inl (fun _ => 0)))] ++ [(q4, .inl (cy 21, 8, .inl (fun _ => 0)))] ++ [(q5, .inl (cy 21, 8, .inl (fun _ => 0)))]) H := hP
  have hD : va_D A ([(h0, .inr (6, [.ref q1, .ref q2, .ref q3, .ref q4, .null, .null, .int 0, .int 0, .int 0, .int 0, .int 0, .int 0, .null, .null]))] ++ [(q1, .inl (cy 21, 61, .inl (fun _ => 0)))] ++ [(q2, .inl (cy 21, 61, .inl (fun _ => 0)))] ++ [(q3, .inl (cy 21, 61, .inl (fun _ => 0)))] ++ [(q4, .inl (cy 21, 8, .inl (fun _ => 0)))] ++ [(q5, .inl (cy 21, 8, .inl (fun _ => 0)))]) := hD
  refine va_putF (D := D) (ci := 6) (v := .ref q5) (ty := .array .int) (C := RX6) (T := TX6) (N := 14) hx hb hts (am_ws_T (ci := 6) (by omega)) tyX6 tyX6_ok nmX6 hown hK hP hD hS 0 rfl rfl 4 (by decide) (hts _ kw_312) (fun _ h9 => h9) rfl hin rfl (by decide +kernel) rfl rfl (Nat.le_of_ble_eq_true rfl) dX6_init_41 (fun H locs hP hD hS => ?_)
  have hP : va_P D am_cls ([(h0, .inr (6, [.ref q1, .ref q2, .ref q3, .ref q4, .ref q5, .null, .int 0, .int 0, .int 0, .int 0, .int 0, .int 0, .null, .null]))] ++ [(q1, .inl (cy 21, 61, .inl (fun _ => 0)))] ++ [(q2, .inl (cy 21, 61, .inl (fun _ => 0)))] ++ [(q3, .inl (cy 21, 61, .inl (fun _ => 0)))] ++ [(q4, .inl (cy 21, 8, .inl (fun _ => 0)))] ++ [(q5, .inl (cy 21, 8, .inl (fun _ => 0)))]) H := hP
  have hD : va_D A ([(h0, .inr (6, [.ref q1, .ref q2, .ref q3, .ref q4, .ref q5, .null, .int 0, .int 0, .int 0, .int 0, .int 0, .int 0, .null, .null]))] ++ [(q1, .inl (cy 21, 61, .inl (fun _ => 0)))] ++ [(q2, .inl (cy 21, 61, .inl (fun _ => 0)))] ++ [(q3, .inl (cy 21, 61, .inl (fun _ => 0)))] ++ [(q4, .inl (cy 21, 8, .inl (fun _ => 0)))] ++ [(q5, .inl (cy 21, 8, .inl (fun _ => 0)))]) := hD
  refine lv_aload_n hx hb dX6_init_44 rfl (lv_at hl 0 rfl) ?_
  refine lv_bipush (v := 8) hx hb dX6_init_45 (by decide) ?_
  refine kn_newa (atype := .int) (ty := .int) (c9 := cy 21) (N' := 8) (a0 := (8, .inl (fun _ => 0))) hx hb (hts _ kw_248) rfl hK 1 rfl (fun _ h9 => h9) hP hD hS hA (fun _ => rfl) (by decide) (by decide) (Nat.le_of_ble_eq_true rfl) (Nat.le_of_ble_eq_true rfl) (Nat.le_of_ble_eq_true rfl) dX6_init_47 (fun q6 H hP hD hS => ?_)
  have hP : va_P D am_cls ([(h0, .inr (6, [.ref q1, .ref q2, .ref q3, .ref q4, .ref q5, .null, .int 0, .int 0, .int 0, .int 0, .int 0, .int 0, .null, .null]))] ++ [(q1, .inl (cy 21, 61, .inl (fun _ => 0)))] ++ [(q2, .inl (cy 21, 61, .inl (fun _ => 0)))] ++ [(q3, .inl (cy 21, 61, .inl (fun _ => 0)))] ++ [(q4, .inl (cy 21, 8, .inl (fun _ => 0)))] ++ [(q5, .inl (cy 21, 8, .inl (fun _ => 0)))] ++ [(q6, .inl (cy 21, 8, .inl (fun _ => 0)))]) H := hP
  have hD : va_D A ([(h0, .inr (6, [.ref q1, .ref q2, .ref q3, .ref q4, .ref q5, .null, .int 0, .int 0, .int 0, .int 0, .int 0, .int 0, .null, .null]))] ++ [(q1, .inl (cy 21, 61, .inl (fun _ => 0)))] ++ [(q2, .inl (cy 21, 61, .inl (fun _ => 0)))] ++ [(q3, .inl (cy 21, 61, .inl (fun _ => 0)))] ++ [(q4, .inl (cy 21, 8, .inl (fun _ => 0)))] ++ [(q5, .inl (cy 21, 8, .inl (fun _ => 0)))] ++ [(q6, .inl (cy 21, 8, .inl (fun _ => 0)))]) := hD
  refine va_putF (D := D) (ci := 6) (v := .ref q6) (ty := .array .int) (C := RX6) (T := TX6) (N := 14) hx hb hts (am_ws_T (ci := 6) (by omega)) tyX6 tyX6_ok nmX6 hown hK hP hD hS 0 rfl rfl 5 (by decide) (hts _ kw_314) (fun _ h9 => h9) rfl hin rfl (by decide +kernel) rfl rfl (Nat.le_of_ble_eq_true rfl) dX6_init_49 (fun H locs hP hD hS => ?_)
  have hP : va_P D am_cls ([(h0, .inr (6, [.ref q1, .ref q2, .ref q3, .ref q4, .ref q5, .ref q6, .int 0, .int 0, .int 0, .int 0, .int 0, .int 0, .null, .null]))] ++ [(q1, .inl (cy 21, 61, .inl (fun _ => 0)))] ++ [(q2, .inl (cy 21, 61, .inl (fun _ => 0)))] ++ [(q3, .inl (cy 21, 61, .inl (fun _ => 0)))] ++ [(q4, .inl (cy 21, 8, .inl (fun _ => 0)))] ++ [(q5, .inl (cy 21, 8, .inl (fun _ => 0)))] ++ [(q6, .inl (cy 21, 8, .inl (fun _ => 0)))]) H := hP
  have hD : va_D A ([(h0, .inr (6, [.ref q1, .ref q2, .ref q3, .ref q4, .ref q5, .ref q6, .int 0, .int 0, .int 0, .int 0, .int 0, .int 0, .null, .null]))] ++ [(q1, .inl (cy 21, 61, .inl (fun _ => 0)))] ++ [(q2, .inl (cy 21, 61, .inl (fun _ => 0)))] ++ [(q3, .inl (cy 21, 61, .inl (fun _ => 0)))] ++ [(q4, .inl (cy 21, 8, .inl (fun _ => 0)))] ++ [(q5, .inl (cy 21, 8, .inl (fun _ => 0)))] ++ [(q6, .inl (cy 21, 8, .inl (fun _ => 0)))]) := hD
  refine lv_aload_n hx hb dX6_init_52 rfl (lv_at hl 0 rfl) ?_
  refine lv_bipush (v := 8) hx hb dX6_init_53 (by decide) ?_
  refine kn_newa (atype := .int) (ty := .int) (c9 := cy 21) (N' := 8) (a0 := (8, .inl (fun _ => 0))) hx hb (hts _ kw_248) rfl hK 1 rfl (fun _ h9 => h9) hP hD hS hA (fun _ => rfl) (by decide) (by decide) (Nat.le_of_ble_eq_true rfl) (Nat.le_of_ble_eq_true rfl) (Nat.le_of_ble_eq_true rfl) dX6_init_55 (fun q7 H hP hD hS => ?_)
  have hP : va_P D am_cls ([(h0, .inr (6, [.ref q1, .ref q2, .ref q3, .ref q4, .ref q5, .ref q6, .int 0, .int 0, .int 0, .int 0, .int 0, .int 0, .null, .null]))] ++ [(q1, .inl (cy 21, 61, .inl (fun _ => 0)))] ++ [(q2, .inl (cy 21, 61, .inl (fun _ => 0)))] ++ [(q3, .inl (cy 21, 61, .inl (fun _ => 0)))] ++ [(q4, .inl (cy 21, 8, .inl (fun _ => 0)))] ++ [(q5, .inl (cy 21, 8, .inl (fun _ => 0)))] ++ [(q6, .inl (cy 21, 8, .inl (fun _ => 0)))] ++ [(q7, .inl (cy 21, 8, .inl (fun _ => 0)))]) H := hP
  have hD : va_D A ([(h0, .inr (6, [.ref q1, .ref q2, .ref q3, .ref q4, .ref q5, .ref q6, .int 0, .int 0, .int 0, .int 0, .int 0, .int 0, .null, .null]))] ++ [(q1, .inl (cy 21, 61, .inl (fun _ => 0)))] ++ [(q2, .inl (cy 21, 61, .inl (fun _ => 0)))] ++ [(q3, .inl (cy 21, 61, .inl (fun _ => 0)))] ++ [(q4, .inl (cy 21, 8, .inl (fun _ => 0)))] ++ [(q5, .inl (cy 21, 8, .inl (fun _ => 0)))] ++ [(q6, .inl (cy 21, 8, .inl (fun _ => 0)))] ++ [(q7, .inl (cy 21, 8, .inl (fun _ => 0)))]) := hD
  refine va_putF (D := D) (ci := 6) (v := .ref q7) (ty := .array .int) (C := RX6) (T := TX6) (N := 14) hx hb hts (am_ws_T (ci := 6) (by omega)) tyX6 tyX6_ok nmX6 hown hK hP hD hS 0 rfl rfl 12 (by decide) (hts _ kw_326) (fun _ h9 => h9) rfl hin rfl (by decide +kernel) rfl rfl (Nat.le_of_ble_eq_true rfl) dX6_init_57 (fun H locs hP hD hS => ?_)
  have hP : va_P D am_cls ([(h0, .inr (6, [.ref q1, .ref q2, .ref q3, .ref q4, .ref q5, .ref q6, .int 0, .int 0, .int 0, .int 0, .int 0, .int 0, .ref q7, .null]))] ++ [(q1, .inl (cy 21, 61, .inl (fun _ => 0)))] ++ [(q2, .inl (cy 21, 61, .inl (fun _ => 0)))] ++ [(q3, .inl (cy 21, 61, .inl (fun _ => 0)))] ++ [(q4, .inl (cy 21, 8, .inl (fun _ => 0)))] ++ [(q5, .inl (cy 21, 8, .inl (fun _ => 0)))] ++ [(q6, .inl (cy 21, 8, .inl (fun _ => 0)))] ++ [(q7, .inl (cy 21, 8, .inl (fun _ => 0)))]) H := hP
  have hD : va_D A ([(h0, .inr (6, [.ref q1, .ref q2, .ref q3, .ref q4, .ref q5, .ref q6, .int 0, .int 0, .int 0, .int 0, .int 0, .int 0, .ref q7, .null]))] ++ [(q1, .inl (cy 21, 61, .inl (fun _ => 0)))] ++ [(q2, .inl (cy 21, 61, .inl (fun _ => 0)))] ++ [(q3, .inl (cy 21, 61, .inl (fun _ => 0)))] ++ [(q4, .inl (cy 21, 8, .inl (fun _ => 0)))] ++ [(q5, .inl (cy 21, 8, .inl (fun _ => 0)))] ++ [(q6, .inl (cy 21, 8, .inl (fun _ => 0)))] ++ [(q7, .inl (cy 21, 8, .inl (fun _ => 0)))]) := hD
  refine lv_aload_n hx hb dX6_init_60 rfl (lv_at hl 0 rfl) ?_
  refine lv_bipush (v := 7) hx hb dX6_init_61 (by decide) ?_
  refine kn_newa (atype := .int) (ty := .int) (c9 := cy 21) (N' := 7) (a0 := (7, .inl (fun _ => 0))) hx hb (hts _ kw_248) rfl hK 1 rfl (fun _ h9 => h9) hP hD hS hA (fun _ => rfl) (by decide) (by decide) (Nat.le_of_ble_eq_true rfl) (Nat.le_of_ble_eq_true rfl) (Nat.le_of_ble_eq_true rfl) dX6_init_63 (fun q8 H hP hD hS => ?_)
  have hP : va_P D am_cls ([(h0, .inr (6, [.ref q1, .ref q2, .ref q3, .ref q4, .ref q5, .ref q6, .int 0, .int 0, .int 0, .int 0, .int 0, .int 0, .ref q7, .null]))] ++ [(q1, .inl (cy 21, 61, .inl (fun _ => 0)))] ++ [(q2, .inl (cy 21, 61, .inl (fun _ => 0)))] ++ [(q3, .inl (cy 21, 61, .inl (fun _ => 0)))] ++ [(q4, .inl (cy 21, 8, .inl (fun _ => 0)))] ++ [(q5, .inl (cy 21, 8, .inl (fun _ => 0)))] ++ [(q6, .inl (cy 21, 8, .inl (fun _ => 0)))] ++ [(q7, .inl (cy 21, 8, .inl (fun _ => 0)))] ++ [(q8, .inl (cy 21, 7, .inl (fun _ => 0)))]) H := hP
  have hD : va_D A ([(h0, .inr (6, [.ref q1, .ref q2, .ref q3, .ref q4, .ref q5, .ref q6, .int 0, .int 0, .int 0, .int 0, .int 0, .int 0, .ref q7, .null]))] ++ [(q1, .inl (cy 21, 61, .inl (fun _ => 0)))] ++ [(q2, .inl (cy 21, 61, .inl (fun _ => 0)))] ++ [(q3, .inl (cy 21, 61, .inl (fun _ => 0)))] ++ [(q4, .inl (cy 21, 8, .inl (fun _ => 0)))] ++ [(q5, .inl (cy 21, 8, .inl (fun _ => 0)))] ++ [(q6, .inl (cy 21, 8, .inl (fun _ => 0)))] ++ [(q7, .inl (cy 21, 8, .inl (fun _ => 0)))] ++ [(q8, .inl (cy 21, 7, .inl (fun _ => 0)))]) := hD
  refine va_putF (D := D) (ci := 6) (v := .ref q8) (ty := .array .int) (C := RX6) (T := TX6) (N := 14) hx hb hts (am_ws_T (ci := 6) (by omega)) tyX6 tyX6_ok nmX6 hown hK hP hD hS 0 rfl rfl 13 (by decide) (hts _ kw_327) (fun _ h9 => h9) rfl hin rfl (by decide +kernel) rfl rfl (Nat.le_of_ble_eq_true rfl) dX6_init_65 (fun H locs hP hD hS => ?_)
  have hP : va_P D am_cls ([(h0, .inr (6, [.ref q1, .ref q2, .ref q3, .ref q4, .ref q5, .ref q6, .int 0, .int 0, .int 0, .int 0, .int 0, .int 0, .ref q7, .ref q8]))] ++ [(q1, .inl (cy 21, 61, .inl (fun _ => 0)))] ++ [(q2, .inl (cy 21, 61, .inl (fun _ => 0)))] ++ [(q3, .inl (cy 21, 61, .inl (fun _ => 0)))] ++ [(q4, .inl (cy 21, 8, .inl (fun _ => 0)))] ++ [(q5, .inl (cy 21, 8, .inl (fun _ => 0)))] ++ [(q6, .inl (cy 21, 8, .inl (fun _ => 0)))] ++ [(q7, .inl (cy 21, 8, .inl (fun _ => 0)))] ++ [(q8, .inl (cy 21, 7, .inl (fun _ => 0)))]) H := hP
  have hD : va_D A ([(h0, .inr (6, [.ref q1, .ref q2, .ref q3, .ref q4, .ref q5, .ref q6, .int 0, .int 0, .int 0, .int 0, .int 0, .int 0, .ref q7, .ref q8]))] ++ [(q1, .inl (cy 21, 61, .inl (fun _ => 0)))] ++ [(q2, .inl (cy 21, 61, .inl (fun _ => 0)))] ++ [(q3, .inl (cy 21, 61, .inl (fun _ => 0)))] ++ [(q4, .inl (cy 21, 8, .inl (fun _ => 0)))] ++ [(q5, .inl (cy 21, 8, .inl (fun _ => 0)))] ++ [(q6, .inl (cy 21, 8, .inl (fun _ => 0)))] ++ [(q7, .inl (cy 21, 8, .inl (fun _ => 0)))] ++ [(q8, .inl (cy 21, 7, .inl (fun _ => 0)))]) := hD
  have hC := kn_conv (n := 9) (cell := kn_cell cy 163) (q := (fun j : Nat => if j = 0 then h0 else if j = 1 then q1 else if j = 2 then q2 else if j = 3 then q3 else if j = 4 then q4 else if j = 5 then q5 else if j = 6 then q6 else if j = 7 then q7 else q8)) (fun j hj => by
    rcases (by omega : j = 0 ∨ j = 1 ∨ j = 2 ∨ j = 3 ∨ j = 4 ∨ j = 5 ∨ j = 6 ∨ j = 7 ∨ j = 8) with rfl | rfl | rfl | rfl | rfl | rfl | rfl | rfl | rfl
    · exact ⟨_, rfl, kn_ag_e rfl⟩
    · exact ⟨_, rfl, kn_ag_e rfl⟩
    · exact ⟨_, rfl, kn_ag_e rfl⟩
    · exact ⟨_, rfl, kn_ag_e rfl⟩
    · exact ⟨_, rfl, kn_ag_e rfl⟩
    · exact ⟨_, rfl, kn_ag_e rfl⟩
    · exact ⟨_, rfl, kn_ag_e rfl⟩
    · exact ⟨_, rfl, kn_ag_e rfl⟩
    · exact ⟨_, rfl, kn_ag_e rfl⟩
    ) hP hD
  refine W.widen (k := 8) (n := 222) (Nat.le_of_ble_eq_true rfl) (Nat.le_of_ble_eq_true rfl) ?_
  exact W.vret hx hb hr (fun t ht hW => ⟨⟨_, rfl, rfl, by rw [ht]; exact hC.1, hC.2⟩, hS.F ht⟩) hS.2.2 dX6_init_68
theorem dX3_init_0 : decode cX3_init 0 = .ok (.aload_n 0, 1) := by decide +kernel
theorem dX3_init_1 : decode cX3_init 1 = .ok (.invokespecial 3, 3) := by decide +kernel
theorem dX3_init_4 : decode cX3_init 4 = .ok (.aload_n 0, 1) := by decide +kernel
theorem dX3_init_5 : decode cX3_init 5 = .ok (.bipush 10, 2) := by decide +kernel
theorem dX3_init_7 : decode cX3_init 7 = .ok (.iconst 3, 1) := by decide +kernel
theorem dX3_init_8 : decode cX3_init 8 = .ok (.multianewarray 9 2, 4) := by decide +kernel
theorem dX3_init_12 : decode cX3_init 12 = .ok (.putfield 11, 3) := by decide +kernel
theorem dX3_init_15 : decode cX3_init 15 = .ok (.aload_n 0, 1) := by decide +kernel
theorem dX3_init_16 : decode cX3_init 16 = .ok (.bipush 8, 2) := by decide +kernel
theorem dX3_init_18 : decode cX3_init 18 = .ok (.iconst 5, 1) := by decide +kernel
theorem dX3_init_19 : decode cX3_init 19 = .ok (.multianewarray 9 2, 4) := by decide +kernel
theorem dX3_init_23 : decode cX3_init 23 = .ok (.putfield 16, 3) := by decide +kernel
theorem dX3_init_26 : decode cX3_init 26 = .ok (.aload_n 0, 1) := by decide +kernel
theorem dX3_init_27 : decode cX3_init 27 = .ok (.bipush 6, 2) := by decide +kernel
theorem dX3_init_29 : decode cX3_init 29 = .ok (.newarray .int, 2) := by decide +kernel
theorem dX3_init_31 : decode cX3_init 31 = .ok (.putfield 19, 3) := by decide +kernel
theorem dX3_init_34 : decode cX3_init 34 = .ok (.return_, 1) := by decide +kernel
theorem kw_188 : Cond.methodLink RX3 3 objectInit ∈ am_T := am_has_in (p := 188) (by decide +kernel)
theorem kw_189 : Cond.classLink RX3 9 ("[" ++ (FieldType.array .int).toString) ∈ am_T := am_has_in (p := 189) (by decide +kernel)
theorem kw_217 : Cond.fieldLink RX3 11 "MarchFolk$Plan" "road" "[[I" ∈ am_T := am_has_in (p := 217) (by decide +kernel)
theorem kw_221 : Cond.fieldLink RX3 16 "MarchFolk$Plan" "person" "[[I" ∈ am_T := am_has_in (p := 221) (by decide +kernel)
theorem kw_225 : Cond.fieldLink RX3 19 "MarchFolk$Plan" "grant" "[I" ∈ am_T := am_has_in (p := 225) (by decide +kernel)
set_option maxHeartbeats 40000000 in
set_option maxRecDepth 100000 in
theorem kc_X3 (l : Launch) (D : va_G) (cy : Nat → ClassId) : kn_Con l D cy yX3_init cX3_init 1 3 [.int 0, .int 0, .int 0, .int 0, .int 0, .int 0, .int 0, .null, .null, .null] [] 1 21 94 22 (kn_cell cy 3) := by
  intro h0 sz
  refine Met.ofW (cc := cX3_init) (maxL := 1) (ret := none) (by decide) rfl ?_
  intro p e s m args below meth c s₁ B hml hv
  obtain ⟨rfl, hsz, hP, hD0, hE⟩ := hv
  have hx := B.exec
  have hb := B.bytes
  have hr := B.returns
  have hts0 := atoms_spec (ws := kn_ws yX3_init cX3_init 1) B.pre
  have hts : ∀ w ∈ am_T, w.before _ s = true := fun w hw => hts0 w (List.mem_cons_of_mem _ hw)
  have hown : s.vm.findClass RX3 = some m.cls := findClass_of_methodNamed B.named
  have hlocks := B.notSynchronized
  have hin : meth.name = "<init>" := (name_of_methodNamed B.named B.method).1
  subst hsz
  have hD := hD0.self (sz := s.heap.size)
  generalize hAe : va_A [(h0, .inr (3, [.int 0, .int 0, .int 0, .int 0, .int 0, .int 0, .int 0, .null, .null, .null]))] s.heap.size = A at hD ⊢
  have hA : ∀ q : Nat, s.heap.size ≤ q → A q := fun q h => by rw [← hAe]; exact Or.inr h
  have hS : va_S A s.heap s.heap [] := va_S.rf
  have hK := hE.1
  have F : kn_F p c cX3_init 1 s m _ RX3 D cy := ⟨hx, hb, hml, hts, hown, hE⟩
  have hl := lv_entry ([.ref h0]) (n := 1) (Nat.le_of_ble_eq_true rfl)
  rw [lg_entry_eq]
  generalize (lg_sl ([.ref h0]) ++ List.replicate (1 - (lg_sl ([.ref h0])).length) Slot.unset).toArray = ls at hl ⊢
  have hl : lv_has ls 1 [(0, .ref h0)] := hl
  refine lv_aload_n hx hb dX3_init_0 rfl (lv_at hl 0 rfl) ?_
  refine W.objInit hx hb hown (hts _ kw_188) (hts _ kw_153) (hts _ kw_154) rfl (by rw [hml]; exact hl.1) rfl dX3_init_1 (Nat.le_of_ble_eq_true rfl) (Nat.le_of_ble_eq_true rfl) ?_
  refine W.eq (g2 := F0 m 4 ls []) rfl ?_
  have hP : va_P D am_cls ([(h0, .inr (3, [.int 0, .int 0, .int 0, .int 0, .int 0, .int 0, .int 0, .null, .null, .null]))]) s.heap := hP
  refine lv_aload_n hx hb dX3_init_4 rfl (lv_at hl 0 rfl) ?_
  refine lv_bipush (v := 10) hx hb dX3_init_5 (by decide) ?_
  refine lv_iconst (v := 3) hx hb dX3_init_7 (by decide) ?_
  refine kn_mna (ty := .int) (cA := cy 24) (cI := cy 21) (N' := 10) (K' := 3) (z := (3, .inl (fun _ => 0))) hx hb hown (hts _ kw_189) (kn_over hE.2.2.2.2) (hts _ kw_248) (hK.2 4 _ rfl).2 (hK.2 1 _ rfl).2 hP hD hS hA (by decide) (by decide) (by decide) (by decide) (Nat.le_of_ble_eq_true rfl) (Nat.le_of_ble_eq_true rfl) (Nat.le_of_ble_eq_true rfl) (by decide) (by decide) (Nat.le_of_ble_eq_true rfl) (Nat.le_of_ble_eq_true rfl) (fun _ => arrV_new _ _ _) dX3_init_8 (fun q1 H hP hD hS => ?_)
  have hP : va_P D am_cls ([(h0, .inr (3, [.int 0, .int 0, .int 0, .int 0, .int 0, .int 0, .int 0, .null, .null, .null]))] ++ [(q1, .inl (cy 24, 10, .inr (.inr (.inr (.inr (fun i => if i < 10 then some (q1 + 1 + i) else none))))))] ++ (List.range 10).map (fun i => (q1 + 1 + i, .inl (cy 21, 3, .inl (fun _ => 0))))) H := hP
  have hD : va_D A ([(h0, .inr (3, [.int 0, .int 0, .int 0, .int 0, .int 0, .int 0, .int 0, .null, .null, .null]))] ++ [(q1, .inl (cy 24, 10, .inr (.inr (.inr (.inr (fun i => if i < 10 then some (q1 + 1 + i) else none))))))] ++ (List.range 10).map (fun i => (q1 + 1 + i, .inl (cy 21, 3, .inl (fun _ => 0))))) := hD
  refine va_putF (D := D) (ci := 3) (v := .ref q1) (ty := .array (.array .int)) (C := RX3) (T := TX3) (N := 10) hx hb hts (am_ws_T (ci := 3) (by omega)) tyX3 tyX3_ok nmX3 hown hK hP hD hS 0 rfl rfl 7 (by decide) (hts _ kw_217) (fun _ h9 => h9) rfl hin rfl (by decide +kernel) rfl rfl (Nat.le_of_ble_eq_true rfl) dX3_init_12 (fun H locs hP hD hS => ?_)
  have hP : va_P D am_cls ([(h0, .inr (3, [.int 0, .int 0, .int 0, .int 0, .int 0, .int 0, .int 0, .ref q1, .null, .null]))] ++ [(q1, .inl (cy 24, 10, .inr (.inr (.inr (.inr (fun i => if i < 10 then some (q1 + 1 + i) else none))))))] ++ (List.range 10).map (fun i => (q1 + 1 + i, .inl (cy 21, 3, .inl (fun _ => 0))))) H := hP
  have hD : va_D A ([(h0, .inr (3, [.int 0, .int 0, .int 0, .int 0, .int 0, .int 0, .int 0, .ref q1, .null, .null]))] ++ [(q1, .inl (cy 24, 10, .inr (.inr (.inr (.inr (fun i => if i < 10 then some (q1 + 1 + i) else none))))))] ++ (List.range 10).map (fun i => (q1 + 1 + i, .inl (cy 21, 3, .inl (fun _ => 0))))) := hD
  refine lv_aload_n hx hb dX3_init_15 rfl (lv_at hl 0 rfl) ?_
  refine lv_bipush (v := 8) hx hb dX3_init_16 (by decide) ?_
  refine lv_iconst (v := 5) hx hb dX3_init_18 (by decide) ?_
  refine kn_mna (ty := .int) (cA := cy 24) (cI := cy 21) (N' := 8) (K' := 5) (z := (5, .inl (fun _ => 0))) hx hb hown (hts _ kw_189) (kn_over hE.2.2.2.2) (hts _ kw_248) (hK.2 4 _ rfl).2 (hK.2 1 _ rfl).2 hP hD hS hA (by decide) (by decide) (by decide) (by decide) (Nat.le_of_ble_eq_true rfl) (Nat.le_of_ble_eq_true rfl) (Nat.le_of_ble_eq_true rfl) (by decide) (by decide) (Nat.le_of_ble_eq_true rfl) (Nat.le_of_ble_eq_true rfl) (fun _ => arrV_new _ _ _) dX3_init_19 (fun q2 H hP hD hS => ?_)
  have hP : va_P D am_cls ([(h0, .inr (3, [.int 0, .int 0, .int 0, .int 0, .int 0, .int 0, .int 0, .ref q1, .null, .null]))] ++ [(q1, .inl (cy 24, 10, .inr (.inr (.inr (.inr (fun i => if i < 10 then some (q1 + 1 + i) else none))))))] ++ (List.range 10).map (fun i => (q1 + 1 + i, .inl (cy 21, 3, .inl (fun _ => 0)))) ++ [(q2, .inl (cy 24, 8, .inr (.inr (.inr (.inr (fun i => if i < 8 then some (q2 + 1 + i) else none))))))] ++ (List.range 8).map (fun i => (q2 + 1 + i, .inl (cy 21, 5, .inl (fun _ => 0))))) H := hP
  have hD : va_D A ([(h0, .inr (3, [.int 0, .int 0, .int 0, .int 0, .int 0, .int 0, .int 0, .ref q1, .null, .null]))] ++ [(q1, .inl (cy 24, 10, .inr (.inr (.inr (.inr (fun i => if i < 10 then some (q1 + 1 + i) else none))))))] ++ (List.range 10).map (fun i => (q1 + 1 + i, .inl (cy 21, 3, .inl (fun _ => 0)))) ++ [(q2, .inl (cy 24, 8, .inr (.inr (.inr (.inr (fun i => if i < 8 then some (q2 + 1 + i) else none))))))] ++ (List.range 8).map (fun i => (q2 + 1 + i, .inl (cy 21, 5, .inl (fun _ => 0))))) := hD
  refine va_putF (D := D) (ci := 3) (v := .ref q2) (ty := .array (.array .int)) (C := RX3) (T := TX3) (N := 10) hx hb hts (am_ws_T (ci := 3) (by omega)) tyX3 tyX3_ok nmX3 hown hK hP hD hS 0 rfl rfl 8 (by decide) (hts _ kw_221) (fun _ h9 => h9) rfl hin rfl (by decide +kernel) rfl rfl (Nat.le_of_ble_eq_true rfl) dX3_init_23 (fun H locs hP hD hS => ?_)
  have hP : va_P D am_cls ([(h0, .inr (3, [.int 0, .int 0, .int 0, .int 0, .int 0, .int 0, .int 0, .ref q1, .ref q2, .null]))] ++ [(q1, .inl (cy 24, 10, .inr (.inr (.inr (.inr (fun i => if i < 10 then some (q1 + 1 + i) else none))))))] ++ (List.range 10).map (fun i => (q1 + 1 + i, .inl (cy 21, 3, .inl (fun _ => 0)))) ++ [(q2, .inl (cy 24, 8, .inr (.inr (.inr (.inr (fun i => if i < 8 then some (q2 + 1 + i) else none))))))] ++ (List.range 8).map (fun i => (q2 + 1 + i, .inl (cy 21, 5, .inl (fun _ => 0))))) H := hP
  have hD : va_D A ([(h0, .inr (3, [.int 0, .int 0, .int 0, .int 0, .int 0, .int 0, .int 0, .ref q1, .ref q2, .null]))] ++ [(q1, .inl (cy 24, 10, .inr (.inr (.inr (.inr (fun i => if i < 10 then some (q1 + 1 + i) else none))))))] ++ (List.range 10).map (fun i => (q1 + 1 + i, .inl (cy 21, 3, .inl (fun _ => 0)))) ++ [(q2, .inl (cy 24, 8, .inr (.inr (.inr (.inr (fun i => if i < 8 then some (q2 + 1 + i) else none))))))] ++ (List.range 8).map (fun i => (q2 + 1 + i, .inl (cy 21, 5, .inl (fun _ => 0))))) := hD
  refine lv_aload_n hx hb dX3_init_26 rfl (lv_at hl 0 rfl) ?_
  refine lv_bipush (v := 6) hx hb dX3_init_27 (by decide) ?_
  refine kn_newa (atype := .int) (ty := .int) (c9 := cy 21) (N' := 6) (a0 := (6, .inl (fun _ => 0))) hx hb (hts _ kw_248) rfl hK 1 rfl (fun _ h9 => h9) hP hD hS hA (fun _ => rfl) (by decide) (by decide) (Nat.le_of_ble_eq_true rfl) (Nat.le_of_ble_eq_true rfl) (Nat.le_of_ble_eq_true rfl) dX3_init_29 (fun q3 H hP hD hS => ?_)
  have hP : va_P D am_cls ([(h0, .inr (3, [.int 0, .int 0, .int 0, .int 0, .int 0, .int 0, .int 0, .ref q1, .ref q2, .null]))] ++ [(q1, .inl (cy 24, 10, .inr (.inr (.inr (.inr (fun i => if i < 10 then some (q1 + 1 + i) else none))))))] ++ (List.range 10).map (fun i => (q1 + 1 + i, .inl (cy 21, 3, .inl (fun _ => 0)))) ++ [(q2, .inl (cy 24, 8, .inr (.inr (.inr (.inr (fun i => if i < 8 then some (q2 + 1 + i) else none))))))] ++ (List.range 8).map (fun i => (q2 + 1 + i, .inl (cy 21, 5, .inl (fun _ => 0)))) ++ [(q3, .inl (cy 21, 6, .inl (fun _ => 0)))]) H := hP
  have hD : va_D A ([(h0, .inr (3, [.int 0, .int 0, .int 0, .int 0, .int 0, .int 0, .int 0, .ref q1, .ref q2, .null]))] ++ [(q1, .inl (cy 24, 10, .inr (.inr (.inr (.inr (fun i => if i < 10 then some (q1 + 1 + i) else none))))))] ++ (List.range 10).map (fun i => (q1 + 1 + i, .inl (cy 21, 3, .inl (fun _ => 0)))) ++ [(q2, .inl (cy 24, 8, .inr (.inr (.inr (.inr (fun i => if i < 8 then some (q2 + 1 + i) else none))))))] ++ (List.range 8).map (fun i => (q2 + 1 + i, .inl (cy 21, 5, .inl (fun _ => 0)))) ++ [(q3, .inl (cy 21, 6, .inl (fun _ => 0)))]) := hD
  refine va_putF (D := D) (ci := 3) (v := .ref q3) (ty := .array .int) (C := RX3) (T := TX3) (N := 10) hx hb hts (am_ws_T (ci := 3) (by omega)) tyX3 tyX3_ok nmX3 hown hK hP hD hS 0 rfl rfl 9 (by decide) (hts _ kw_225) (fun _ h9 => h9) rfl hin rfl (by decide +kernel) rfl rfl (Nat.le_of_ble_eq_true rfl) dX3_init_31 (fun H locs hP hD hS => ?_)
  have hP : va_P D am_cls ([(h0, .inr (3, [.int 0, .int 0, .int 0, .int 0, .int 0, .int 0, .int 0, .ref q1, .ref q2, .ref q3]))] ++ [(q1, .inl (cy 24, 10, .inr (.inr (.inr (.inr (fun i => if i < 10 then some (q1 + 1 + i) else none))))))] ++ (List.range 10).map (fun i => (q1 + 1 + i, .inl (cy 21, 3, .inl (fun _ => 0)))) ++ [(q2, .inl (cy 24, 8, .inr (.inr (.inr (.inr (fun i => if i < 8 then some (q2 + 1 + i) else none))))))] ++ (List.range 8).map (fun i => (q2 + 1 + i, .inl (cy 21, 5, .inl (fun _ => 0)))) ++ [(q3, .inl (cy 21, 6, .inl (fun _ => 0)))]) H := hP
  have hD : va_D A ([(h0, .inr (3, [.int 0, .int 0, .int 0, .int 0, .int 0, .int 0, .int 0, .ref q1, .ref q2, .ref q3]))] ++ [(q1, .inl (cy 24, 10, .inr (.inr (.inr (.inr (fun i => if i < 10 then some (q1 + 1 + i) else none))))))] ++ (List.range 10).map (fun i => (q1 + 1 + i, .inl (cy 21, 3, .inl (fun _ => 0)))) ++ [(q2, .inl (cy 24, 8, .inr (.inr (.inr (.inr (fun i => if i < 8 then some (q2 + 1 + i) else none))))))] ++ (List.range 8).map (fun i => (q2 + 1 + i, .inl (cy 21, 5, .inl (fun _ => 0)))) ++ [(q3, .inl (cy 21, 6, .inl (fun _ => 0)))]) := hD
  have hC := kn_conv (n := 22) (cell := kn_cell cy 3) (q := (fun j : Nat => if j = 0 then h0 else if j = 1 then q1 else if j < 12 then q1 + 1 + (j - 2) else if j = 12 then q2 else if j < 21 then q2 + 1 + (j - 13) else q3)) (fun j hj => by
    rcases (by omega : j = 0 ∨ j = 1 ∨ j = 2 ∨ j = 3 ∨ j = 4 ∨ j = 5 ∨ j = 6 ∨ j = 7 ∨ j = 8 ∨ j = 9 ∨ j = 10 ∨ j = 11 ∨ j = 12 ∨ j = 13 ∨ j = 14 ∨ j = 15 ∨ j = 16 ∨ j = 17 ∨ j = 18 ∨ j = 19 ∨ j = 20 ∨ j = 21) with rfl | rfl | rfl | rfl | rfl | rfl | rfl | rfl | rfl | rfl | rfl | rfl | rfl | rfl | rfl | rfl | rfl | rfl | rfl | rfl | rfl | rfl
    · exact ⟨_, rfl, kn_ag_e rfl⟩
    · refine ⟨_, rfl, kn_ag_q (fun i hi => ?_)⟩
      rw [if_pos hi]
      show some (q1 + 1 + i) = some ((fun j : Nat => if j = 0 then h0 else if j = 1 then q1 else if j < 12 then q1 + 1 + (j - 2) else if j = 12 then q2 else if j < 21 then q2 + 1 + (j - 13) else q3) (4 + 1 + i - 3))
      rw [show 4 + 1 + i - 3 = 2 + i by omega]
      show some (q1 + 1 + i) = some (if  (2 + i)  = 0 then h0 else if  (2 + i)  = 1 then q1 else if  (2 + i)  < 12 then q1 + 1 + ( (2 + i)  - 2) else if  (2 + i)  = 12 then q2 else if  (2 + i)  < 21 then q2 + 1 + ( (2 + i)  - 13) else q3)
      rw [if_neg (by omega), if_neg (by omega), if_pos (by omega)]
      congr 1; omega
    · exact ⟨_, rfl, kn_ag_e rfl⟩
    · exact ⟨_, rfl, kn_ag_e rfl⟩
    · exact ⟨_, rfl, kn_ag_e rfl⟩
    · exact ⟨_, rfl, kn_ag_e rfl⟩
    · exact ⟨_, rfl, kn_ag_e rfl⟩
    · exact ⟨_, rfl, kn_ag_e rfl⟩
    · exact ⟨_, rfl, kn_ag_e rfl⟩
    · exact ⟨_, rfl, kn_ag_e rfl⟩
    · exact ⟨_, rfl, kn_ag_e rfl⟩
    · exact ⟨_, rfl, kn_ag_e rfl⟩
    · refine ⟨_, rfl, kn_ag_q (fun i hi => ?_)⟩
      rw [if_pos hi]
      show some (q2 + 1 + i) = some ((fun j : Nat => if j = 0 then h0 else if j = 1 then q1 else if j < 12 then q1 + 1 + (j - 2) else if j = 12 then q2 else if j < 21 then q2 + 1 + (j - 13) else q3) (15 + 1 + i - 3))
      rw [show 15 + 1 + i - 3 = 13 + i by omega]
      show some (q2 + 1 + i) = some (if  (13 + i)  = 0 then h0 else if  (13 + i)  = 1 then q1 else if  (13 + i)  < 12 then q1 + 1 + ( (13 + i)  - 2) else if  (13 + i)  = 12 then q2 else if  (13 + i)  < 21 then q2 + 1 + ( (13 + i)  - 13) else q3)
      rw [if_neg (by omega), if_neg (by omega), if_neg (by omega), if_neg (by omega), if_pos (by omega)]
      congr 1; omega
    · exact ⟨_, rfl, kn_ag_e rfl⟩
    · exact ⟨_, rfl, kn_ag_e rfl⟩
    · exact ⟨_, rfl, kn_ag_e rfl⟩
    · exact ⟨_, rfl, kn_ag_e rfl⟩
    · exact ⟨_, rfl, kn_ag_e rfl⟩
    · exact ⟨_, rfl, kn_ag_e rfl⟩
    · exact ⟨_, rfl, kn_ag_e rfl⟩
    · exact ⟨_, rfl, kn_ag_e rfl⟩
    · exact ⟨_, rfl, kn_ag_e rfl⟩
    ) hP hD
  refine W.widen (k := 21) (n := 94) (Nat.le_of_ble_eq_true rfl) (Nat.le_of_ble_eq_true rfl) ?_
  exact W.vret hx hb hr (fun t ht hW => ⟨⟨_, rfl, rfl, by rw [ht]; exact hC.1, hC.2⟩, hS.F ht⟩) hS.2.2 dX3_init_34
theorem dX7_init_0 : decode cX7_init 0 = .ok (.aload_n 0, 1) := by decide +kernel
theorem dX7_init_1 : decode cX7_init 1 = .ok (.invokespecial 3, 3) := by decide +kernel
theorem dX7_init_4 : decode cX7_init 4 = .ok (.aload_n 0, 1) := by decide +kernel
theorem dX7_init_5 : decode cX7_init 5 = .ok (.bipush 7, 2) := by decide +kernel
theorem dX7_init_7 : decode cX7_init 7 = .ok (.bipush 7, 2) := by decide +kernel
theorem dX7_init_9 : decode cX7_init 9 = .ok (.multianewarray 9 2, 4) := by decide +kernel
theorem dX7_init_13 : decode cX7_init 13 = .ok (.putfield 11, 3) := by decide +kernel
theorem dX7_init_16 : decode cX7_init 16 = .ok (.aload_n 0, 1) := by decide +kernel
theorem dX7_init_17 : decode cX7_init 17 = .ok (.bipush 7, 2) := by decide +kernel
theorem dX7_init_19 : decode cX7_init 19 = .ok (.bipush 7, 2) := by decide +kernel
theorem dX7_init_21 : decode cX7_init 21 = .ok (.multianewarray 9 2, 4) := by decide +kernel
theorem dX7_init_25 : decode cX7_init 25 = .ok (.putfield 16, 3) := by decide +kernel
theorem dX7_init_28 : decode cX7_init 28 = .ok (.aload_n 0, 1) := by decide +kernel
theorem dX7_init_29 : decode cX7_init 29 = .ok (.bipush 7, 2) := by decide +kernel
theorem dX7_init_31 : decode cX7_init 31 = .ok (.bipush 7, 2) := by decide +kernel
theorem dX7_init_33 : decode cX7_init 33 = .ok (.multianewarray 9 2, 4) := by decide +kernel
theorem dX7_init_37 : decode cX7_init 37 = .ok (.putfield 19, 3) := by decide +kernel
theorem dX7_init_40 : decode cX7_init 40 = .ok (.return_, 1) := by decide +kernel
theorem kw_283 : Cond.methodLink RX7 3 objectInit ∈ am_T := am_has_in (p := 283) (by decide +kernel)
theorem kw_284 : Cond.classLink RX7 9 ("[" ++ (FieldType.array .int).toString) ∈ am_T := am_has_in (p := 284) (by decide +kernel)
theorem kw_286 : Cond.fieldLink RX7 11 "MarchFolk$Ways" "beside" "[[I" ∈ am_T := am_has_in (p := 286) (by decide +kernel)
theorem kw_287 : Cond.fieldLink RX7 16 "MarchFolk$Ways" "length" "[[I" ∈ am_T := am_has_in (p := 287) (by decide +kernel)
theorem kw_288 : Cond.fieldLink RX7 19 "MarchFolk$Ways" "first" "[[I" ∈ am_T := am_has_in (p := 288) (by decide +kernel)
set_option maxHeartbeats 40000000 in
set_option maxRecDepth 100000 in
theorem kc_X7 (l : Launch) (D : va_G) (cy : Nat → ClassId) : kn_Con l D cy yX7_init cX7_init 1 7 [.int 0, .null, .null, .null] [] 1 24 168 25 (kn_cell cy 138) := by
  intro h0 sz
  refine Met.ofW (cc := cX7_init) (maxL := 1) (ret := none) (by decide) rfl ?_
  intro p e s m args below meth c s₁ B hml hv
  obtain ⟨rfl, hsz, hP, hD0, hE⟩ := hv
  have hx := B.exec
  have hb := B.bytes
  have hr := B.returns
  have hts0 := atoms_spec (ws := kn_ws yX7_init cX7_init 1) B.pre
  have hts : ∀ w ∈ am_T, w.before _ s = true := fun w hw => hts0 w (List.mem_cons_of_mem _ hw)
  have hown : s.vm.findClass RX7 = some m.cls := findClass_of_methodNamed B.named
  have hlocks := B.notSynchronized
  have hin : meth.name = "<init>" := (name_of_methodNamed B.named B.method).1
  subst hsz
  have hD := hD0.self (sz := s.heap.size)
  generalize hAe : va_A [(h0, .inr (7, [.int 0, .null, .null, .null]))] s.heap.size = A at hD ⊢
  have hA : ∀ q : Nat, s.heap.size ≤ q → A q := fun q h => by rw [← hAe]; exact Or.inr h
  have hS : va_S A s.heap s.heap [] := va_S.rf
  have hK := hE.1
  have F : kn_F p c cX7_init 1 s m _ RX7 D cy := ⟨hx, hb, hml, hts, hown, hE⟩
  have hl := lv_entry ([.ref h0]) (n := 1) (Nat.le_of_ble_eq_true rfl)
  rw [lg_entry_eq]
  generalize (lg_sl ([.ref h0]) ++ List.replicate (1 - (lg_sl ([.ref h0])).length) Slot.unset).toArray = ls at hl ⊢
  have hl : lv_has ls 1 [(0, .ref h0)] := hl
  refine lv_aload_n hx hb dX7_init_0 rfl (lv_at hl 0 rfl) ?_
  refine W.objInit hx hb hown (hts _ kw_283) (hts _ kw_153) (hts _ kw_154) rfl (by rw [hml]; exact hl.1) rfl dX7_init_1 (Nat.le_of_ble_eq_true rfl) (Nat.le_of_ble_eq_true rfl) ?_
  refine W.eq (g2 := F0 m 4 ls []) rfl ?_
  have hP : va_P D am_cls ([(h0, .inr (7, [.int 0, .null, .null, .null]))]) s.heap := hP
  refine lv_aload_n hx hb dX7_init_4 rfl (lv_at hl 0 rfl) ?_
  refine lv_bipush (v := 7) hx hb dX7_init_5 (by decide) ?_
  refine lv_bipush (v := 7) hx hb dX7_init_7 (by decide) ?_
  refine kn_mna (ty := .int) (cA := cy 24) (cI := cy 21) (N' := 7) (K' := 7) (z := (7, .inl (fun _ => 0))) hx hb hown (hts _ kw_284) (kn_over hE.2.2.2.2) (hts _ kw_248) (hK.2 4 _ rfl).2 (hK.2 1 _ rfl).2 hP hD hS hA (by decide) (by decide) (by decide) (by decide) (Nat.le_of_ble_eq_true rfl) (Nat.le_of_ble_eq_true rfl) (Nat.le_of_ble_eq_true rfl) (by decide) (by decide) (Nat.le_of_ble_eq_true rfl) (Nat.le_of_ble_eq_true rfl) (fun _ => arrV_new _ _ _) dX7_init_9 (fun q1 H hP hD hS => ?_)
  have hP : va_P D am_cls ([(h0, .inr (7, [.int 0, .null, .null, .null]))] ++ [(q1, .inl (cy 24, 7, .inr (.inr (.inr (.inr (fun i => if i < 7 then some (q1 + 1 + i) else none))))))] ++ (List.range 7).map (fun i => (q1 + 1 + i, .inl (cy 21, 7, .inl (fun _ => 0))))) H := hP
  have hD : va_D A ([(h0, .inr (7, [.int 0, .null, .null, .null]))] ++ [(q1, .inl (cy 24, 7, .inr (.inr (.inr (.inr (fun i => if i < 7 then some (q1 + 1 + i) else none))))))] ++ (List.range 7).map (fun i => (q1 + 1 + i, .inl (cy 21, 7, .inl (fun _ => 0))))) := hD
  refine va_putF (D := D) (ci := 7) (v := .ref q1) (ty := .array (.array .int)) (C := RX7) (T := TX7) (N := 4) hx hb hts (am_ws_T (ci := 7) (by omega)) tyX7 tyX7_ok nmX7 hown hK hP hD hS 0 rfl rfl 1 (by decide) (hts _ kw_286) (fun _ h9 => h9) rfl hin rfl (by decide +kernel) rfl rfl (Nat.le_of_ble_eq_true rfl) dX7_init_13 (fun H locs hP hD hS => ?_)
  have hP : va_P D am_cls ([(h0, .inr (7, [.int 0, .ref q1, .null, .null]))] ++ [(q1, .inl (cy 24, 7, .inr (.inr (.inr (.inr (fun i => if i < 7 then some (q1 + 1 + i) else none))))))] ++ (List.range 7).map (fun i => (q1 + 1 + i, .inl (cy 21, 7, .inl (fun _ => 0))))) H := hP
  have hD : va_D A ([(h0, .inr (7, [.int 0, .ref q1, .null, .null]))] ++ [(q1, .inl (cy 24, 7, .inr (.inr (.inr (.inr (fun i => if i < 7 then some (q1 + 1 + i) else none))))))] ++ (List.range 7).map (fun i => (q1 + 1 + i, .inl (cy 21, 7, .inl (fun _ => 0))))) := hD
  refine lv_aload_n hx hb dX7_init_16 rfl (lv_at hl 0 rfl) ?_
  refine lv_bipush (v := 7) hx hb dX7_init_17 (by decide) ?_
  refine lv_bipush (v := 7) hx hb dX7_init_19 (by decide) ?_
  refine kn_mna (ty := .int) (cA := cy 24) (cI := cy 21) (N' := 7) (K' := 7) (z := (7, .inl (fun _ => 0))) hx hb hown (hts _ kw_284) (kn_over hE.2.2.2.2) (hts _ kw_248) (hK.2 4 _ rfl).2 (hK.2 1 _ rfl).2 hP hD hS hA (by decide) (by decide) (by decide) (by decide) (Nat.le_of_ble_eq_true rfl) (Nat.le_of_ble_eq_true rfl) (Nat.le_of_ble_eq_true rfl) (by decide) (by decide) (Nat.le_of_ble_eq_true rfl) (Nat.le_of_ble_eq_true rfl) (fun _ => arrV_new _ _ _) dX7_init_21 (fun q2 H hP hD hS => ?_)
  have hP : va_P D am_cls ([(h0, .inr (7, [.int 0, .ref q1, .null, .null]))] ++ [(q1, .inl (cy 24, 7, .inr (.inr (.inr (.inr (fun i => if i < 7 then some (q1 + 1 + i) else none))))))] ++ (List.range 7).map (fun i => (q1 + 1 + i, .inl (cy 21, 7, .inl (fun _ => 0)))) ++ [(q2, .inl (cy 24, 7, .inr (.inr (.inr (.inr (fun i => if i < 7 then some (q2 + 1 + i) else none))))))] ++ (List.range 7).map (fun i => (q2 + 1 + i, .inl (cy 21, 7, .inl (fun _ => 0))))) H := hP
  have hD : va_D A ([(h0, .inr (7, [.int 0, .ref q1, .null, .null]))] ++ [(q1, .inl (cy 24, 7, .inr (.inr (.inr (.inr (fun i => if i < 7 then some (q1 + 1 + i) else none))))))] ++ (List.range 7).map (fun i => (q1 + 1 + i, .inl (cy 21, 7, .inl (fun _ => 0)))) ++ [(q2, .inl (cy 24, 7, .inr (.inr (.inr (.inr (fun i => if i < 7 then some (q2 + 1 + i) else none))))))] ++ (List.range 7).map (fun i => (q2 + 1 + i, .inl (cy 21, 7, .inl (fun _ => 0))))) := hD
  refine va_putF (D := D) (ci := 7) (v := .ref q2) (ty := .array (.array .int)) (C := RX7) (T := TX7) (N := 4) hx hb hts (am_ws_T (ci := 7) (by omega)) tyX7 tyX7_ok nmX7 hown hK hP hD hS 0 rfl rfl 2 (by decide) (hts _ kw_287) (fun _ h9 => h9) rfl hin rfl (by decide +kernel) rfl rfl (Nat.le_of_ble_eq_true rfl) dX7_init_25 (fun H locs hP hD hS => ?_)
  have hP : va_P D am_cls ([(h0, .inr (7, [.int 0, .ref q1, .ref q2, .null]))] ++ [(q1, .inl (cy 24, 7, .inr (.inr (.inr (.inr (fun i => if i < 7 then some (q1 + 1 + i) else none))))))] ++ (List.range 7).map (fun i => (q1 + 1 + i, .inl (cy 21, 7, .inl (fun _ => 0)))) ++ [(q2, .inl (cy 24, 7, .inr (.inr (.inr (.inr (fun i => if i < 7 then some (q2 + 1 + i) else none))))))] ++ (List.range 7).map (fun i => (q2 + 1 + i, .inl (cy 21, 7, .inl (fun _ => 0))))) H := hP
  have hD : va_D A ([(h0, .inr (7, [.int 0, .ref q1, .ref q2, .null]))] ++ [(q1, .inl (cy 24, 7, .inr (.inr (.inr (.inr (fun i => if i < 7 then some (q1 + 1 + i) else none))))))] ++ (List.range 7).map (fun i => (q1 + 1 + i, .inl (cy 21, 7, .inl (fun _ => 0)))) ++ [(q2, .inl (cy 24, 7, .inr (.inr (.inr (.inr (fun i => if i < 7 then some (q2 + 1 + i) else none))))))] ++ (List.range 7).map (fun i => (q2 + 1 + i, .inl (cy 21, 7, .inl (fun _ => 0))))) := hD
  refine lv_aload_n hx hb dX7_init_28 rfl (lv_at hl 0 rfl) ?_
  refine lv_bipush (v := 7) hx hb dX7_init_29 (by decide) ?_
  refine lv_bipush (v := 7) hx hb dX7_init_31 (by decide) ?_
  refine kn_mna (ty := .int) (cA := cy 24) (cI := cy 21) (N' := 7) (K' := 7) (z := (7, .inl (fun _ => 0))) hx hb hown (hts _ kw_284) (kn_over hE.2.2.2.2) (hts _ kw_248) (hK.2 4 _ rfl).2 (hK.2 1 _ rfl).2 hP hD hS hA (by decide) (by decide) (by decide) (by decide) (Nat.le_of_ble_eq_true rfl) (Nat.le_of_ble_eq_true rfl) (Nat.le_of_ble_eq_true rfl) (by decide) (by decide) (Nat.le_of_ble_eq_true rfl) (Nat.le_of_ble_eq_true rfl) (fun _ => arrV_new _ _ _) dX7_init_33 (fun q3 H hP hD hS => ?_)
  have hP : va_P D am_cls ([(h0, .inr (7, [.int 0, .ref q1, .ref q2, .null]))] ++ [(q1, .inl (cy 24, 7, .inr (.inr (.inr (.inr (fun i => if i < 7 then some (q1 + 1 + i) else none))))))] ++ (List.range 7).map (fun i => (q1 + 1 + i, .inl (cy 21, 7, .inl (fun _ => 0)))) ++ [(q2, .inl (cy 24, 7, .inr (.inr (.inr (.inr (fun i => if i < 7 then some (q2 + 1 + i) else none))))))] ++ (List.range 7).map (fun i => (q2 + 1 + i, .inl (cy 21, 7, .inl (fun _ => 0)))) ++ [(q3, .inl (cy 24, 7, .inr (.inr (.inr (.inr (fun i => if i < 7 then some (q3 + 1 + i) else none))))))] ++ (List.range 7).map (fun i => (q3 + 1 + i, .inl (cy 21, 7, .inl (fun _ => 0))))) H := hP
  have hD : va_D A ([(h0, .inr (7, [.int 0, .ref q1, .ref q2, .null]))] ++ [(q1, .inl (cy 24, 7, .inr (.inr (.inr (.inr (fun i => if i < 7 then some (q1 + 1 + i) else none))))))] ++ (List.range 7).map (fun i => (q1 + 1 + i, .inl (cy 21, 7, .inl (fun _ => 0)))) ++ [(q2, .inl (cy 24, 7, .inr (.inr (.inr (.inr (fun i => if i < 7 then some (q2 + 1 + i) else none))))))] ++ (List.range 7).map (fun i => (q2 + 1 + i, .inl (cy 21, 7, .inl (fun _ => 0)))) ++ [(q3, .inl (cy 24, 7, .inr (.inr (.inr (.inr (fun i => if i < 7 then some (q3 + 1 + i) else none))))))] ++ (List.range 7).map (fun i => (q3 + 1 + i, .inl (cy 21, 7, .inl (fun _ => 0))))) := hD
  refine va_putF (D := D) (ci := 7) (v := .ref q3) (ty := .array (.array .int)) (C := RX7) (T := TX7) (N := 4) hx hb hts (am_ws_T (ci := 7) (by omega)) tyX7 tyX7_ok nmX7 hown hK hP hD hS 0 rfl rfl 3 (by decide) (hts _ kw_288) (fun _ h9 => h9) rfl hin rfl (by decide +kernel) rfl rfl (Nat.le_of_ble_eq_true rfl) dX7_init_37 (fun H locs hP hD hS => ?_)
  have hP : va_P D am_cls ([(h0, .inr (7, [.int 0, .ref q1, .ref q2, .ref q3]))] ++ [(q1, .inl (cy 24, 7, .inr (.inr (.inr (.inr (fun i => if i < 7 then some (q1 + 1 + i) else none))))))] ++ (List.range 7).map (fun i => (q1 + 1 + i, .inl (cy 21, 7, .inl (fun _ => 0)))) ++ [(q2, .inl (cy 24, 7, .inr (.inr (.inr (.inr (fun i => if i < 7 then some (q2 + 1 + i) else none))))))] ++ (List.range 7).map (fun i => (q2 + 1 + i, .inl (cy 21, 7, .inl (fun _ => 0)))) ++ [(q3, .inl (cy 24, 7, .inr (.inr (.inr (.inr (fun i => if i < 7 then some (q3 + 1 + i) else none))))))] ++ (List.range 7).map (fun i => (q3 + 1 + i, .inl (cy 21, 7, .inl (fun _ => 0))))) H := hP
  have hD : va_D A ([(h0, .inr (7, [.int 0, .ref q1, .ref q2, .ref q3]))] ++ [(q1, .inl (cy 24, 7, .inr (.inr (.inr (.inr (fun i => if i < 7 then some (q1 + 1 + i) else none))))))] ++ (List.range 7).map (fun i => (q1 + 1 + i, .inl (cy 21, 7, .inl (fun _ => 0)))) ++ [(q2, .inl (cy 24, 7, .inr (.inr (.inr (.inr (fun i => if i < 7 then some (q2 + 1 + i) else none))))))] ++ (List.range 7).map (fun i => (q2 + 1 + i, .inl (cy 21, 7, .inl (fun _ => 0)))) ++ [(q3, .inl (cy 24, 7, .inr (.inr (.inr (.inr (fun i => if i < 7 then some (q3 + 1 + i) else none))))))] ++ (List.range 7).map (fun i => (q3 + 1 + i, .inl (cy 21, 7, .inl (fun _ => 0))))) := hD
  have hC := kn_conv (n := 25) (cell := kn_cell cy 138) (q := (fun j : Nat => if j = 0 then h0 else if j = 1 then q1 else if j < 9 then q1 + 1 + (j - 2) else if j = 9 then q2 else if j < 17 then q2 + 1 + (j - 10) else if j = 17 then q3 else q3 + 1 + (j - 18))) (fun j hj => by
    rcases (by omega : j = 0 ∨ j = 1 ∨ j = 2 ∨ j = 3 ∨ j = 4 ∨ j = 5 ∨ j = 6 ∨ j = 7 ∨ j = 8 ∨ j = 9 ∨ j = 10 ∨ j = 11 ∨ j = 12 ∨ j = 13 ∨ j = 14 ∨ j = 15 ∨ j = 16 ∨ j = 17 ∨ j = 18 ∨ j = 19 ∨ j = 20 ∨ j = 21 ∨ j = 22 ∨ j = 23 ∨ j = 24) with rfl | rfl | rfl | rfl | rfl | rfl | rfl | rfl | rfl | rfl | rfl | rfl | rfl | rfl | rfl | rfl | rfl | rfl | rfl | rfl | rfl | rfl | rfl | rfl | rfl
    · exact ⟨_, rfl, kn_ag_e rfl⟩
    · refine ⟨_, rfl, kn_ag_q (fun i hi => ?_)⟩
      rw [if_pos hi]
      show some (q1 + 1 + i) = some ((fun j : Nat => if j = 0 then h0 else if j = 1 then q1 else if j < 9 then q1 + 1 + (j - 2) else if j = 9 then q2 else if j < 17 then q2 + 1 + (j - 10) else if j = 17 then q3 else q3 + 1 + (j - 18)) (139 + 1 + i - 138))
      rw [show 139 + 1 + i - 138 = 2 + i by omega]
      show some (q1 + 1 + i) = some (if  (2 + i)  = 0 then h0 else if  (2 + i)  = 1 then q1 else if  (2 + i)  < 9 then q1 + 1 + ( (2 + i)  - 2) else if  (2 + i)  = 9 then q2 else if  (2 + i)  < 17 then q2 + 1 + ( (2 + i)  - 10) else if  (2 + i)  = 17 then q3 else q3 + 1 + ( (2 + i)  - 18))
      rw [if_neg (by omega), if_neg (by omega), if_pos (by omega)]
      congr 1; omega
    · exact ⟨_, rfl, kn_ag_e rfl⟩
    · exact ⟨_, rfl, kn_ag_e rfl⟩
    · exact ⟨_, rfl, kn_ag_e rfl⟩
    · exact ⟨_, rfl, kn_ag_e rfl⟩
    · exact ⟨_, rfl, kn_ag_e rfl⟩
    · exact ⟨_, rfl, kn_ag_e rfl⟩
    · exact ⟨_, rfl, kn_ag_e rfl⟩
    · refine ⟨_, rfl, kn_ag_q (fun i hi => ?_)⟩
      rw [if_pos hi]
      show some (q2 + 1 + i) = some ((fun j : Nat => if j = 0 then h0 else if j = 1 then q1 else if j < 9 then q1 + 1 + (j - 2) else if j = 9 then q2 else if j < 17 then q2 + 1 + (j - 10) else if j = 17 then q3 else q3 + 1 + (j - 18)) (147 + 1 + i - 138))
      rw [show 147 + 1 + i - 138 = 10 + i by omega]
      show some (q2 + 1 + i) = some (if  (10 + i)  = 0 then h0 else if  (10 + i)  = 1 then q1 else if  (10 + i)  < 9 then q1 + 1 + ( (10 + i)  - 2) else if  (10 + i)  = 9 then q2 else if  (10 + i)  < 17 then q2 + 1 + ( (10 + i)  - 10) else if  (10 + i)  = 17 then q3 else q3 + 1 + ( (10 + i)  - 18))
      rw [if_neg (by omega), if_neg (by omega), if_neg (by omega), if_neg (by omega), if_pos (by omega)]
      congr 1; omega
    · exact ⟨_, rfl, kn_ag_e rfl⟩
    · exact ⟨_, rfl, kn_ag_e rfl⟩
    · exact ⟨_, rfl, kn_ag_e rfl⟩
    · exact ⟨_, rfl, kn_ag_e rfl⟩
    · exact ⟨_, rfl, kn_ag_e rfl⟩
    · exact ⟨_, rfl, kn_ag_e rfl⟩
    · exact ⟨_, rfl, kn_ag_e rfl⟩
    · refine ⟨_, rfl, kn_ag_q (fun i hi => ?_)⟩
      rw [if_pos hi]
      show some (q3 + 1 + i) = some ((fun j : Nat => if j = 0 then h0 else if j = 1 then q1 else if j < 9 then q1 + 1 + (j - 2) else if j = 9 then q2 else if j < 17 then q2 + 1 + (j - 10) else if j = 17 then q3 else q3 + 1 + (j - 18)) (155 + 1 + i - 138))
      rw [show 155 + 1 + i - 138 = 18 + i by omega]
      show some (q3 + 1 + i) = some (if  (18 + i)  = 0 then h0 else if  (18 + i)  = 1 then q1 else if  (18 + i)  < 9 then q1 + 1 + ( (18 + i)  - 2) else if  (18 + i)  = 9 then q2 else if  (18 + i)  < 17 then q2 + 1 + ( (18 + i)  - 10) else if  (18 + i)  = 17 then q3 else q3 + 1 + ( (18 + i)  - 18))
      rw [if_neg (by omega), if_neg (by omega), if_neg (by omega), if_neg (by omega), if_neg (by omega), if_neg (by omega)]
      congr 1; omega
    · exact ⟨_, rfl, kn_ag_e rfl⟩
    · exact ⟨_, rfl, kn_ag_e rfl⟩
    · exact ⟨_, rfl, kn_ag_e rfl⟩
    · exact ⟨_, rfl, kn_ag_e rfl⟩
    · exact ⟨_, rfl, kn_ag_e rfl⟩
    · exact ⟨_, rfl, kn_ag_e rfl⟩
    · exact ⟨_, rfl, kn_ag_e rfl⟩
    ) hP hD
  refine W.widen (k := 24) (n := 168) (Nat.le_of_ble_eq_true rfl) (Nat.le_of_ble_eq_true rfl) ?_
  exact W.vret hx hb hr (fun t ht hW => ⟨⟨_, rfl, rfl, by rw [ht]; exact hC.1, hC.2⟩, hS.F ht⟩) hS.2.2 dX7_init_40
