/-! CONSTRUCTORS of Image, Reader, MarchFolk, MarchFolkModel, printed by wip/gen/gencons.py. -/
theorem kn_in {i : Int32} {n : Nat} (h : ¬ (i < 0 ∨ n ≤ i.toNatClampNeg)) : vp_in i n := h
theorem kn_row0 {a b : Nat} (h1 : a ≠ 1) (h2 : a ≠ 215) (h3 : a ≠ 216) (k1 : b ≠ 1) (k2 : b ≠ 215) (k3 : b ≠ 216) : kn_s0.1 a = kn_s0.1 b := (kn_s0_z h1 h2 h3).trans (kn_s0_z k1 k2 k3).symm
theorem kn_fin {A : Nat → Prop} {W : va_W} {L : List Nat} {n : Nat} {cell : (Nat → Nat) → Nat → va_E} {Q : Nat → Nat} (hD : va_D A W) (eL : W.map Prod.fst = L.map Q) (hp : L.Perm (List.range n)) : va_D A (kn_blk n cell Q) := by
  have hN := kn_D_n hD
  rw [eL] at hN
  exact kn_n_D (kn_perm hp hN.1) (fun i hi => hN.2 _ (List.mem_map.mpr ⟨i, hp.mem_iff.mpr (List.mem_range.mpr hi), rfl⟩))
theorem kn_ag_i {c : ClassId} {n : Nat} {f g : Nat → Int32} (h : ∀ j, j < n → f j = g j) : kn_ag (.inl (c, n, .inl f)) (.inl (c, n, .inl g)) := fun D cl a H k => by
  have k : H[a]? = some (vp_cell c (n, .inl f)) := k
  show H[a]? = some (vp_cell c (n, .inl g))
  rw [k, vp_cell_i, vp_cell_i]
  unfold arrV
  congr 2
  congr 1
  funext j
  show Value.int (f j.val) = Value.int (g j.val)
  rw [h j.val j.isLt]
section KNQ
variable {p : Program} {l : Launch} {e : Env} {R : Room} {s : State} {m : MethodId} {args : Array Value} {below : List Frame} {meth : Method} {c : Code} {H : Heap} {locs : List Loc} {cells slots : Nat} {Q : State → Prop}
variable {cc : ByteArray} {pc : Nat} {ls : Array Slot} {rest : List Value} {D : va_G} {cl : List vw_C} {tys : List (ClassId × FieldType)} {A : Nat → Prop} {ws : va_W} {H0 : Heap}
theorem kn_newq (hexec : p.tables.exec = Jvm.exec) (hb : c.code = cc) {own C : String} {index : Nat} (hown : s.vm.findClass own = some m.cls) (hclink : (Cond.classLink own index C).before args s = true) (hover : va_AO C s) (hK : va_K D cl tys s) (k : Nat) {c9 : ClassId} (ht : tys[k]? = some (c9, .object C)) (hP : va_P D cl ws H) (hD : va_D A ws) (hS : va_S A H0 H locs) (hA : ∀ q, H0.size ≤ q → A q)
    {n : Int32} {N' : Nat} (hn : ¬ n < 0) (hN : n.toNatClampNeg = N') (hbytes : N' * 4 ≤ 536870912) (hcells : cells + 1 ≤ R.cells) (hslots : slots + N' ≤ R.slots) (hdg : decode cc pc = .ok (.anewarray index, 3))
    (kk : ∀ (q : Nat) (H1 : Heap), va_P D cl (ws ++ [(q, .inl (c9, N', .inr (.inr (.inr (.inr (fun _ => none))))))]) H1 → va_D A (ws ++ [(q, .inl (c9, N', .inr (.inr (.inr (.inr (fun _ => none))))))]) → va_S A H0 H1 locs → W p l e R s m args below meth c H1 locs (cells + 1) (slots + N') Q (F0 m (pc + 3) ls (.ref q :: rest))) : W p l e R s m args below meth c H locs cells slots Q (F0 m pc ls (.int n :: rest)) := by
  refine va_newq hexec hb hown hclink hover hK hP hD hS hA hn hN hbytes hcells hslots hdg (fun q cA H1 hK1 hP1 hD1 hS1 => ?_)
  obtain ⟨_, _, -, -, -, e1⟩ := (hK1.2 tys.length (cA, .object C) (by rw [List.getElem?_append_right (Nat.le_refl _), Nat.sub_self]; rfl)).2
  obtain ⟨_, _, -, -, -, e2⟩ := (hK.2 k _ ht).2
  have ec : cA = c9 := Option.some.inj (e1.symm.trans e2)
  subst ec
  exact kk q H1 hP1 hD1 hS1
end KNQ
theorem dX2_init_0 : decode cX2_init 0 = .ok (.aload_n 0, 1) := by decide +kernel
theorem dX2_init_1 : decode cX2_init 1 = .ok (.invokespecial 1, 3) := by decide +kernel
theorem dX2_init_4 : decode cX2_init 4 = .ok (.aload_n 0, 1) := by decide +kernel
theorem dX2_init_5 : decode cX2_init 5 = .ok (.new 7, 3) := by decide +kernel
theorem dX2_init_8 : decode cX2_init 8 = .ok (.dup, 1) := by decide +kernel
theorem dX2_init_9 : decode cX2_init 9 = .ok (.invokespecial 9, 3) := by decide +kernel
theorem dX2_init_12 : decode cX2_init 12 = .ok (.putfield 10, 3) := by decide +kernel
theorem dX2_init_15 : decode cX2_init 15 = .ok (.aload_n 0, 1) := by decide +kernel
theorem dX2_init_16 : decode cX2_init 16 = .ok (.new 16, 3) := by decide +kernel
theorem dX2_init_19 : decode cX2_init 19 = .ok (.dup, 1) := by decide +kernel
theorem dX2_init_20 : decode cX2_init 20 = .ok (.invokespecial 18, 3) := by decide +kernel
theorem dX2_init_23 : decode cX2_init 23 = .ok (.putfield 19, 3) := by decide +kernel
theorem dX2_init_26 : decode cX2_init 26 = .ok (.return_, 1) := by decide +kernel
theorem kw_422 : Cond.methodLink RX2 1 objectInit ∈ am_T := am_has_in (p := 422) (by decide +kernel)
theorem kw_423 : Cond.classLink RX2 7 (am_nm 3) ∈ am_T := am_has_in (p := 423) (by decide +kernel)
theorem kw_184 : Cond.instantiable (am_nm 3) (am_nf 3) ∈ am_T := am_has_in (p := 184) (by decide +kernel)
theorem kw_131 : Cond.initialized (am_nm 3) ∈ am_T := am_has_in (p := 131) (by decide +kernel)
set_option maxRecDepth 100000 in
theorem kw_187 : Cond.code yX3_init cX3_init 1 none ∈ am_T := List.mem_filter.mpr ⟨List.mem_of_getElem? (i := 187) rfl, rfl⟩
theorem kw_186 : Cond.instanceMethod yX3_init ∈ am_T := am_has_in (p := 186) (by decide +kernel)
theorem kw_428 : Cond.fieldLink RX2 10 "MarchFolk$Image" "plan" "LMarchFolk$Plan;" ∈ am_T := am_has_in (p := 428) (by decide +kernel)
theorem kw_425 : Cond.classLink RX2 16 (am_nm 0) ∈ am_T := am_has_in (p := 425) (by decide +kernel)
theorem kw_250 : Cond.instantiable (am_nm 0) (am_nf 0) ∈ am_T := am_has_in (p := 250) (by decide +kernel)
theorem kw_132 : Cond.initialized (am_nm 0) ∈ am_T := am_has_in (p := 132) (by decide +kernel)
set_option maxRecDepth 100000 in
theorem kw_253 : Cond.code yX0_init cX0_init 1 none ∈ am_T := List.mem_filter.mpr ⟨List.mem_of_getElem? (i := 253) rfl, rfl⟩
theorem kw_252 : Cond.instanceMethod yX0_init ∈ am_T := am_has_in (p := 252) (by decide +kernel)
theorem kw_430 : Cond.fieldLink RX2 19 "MarchFolk$Image" "acts" "LMarchFolk$Acts;" ∈ am_T := am_has_in (p := 430) (by decide +kernel)
set_option maxHeartbeats 40000000 in
set_option maxRecDepth 100000 in
theorem kc_X2 (l : Launch) (D : va_G) (cy : Nat → ClassId) : kn_Con l D cy yX2_init cX2_init 1 2 [.int 0, .null, .null] [] 2 25 189 26 (kn_cell cy 51) := by
  intro h0 sz
  refine Met.ofW (cc := cX2_init) (maxL := 1) (ret := none) (by decide) rfl ?_
  intro p e s m args below meth c s₁ B hml hv
  obtain ⟨rfl, hsz, hP, hD0, hE⟩ := hv
  have hx := B.exec
  have hb := B.bytes
  have hr := B.returns
  have hts0 := atoms_spec (ws := kn_ws yX2_init cX2_init 1) B.pre
  have hts : ∀ w ∈ am_T, w.before _ s = true := fun w hw => hts0 w (List.mem_cons_of_mem _ hw)
  have hown : s.vm.findClass RX2 = some m.cls := findClass_of_methodNamed B.named
  have hlocks := B.notSynchronized
  have hin : meth.name = "<init>" := (name_of_methodNamed B.named B.method).1
  subst hsz
  have hD := hD0.self (sz := s.heap.size)
  generalize hAe : va_A [(h0, .inr (2, [.int 0, .null, .null]))] s.heap.size = A at hD ⊢
  have hA : ∀ q : Nat, s.heap.size ≤ q → A q := fun q h => by rw [← hAe]; exact Or.inr h
  have hS : va_S A s.heap s.heap [] := va_S.rf
  have hK := hE.1
  have F : kn_F p c cX2_init 1 s m _ RX2 D cy := ⟨hx, hb, hml, hts, hown, hE⟩
  have hl := lv_entry ([.ref h0]) (n := 1) (Nat.le_of_ble_eq_true rfl)
  rw [lg_entry_eq]
  generalize (lg_sl ([.ref h0]) ++ List.replicate (1 - (lg_sl ([.ref h0])).length) Slot.unset).toArray = ls at hl ⊢
  have hl : lv_has ls 1 [(0, .ref h0)] := hl
  refine lv_aload_n hx hb dX2_init_0 rfl (lv_at hl 0 rfl) ?_
  refine W.objInit hx hb hown (hts _ kw_422) (hts _ kw_153) (hts _ kw_154) rfl (by rw [hml]; exact hl.1) rfl dX2_init_1 (Nat.le_of_ble_eq_true rfl) (Nat.le_of_ble_eq_true rfl) ?_
  refine W.eq (g2 := F0 m 4 ls []) rfl ?_
  have hP : va_P D am_cls ([(h0, .inr (2, [.int 0, .null, .null]))] ++ ([] : va_W)) s.heap := hP
  refine lv_aload_n hx hb dX2_init_4 rfl (lv_at hl 0 rfl) ?_
  refine kn_newN (y := yX3_init) (b := cX3_init) (nl := 1) (ci := 3) (ix := 7) (jx := 9) (d := 1) (mc := 21) (ms := 94) (n := 22) (fs := [.int 0, .int 0, .int 0, .int 0, .int 0, .int 0, .int 0, .null, .null, .null]) (cell := kn_cell cy 3) F (by decide) kw_423 kw_184 kw_131 (fun j hj => by have hj : j < 10 := hj; rcases (by omega : j = 0 ∨ j = 1 ∨ j = 2 ∨ j = 3 ∨ j = 4 ∨ j = 5 ∨ j = 6 ∨ j = 7 ∨ j = 8 ∨ j = 9) with rfl | rfl | rfl | rfl | rfl | rfl | rfl | rfl | rfl | rfl <;> rfl) rfl rfl (by decide +kernel) kw_187 kw_186 (List.mem_of_getElem? (i := 7) rfl) (kc_X3 l D cy) hP hD hS hA ⟨Nat.le_of_ble_eq_true rfl, Nat.le_of_ble_eq_true rfl⟩ (Nat.le_of_ble_eq_true rfl) (Nat.le_of_ble_eq_true rfl) (Nat.le_of_ble_eq_true rfl) hl.1 dX2_init_5 dX2_init_8 dX2_init_9 (fun f1 H locs hP hD hS => ?_)
  have hP : va_P D am_cls ([(h0, .inr (2, [.int 0, .null, .null]))] ++ (([] : va_W) ++ kn_blk 22 (kn_cell cy 3) f1)) H := hP
  have hD : va_D A ([(h0, .inr (2, [.int 0, .null, .null]))] ++ (([] : va_W) ++ kn_blk 22 (kn_cell cy 3) f1)) := hD
  generalize hB1 : (([] : va_W) ++ kn_blk 22 (kn_cell cy 3) f1) = B1 at hP hD
  refine va_putF (D := D) (ci := 2) (v := .ref (f1 0)) (ty := .object "MarchFolk$Plan") (C := RX2) (T := TX2) (N := 3) hx hb hts (am_ws_T (ci := 2) (by omega)) tyX2 tyX2_ok nmX2 hown hK hP hD hS 0 rfl rfl 1 (by decide) (hts _ kw_428) (fun _ h9 => h9) rfl hin rfl (by decide +kernel) rfl rfl (Nat.le_of_ble_eq_true rfl) dX2_init_12 (fun H locs hP hD hS => ?_)
  have hP : va_P D am_cls ([(h0, .inr (2, [.int 0, .ref (f1 0), .null]))] ++ B1) H := hP
  have hD : va_D A ([(h0, .inr (2, [.int 0, .ref (f1 0), .null]))] ++ B1) := hD
  refine lv_aload_n hx hb dX2_init_15 rfl (lv_at hl 0 rfl) ?_
  refine kn_newN (y := yX0_init) (b := cX0_init) (nl := 1) (ci := 0) (ix := 16) (jx := 18) (d := 1) (mc := 2) (ms := 80) (n := 3) (fs := [.int 0, .int 0, .int 0, .null, .null]) (cell := kn_cell cy 47) F (by decide) kw_425 kw_250 kw_132 (fun j hj => by have hj : j < 5 := hj; rcases (by omega : j = 0 ∨ j = 1 ∨ j = 2 ∨ j = 3 ∨ j = 4) with rfl | rfl | rfl | rfl | rfl <;> rfl) rfl rfl (by decide +kernel) kw_253 kw_252 (List.mem_of_getElem? (i := 8) rfl) (kc_X0 l D cy) hP hD hS hA ⟨Nat.le_of_ble_eq_true rfl, Nat.le_of_ble_eq_true rfl⟩ (Nat.le_of_ble_eq_true rfl) (Nat.le_of_ble_eq_true rfl) (Nat.le_of_ble_eq_true rfl) hl.1 dX2_init_16 dX2_init_19 dX2_init_20 (fun f2 H locs hP hD hS => ?_)
  have hP : va_P D am_cls ([(h0, .inr (2, [.int 0, .ref (f1 0), .null]))] ++ (B1 ++ kn_blk 3 (kn_cell cy 47) f2)) H := hP
  have hD : va_D A ([(h0, .inr (2, [.int 0, .ref (f1 0), .null]))] ++ (B1 ++ kn_blk 3 (kn_cell cy 47) f2)) := hD
  generalize hB2 : (B1 ++ kn_blk 3 (kn_cell cy 47) f2) = B2 at hP hD
  refine va_putF (D := D) (ci := 2) (v := .ref (f2 0)) (ty := .object "MarchFolk$Acts") (C := RX2) (T := TX2) (N := 3) hx hb hts (am_ws_T (ci := 2) (by omega)) tyX2 tyX2_ok nmX2 hown hK hP hD hS 0 rfl rfl 2 (by decide) (hts _ kw_430) (fun _ h9 => h9) rfl hin rfl (by decide +kernel) rfl rfl (Nat.le_of_ble_eq_true rfl) dX2_init_23 (fun H locs hP hD hS => ?_)
  have hP : va_P D am_cls ([(h0, .inr (2, [.int 0, .ref (f1 0), .ref (f2 0)]))] ++ B2) H := hP
  have hD : va_D A ([(h0, .inr (2, [.int 0, .ref (f1 0), .ref (f2 0)]))] ++ B2) := hD
  subst hB1
  subst hB2
  obtain ⟨R0, hPz⟩ := kn_P_app hP
  obtain ⟨hPz, R2⟩ := kn_P_app hPz
  obtain ⟨hPz, R1⟩ := kn_P_app hPz
  obtain ⟨Q, hQ⟩ : ∃ Q : Nat → Nat, Q = fun j => if j < 1 then (fun _ => h0) (j - 0) else if j < 23 then f1 (j - 1) else f2 (j - 23) := ⟨_, rfl⟩
  have gg0 : ∀ j, j < 1 → Q (0 + j) = (fun _ => h0) j := fun j hj => by
    rw [hQ]
    show (if  (0 + j)  < 1 then (fun _ => h0) ( (0 + j)  - 0) else if  (0 + j)  < 23 then f1 ( (0 + j)  - 1) else f2 ( (0 + j)  - 23)) = _
    rw [if_pos (by omega)]
    try rw [show 0 + j - 0 = j by omega]
  have gg1 : ∀ j, j < 22 → Q (1 + j) = f1 j := fun j hj => by
    rw [hQ]
    show (if  (1 + j)  < 1 then (fun _ => h0) ( (1 + j)  - 0) else if  (1 + j)  < 23 then f1 ( (1 + j)  - 1) else f2 ( (1 + j)  - 23)) = _
    rw [if_neg (by omega), if_pos (by omega)]
    try rw [show 1 + j - 1 = j by omega]
  have gg23 : ∀ j, j < 3 → Q (23 + j) = f2 j := fun j hj => by
    rw [hQ]
    show (if  (23 + j)  < 1 then (fun _ => h0) ( (23 + j)  - 0) else if  (23 + j)  < 23 then f1 ( (23 + j)  - 1) else f2 ( (23 + j)  - 23)) = _
    rw [if_neg (by omega), if_neg (by omega)]
    try rw [show 23 + j - 23 = j by omega]
  have g0 : Q 0 = h0 := gg0 0 (by omega)
  have hPf : va_P D am_cls (kn_blk 26 (kn_cell cy 51) Q) H := fun k x hk => by
    obtain ⟨hk1, rfl⟩ := kn_blk_get hk
    show va_at D am_cls (Q k, am_cell cy (fun i => Q (i - 51)) kn_s0 (51 + k)) H
    by_cases c0 : k < 1
    · obtain rfl : k = 0 := by omega
      have h9 := R0 0 _ rfl
      rw [g0]
      refine kn_ag_e ?_ _ _ _ _ h9
      rw [show f1 0 = Q 1 from (gg1 0 (by omega)).symm, show f2 0 = Q 23 from (gg23 0 (by omega)).symm]
      rfl
    · by_cases c1 : k < 23
      · obtain ⟨j, rfl⟩ : ∃ j, k = 1 + j := ⟨k - 1, by omega⟩
        have h9 := kn_shP (o := 52) (ad := fun i => Q (i - 51)) R1 (by decide +kernel) (fun i hi => by show Q (52 + i - 51) = _; rw [show 52 + i - 51 = 1 + i by omega]; exact gg1 i hi) (fun i hi => kn_row0 (by omega) (by omega) (by omega) (by omega) (by omega) (by omega)) (show j < 22 by omega)
        rw [show 52 + j = 51 + (1 + j) by omega] at h9
        have h9 : va_at D am_cls (Q (51 + (1 + j) - 51), am_cell cy (fun i => Q (i - 51)) kn_s0 (51 + (1 + j))) H := h9
        rw [show 51 + (1 + j) - 51 = 1 + j by omega] at h9
        exact h9
      · obtain ⟨j, rfl⟩ : ∃ j, k = 23 + j := ⟨k - 23, by omega⟩
        have h9 := kn_shP (o := 74) (ad := fun i => Q (i - 51)) R2 (by decide +kernel) (fun i hi => by show Q (74 + i - 51) = _; rw [show 74 + i - 51 = 23 + i by omega]; exact gg23 i hi) (fun i hi => kn_row0 (by omega) (by omega) (by omega) (by omega) (by omega) (by omega)) (show j < 3 by omega)
        rw [show 74 + j = 51 + (23 + j) by omega] at h9
        have h9 : va_at D am_cls (Q (51 + (23 + j) - 51), am_cell cy (fun i => Q (i - 51)) kn_s0 (51 + (23 + j))) H := h9
        rw [show 51 + (23 + j) - 51 = 23 + j by omega] at h9
        exact h9
  have hDf : va_D A (kn_blk 26 (kn_cell cy 51) Q) := kn_fin (L := ([0] ++ ((([] : List Nat) ++ (List.range 22).map (fun j => 1 + j)) ++ (List.range 3).map (fun j => 23 + j)))) hD (by
    simp only [List.map_append, kn_blk_fst]
    rw [← kn_seg gg1]
    rw [← kn_seg gg23]
    simp only [List.map_cons, List.map_nil, show Q 0 = h0 from gg0 0 (by omega)]
    ) (by decide +kernel)
  refine W.widen (k := 25) (n := 189) (Nat.le_of_ble_eq_true rfl) (Nat.le_of_ble_eq_true rfl) ?_
  exact W.vret hx hb hr (fun t ht hW => ⟨⟨Q, rfl, g0, by rw [ht]; exact hPf, hDf⟩, hS.F ht⟩) hS.2.2 dX2_init_26
theorem dX4_init_0 : decode cX4_init 0 = .ok (.aload_n 0, 1) := by decide +kernel
theorem dX4_init_1 : decode cX4_init 1 = .ok (.invokespecial 3, 3) := by decide +kernel
theorem dX4_init_4 : decode cX4_init 4 = .ok (.aload_n 0, 1) := by decide +kernel
theorem dX4_init_5 : decode cX4_init 5 = .ok (.iconst (-1), 1) := by decide +kernel
theorem dX4_init_6 : decode cX4_init 6 = .ok (.putfield 9, 3) := by decide +kernel
theorem dX4_init_9 : decode cX4_init 9 = .ok (.aload_n 0, 1) := by decide +kernel
theorem dX4_init_10 : decode cX4_init 10 = .ok (.aload_n 1, 1) := by decide +kernel
theorem dX4_init_11 : decode cX4_init 11 = .ok (.putfield 15, 3) := by decide +kernel
theorem dX4_init_14 : decode cX4_init 14 = .ok (.return_, 1) := by decide +kernel
theorem kw_160 : Cond.methodLink RX4 3 objectInit ∈ am_T := am_has_in (p := 160) (by decide +kernel)
theorem kw_163 : Cond.fieldLink RX4 9 "MarchFolk$Reader" "place" "I" ∈ am_T := am_has_in (p := 163) (by decide +kernel)
theorem kw_165 : Cond.fieldLink RX4 15 "MarchFolk$Reader" "text" "[B" ∈ am_T := am_has_in (p := 165) (by decide +kernel)
set_option maxHeartbeats 40000000 in
set_option maxRecDepth 100000 in
theorem kc_X4 (l : Launch) (D : va_G) (cy : Nat → ClassId) (qT : Nat) : kn_Con l D cy yX4_init cX4_init 2 4 [.int 0, .int 0, .null, .int 0, .int 0, .int 0] [.ref qT] 1 0 0 1 (fun _ _ => .inr (4, [.int 0, .int (-1), .ref qT, .int 0, .int 0, .int 0])) := by
  intro h0 sz
  refine Met.ofW (cc := cX4_init) (maxL := 2) (ret := none) (by decide) rfl ?_
  intro p e s m args below meth c s₁ B hml hv
  obtain ⟨rfl, hsz, hP, hD0, hE⟩ := hv
  have hx := B.exec
  have hb := B.bytes
  have hr := B.returns
  have hts0 := atoms_spec (ws := kn_ws yX4_init cX4_init 2) B.pre
  have hts : ∀ w ∈ am_T, w.before _ s = true := fun w hw => hts0 w (List.mem_cons_of_mem _ hw)
  have hown : s.vm.findClass RX4 = some m.cls := findClass_of_methodNamed B.named
  have hlocks := B.notSynchronized
  have hin : meth.name = "<init>" := (name_of_methodNamed B.named B.method).1
  subst hsz
  have hD := hD0.self (sz := s.heap.size)
  generalize hAe : va_A [(h0, .inr (4, [.int 0, .int 0, .null, .int 0, .int 0, .int 0]))] s.heap.size = A at hD ⊢
  have hA : ∀ q : Nat, s.heap.size ≤ q → A q := fun q h => by rw [← hAe]; exact Or.inr h
  have hS : va_S A s.heap s.heap [] := va_S.rf
  have hK := hE.1
  have F : kn_F p c cX4_init 2 s m _ RX4 D cy := ⟨hx, hb, hml, hts, hown, hE⟩
  have hl := lv_entry ([.ref h0, .ref qT]) (n := 2) (Nat.le_of_ble_eq_true rfl)
  rw [lg_entry_eq]
  generalize (lg_sl ([.ref h0, .ref qT]) ++ List.replicate (2 - (lg_sl ([.ref h0, .ref qT])).length) Slot.unset).toArray = ls at hl ⊢
  have hl : lv_has ls 2 [(0, .ref h0), (1, .ref qT)] := hl
  refine lv_aload_n hx hb dX4_init_0 rfl (lv_at hl 0 rfl) ?_
  refine W.objInit hx hb hown (hts _ kw_160) (hts _ kw_153) (hts _ kw_154) rfl (by rw [hml]; exact hl.1) rfl dX4_init_1 (Nat.le_of_ble_eq_true rfl) (Nat.le_of_ble_eq_true rfl) ?_
  refine W.eq (g2 := F0 m 4 ls []) rfl ?_
  have hP : va_P D am_cls ([(h0, .inr (4, [.int 0, .int 0, .null, .int 0, .int 0, .int 0]))]) s.heap := hP
  refine lv_aload_n hx hb dX4_init_4 rfl (lv_at hl 0 rfl) ?_
  refine lv_iconst (v := (-1)) hx hb dX4_init_5 (by decide) ?_
  refine va_put (D := D) (ci := 4) (v := .int (-1)) (ty := .int) (C := RX4) (T := TX4) (N := 6) hx hb hts (am_ws_T (ci := 4) (by omega)) tyX4 tyX4_ok nmX4 hown hK hP hD hS 0 rfl rfl 1 (by decide) (hts _ kw_163) (fun _ h9 => h9) rfl (by decide +kernel) rfl rfl (Nat.le_of_ble_eq_true rfl) dX4_init_6 (fun H locs hP hD hS => ?_)
  have hP : va_P D am_cls ([(h0, .inr (4, [.int 0, .int (-1), .null, .int 0, .int 0, .int 0]))]) H := hP
  have hD : va_D A ([(h0, .inr (4, [.int 0, .int (-1), .null, .int 0, .int 0, .int 0]))]) := hD
  refine lv_aload_n hx hb dX4_init_9 rfl (lv_at hl 0 rfl) ?_
  refine lv_aload_n hx hb dX4_init_10 rfl (lv_at hl 1 rfl) ?_
  refine va_putF (D := D) (ci := 4) (v := .ref qT) (ty := .array .byte) (C := RX4) (T := TX4) (N := 6) hx hb hts (am_ws_T (ci := 4) (by omega)) tyX4 tyX4_ok nmX4 hown hK hP hD hS 0 rfl rfl 2 (by decide) (hts _ kw_165) (fun _ h9 => h9) rfl hin rfl (by decide +kernel) rfl rfl (Nat.le_of_ble_eq_true rfl) dX4_init_11 (fun H locs hP hD hS => ?_)
  have hP : va_P D am_cls ([(h0, .inr (4, [.int 0, .int (-1), .ref qT, .int 0, .int 0, .int 0]))]) H := hP
  have hD : va_D A ([(h0, .inr (4, [.int 0, .int (-1), .ref qT, .int 0, .int 0, .int 0]))]) := hD
  have hC := kn_conv (n := 1) (cell := (fun _ _ => .inr (4, [.int 0, .int (-1), .ref qT, .int 0, .int 0, .int 0]))) (q := fun _ => h0) (fun j hj => by
    obtain rfl : j = 0 := by omega
    exact ⟨_, rfl, kn_ag_e rfl⟩) hP hD
  refine W.widen (k := 0) (n := 0) (Nat.le_of_ble_eq_true rfl) (Nat.le_of_ble_eq_true rfl) ?_
  exact W.vret hx hb hr (fun t ht hW => ⟨⟨_, rfl, rfl, by rw [ht]; exact hC.1, hC.2⟩, hS.F ht⟩) hS.2.2 dX4_init_14
