/-! THE LAW FROM ITS ENTRY: the two objects, then the loop. -/
theorem dL_0 : decode code 0 = .ok (.new 7, 3) := by decide +kernel
theorem dL_3 : decode code (0 + 3) = .ok (.dup, 1) := by decide +kernel
theorem dL_4 : decode code (0 + 3 + 1) = .ok (.invokespecial 9, 3) := by decide +kernel
theorem dL_7 : decode code 7 = .ok (.astore_n 1, 1) := by decide +kernel
theorem dL_8 : decode code 8 = .ok (.new 10, 3) := by decide +kernel
theorem dL_11 : decode code (8 + 3) = .ok (.dup, 1) := by decide +kernel
theorem dL_12 : decode code (8 + 3 + 1) = .ok (.invokespecial 12, 3) := by decide +kernel
theorem dL_15 : decode code 15 = .ok (.astore_n 2, 1) := by decide +kernel
theorem dL_16 : decode code 16 = .ok (.iconst 0, 1) := by decide +kernel
theorem dL_17 : decode code 17 = .ok (.istore_n 3, 1) := by decide +kernel
theorem kw_L147 : Cond.classLink R_law 7 (am_nm 8) ∈ am_T := am_has_in (p := 147) (by decide +kernel)
theorem kw_L148 : Cond.instantiable (am_nm 8) (am_nf 8) ∈ am_T := am_has_in (p := 148) (by decide +kernel)
theorem kw_L129 : Cond.initialized (am_nm 8) ∈ am_T := am_has_in (p := 129) (by decide +kernel)
theorem kw_L149 : Cond.methodLink R_law 9 yX8_init ∈ am_T := am_has_in (p := 149) (by decide +kernel)
theorem kw_L150 : Cond.instanceMethod yX8_init ∈ am_T := am_has_in (p := 150) (by decide +kernel)
theorem kw_L151 : Cond.code yX8_init cX8_init 2 none ∈ am_T := List.mem_filter.mpr ⟨List.mem_of_getElem? (i := 151) rfl, rfl⟩
theorem kw_L1289 : Cond.classLink R_law 10 (am_nm 9) ∈ am_T := am_has_in (p := 1289) (by decide +kernel)
theorem kw_L1290 : Cond.instantiable (am_nm 9) (am_nf 9) ∈ am_T := am_has_in (p := 1290) (by decide +kernel)
theorem kw_L138 : Cond.initialized (am_nm 9) ∈ am_T := am_has_in (p := 138) (by decide +kernel)
theorem kw_L1291 : Cond.methodLink R_law 12 yX9_init ∈ am_T := am_has_in (p := 1291) (by decide +kernel)
theorem kw_L1292 : Cond.instanceMethod yX9_init ∈ am_T := am_has_in (p := 1292) (by decide +kernel)
set_option maxRecDepth 100000 in
theorem kw_L1293 : Cond.code yX9_init cX9_init 2 none ∈ am_T := List.mem_filter.mpr ⟨List.mem_of_getElem? (i := 1293) rfl, rfl⟩
section KNS
variable {p : Program} {l : Launch} {e : Env} {R : Room} {s : State} {m : MethodId} {args : Array Value} {below : List Frame} {meth : Method} {c : Code} {H : Heap} {locs : List Loc} {cells slots : Nat} {Q : State → Prop}
variable {cc : ByteArray} {pc nL : Nat} {ls : Array Slot} {rest : List Value} {D : va_G} {cy : Nat → ClassId} {A : Nat → Prop} {ws : va_W} {own : String}
/-- new, dup, invokespecial of a constructor that anyone may call -/
theorem kn_newI (F : kn_F p c cc nL s m args own D cy) {y : MethodName} {b : ByteArray} {nl ci ix jx d mc ms n : Nat} {fs : List Value} {cell : (Nat → Nat) → Nat → va_E} (hci : ci < 10)
    (w1 : Cond.classLink own ix (am_nm ci) ∈ am_T) (w2 : Cond.instantiable (am_nm ci) (am_nf ci) ∈ am_T) (w3 : Cond.initialized (am_nm ci) ∈ am_T) (hfs : ∀ j, j < am_nf ci → defaultValue (am_ty ci j) = vp_V fs j) (hyc : y.cls = am_nm ci) (hyn : y.name = "<init>") (hyd : y.cls ≠ "java/lang/invoke/MethodHandle" ∧ y.cls ≠ "java/lang/invoke/VarHandle" ∧ (parseMethodDescriptor y.desc).map (fun d => d.parameters.length) = some 0)
    (wc : Cond.code y b nl none ∈ am_T) (wi : Cond.instanceMethod y ∈ am_T) (wl : Cond.methodLink own jx y ∈ am_T) (con : kn_Con l D cy y b nl ci fs [] d mc ms n cell)
    (hP : va_P D am_cls ws H) (hD : va_D A ws) (hS : va_S A s.heap H locs) (hA : ∀ q, s.heap.size ≤ q → A q) (hR : d + 1 ≤ R.frames ∧ 8 + (nl + 11) + 60 * d ≤ R.locals) (hcells : cells + 1 + mc ≤ R.cells) (hslots : slots + am_nf ci + ms ≤ R.slots) (hrest : (rest.map fun v => v.category).sum + 1 ≤ 8) (hlsz : ls.size = nL)
    (d1 : decode cc pc = .ok (.new ix, 3)) (d2 : decode cc (pc + 3) = .ok (.dup, 1)) (d3 : decode cc (pc + 3 + 1) = .ok (.invokespecial jx, 3))
    (kk : ∀ (q : Nat → Nat) (H1 : Heap) (locs1 : List Loc), va_P D am_cls (ws ++ kn_blk n cell q) H1 → va_D A (ws ++ kn_blk n cell q) → va_S A s.heap H1 locs1 → W p l e R s m args below meth c H1 locs1 (cells + 1 + mc) (slots + am_nf ci + ms) Q (F0 m (pc + 3 + 1 + 3) ls (.ref (q 0) :: rest))) : W p l e R s m args below meth c H locs cells slots Q (F0 m pc ls rest) := by
  obtain ⟨hx, hb, hml, hts, hown, hE⟩ := F
  refine va_new (ci := ci) (fs := fs) (C := am_nm ci) (T := am_TT ci) (N := am_nf ci) hx hb hts (am_ws_T hci) (am_ty ci) (am_ty_ok ci hci) hown (hts _ w1) (hts _ w2) (hts _ w3) hE.1 hP hD hS hA (am_cls_at ci hci) hfs (by omega) (by omega) d1 (fun a H1 hP1 hD1 hS1 => ?_)
  refine lv_dup hx hb d2 rfl ?_
  have hPc := kn_last hP1
  have hDc := kn_lastD hD1
  have hFc := kn_freeL hD1 hS1 hA
  refine va_callv (va_runI (As := []) (rest := .ref a :: rest) ⟨hx, hb, hml, hown, hts⟩ (con a H1.size) (cwI 0 hts (kn_good wc) rfl rfl rfl (by rw [hyc]; exact hts _ w3) (hts _ wl) (hts _ wi) hyn hyd ⟨hR.1, hR.2⟩) ⟨fun a U g mk q => by obtain ⟨q0, q1, qP, qD, qE⟩ := q; exact ⟨q0, q1, qP, qD, qE.blind⟩, fun U hU hW => ⟨rfl, by rw [hU], by rw [hU]; exact hPc, hDc.weaken (fun _ _ _ _ => trivial), hE.call hW⟩⟩ rfl rfl hlsz rfl (lv_room (by show 1 + (rest.map fun v => v.category).sum ≤ 8; omega)) d3 ⟨by omega, by omega⟩) hS1 (fun q _ h => hFc q h) hFc (fun q t H2 locs2 ht hvm hq hB hz1 hk1 hS2 => ?_)
  obtain ⟨hB1, hB2⟩ := hB
  rw [ht] at hB1
  obtain ⟨hP2, hD2⟩ := kn_join hP1 hD1 hk1 hFc hB1 hB2
  have := kk q H2 locs2 hP2 hD2 hS2
  rw [hq] at this
  exact this
end KNS
/-- both constructors' cells are the program's world -/
theorem kn_world {D : va_G} {cy : Nat → ClassId} {A : Nat → Prop} {f1 f2 : Nat → Nat} {H : Heap} {b : Nat} (hP : va_P D am_cls (([] ++ kn_blk 215 (kn_cell cy 0) f1) ++ kn_blk 22 (kn_cell cy 215) f2) H) (hD : va_D A (([] ++ kn_blk 215 (kn_cell cy 0) f1) ++ kn_blk 22 (kn_cell cy 215) f2)) : ∃ ad : Nat → Nat, ad 0 = f1 0 ∧ ad 215 = f2 0 ∧ ad am_n = b ∧ va_P D am_cls (am_w cy ad kn_s0) H ∧ va_D A (am_w cy ad kn_s0) := by
  obtain ⟨hP1, hP2⟩ := kn_P_app hP
  rw [List.nil_append] at hP1
  let ad : Nat → Nat := fun i => if i < 215 then f1 i else if i < 237 then f2 (i - 215) else b
  have g1 : ∀ j : Nat, j < 215 → ad (0 + j) = f1 j := fun j hj => by
    rw [Nat.zero_add]
    exact if_pos hj
  have g2 : ∀ j : Nat, j < 22 → ad (215 + j) = f2 j := fun j hj => by
    show (if 215 + j < 215 then _ else if 215 + j < 237 then f2 (215 + j - 215) else b) = _
    rw [if_neg (by omega), if_pos (by omega), show 215 + j - 215 = j by omega]
  refine ⟨ad, g1 0 (by omega), g2 0 (by omega), rfl, ?_, ?_⟩
  · intro k x hk
    have hk : (kn_blk 237 (fun q j => am_cell cy q kn_s0 j) ad)[k]? = some x := hk
    obtain ⟨h1, rfl⟩ := kn_blk_get hk
    show va_at D am_cls (ad k, am_cell cy ad kn_s0 k) H
    by_cases c : k < 215
    · have h9 := kn_shP (r := 0) (o := 0) (ad := ad) hP1 (by decide +kernel) g1 (fun _ _ => rfl) c
      rw [Nat.zero_add] at h9
      exact h9
    · obtain ⟨j, rfl⟩ : ∃ j, k = 215 + j := ⟨k - 215, by omega⟩
      exact kn_shP (r := 215) (o := 215) (ad := ad) hP2 (by decide +kernel) g2 (fun _ _ => rfl) (show j < 22 by omega)
  · refine kn_fin (n := 237) (cell := fun q j => am_cell cy q kn_s0 j) (Q := ad) (L := (List.range 215).map (fun j => 0 + j) ++ (List.range 22).map (fun j => 215 + j)) hD ?_ (by decide +kernel)
    rw [List.nil_append, List.map_append, List.map_append, kn_blk_fst, kn_blk_fst, kn_seg g1, kn_seg g2]
theorem kn_hts {args : Array Value} {s : State} (hts : ∀ w ∈ lw_tbl, w.before args s = true) : ∀ w ∈ am_T, w.before args s = true := fun w hw => hts w (List.mem_filter.mp hw).1
theorem kn_fs8 : ∀ j, j < am_nf 8 → defaultValue (am_ty 8 j) = vp_V [.null, .int 0, .null, .null, .null, .null, .null, .null, .int 0, .null, .null, .null, .null, .null, .null] j := by decide +kernel
theorem kn_fs9 : ∀ j, j < am_nf 9 → defaultValue (am_ty 9 j) = vp_V [.int 0, .null, .null, .null, .null, .null, .int 0, .int 0, .int 0, .int 0, .int 0, .long 0, .int 0, .int 0, .int 0, .int 0, .null, .null, .null, .null, .null, .null, .null, .int 0, .int 0, .int 0, .int 0, .int 0, .int 0, .int 0, .int 0, .int 0, .int 0, .long 0, .null, .null, .null, .null, .null, .null, .null, .null, .int 0, .int 0, .int 0, .int 0, .int 0, .int 0, .null] j := by decide +kernel
set_option maxHeartbeats 4000000 in
set_option maxRecDepth 100000 in
/-- YOUR PART: from the entry, for every script of at most 3072 ints, the law comes to its end with true ('hflags': the launch's flags, for a law that throws: no stack traces) -/
theorem whole_start {p : Program} {e : Env} {s : State} {m : MethodId} {below : List Frame} {meth : Method} {c : Code} (l : Launch) (hflags : l.flags = flags0) {b L : Nat} {xs : Nat → Int32} (hL : L ≤ 3072) (C0 : lw_At p s m meth c b L xs) : W p l e room_1 s m #[Value.ref b] below meth c s.heap [] 0 0 (lw_Z below #[Value.ref b] s) (entryFrame m ([Value.ref b] : List Value).toArray 4) := by
  obtain ⟨D, cy, sd, sv, hE, hKE⟩ := kn_known C0
  obtain ⟨n, σE, hf⟩ := kn_law (xs := xs) hL
  obtain ⟨hx, hb, hr, hml, hown, hts, hX, hbl, hlocks, hgv⟩ := id C0
  have hA : ∀ q : Nat, s.heap.size ≤ q → (fun q : Nat => s.heap.size ≤ q) q := fun _ h => h
  have F : kn_F p c code 4 s m #[Value.ref b] R_law D cy := ⟨hx, hb, hml, kn_hts hts, hown, hKE⟩
  have hS : va_S (fun q : Nat => s.heap.size ≤ q) s.heap s.heap [] := va_S.rf
  have hP : va_P D am_cls [] s.heap := fun k q h => by simp at h
  have hD : va_D (fun q : Nat => s.heap.size ≤ q) [] := ⟨fun i j p q h => by simp at h, fun k q h => by simp at h⟩
  have hl := lv_entry ([.ref b]) (n := 4) (Nat.le_of_ble_eq_true rfl)
  rw [lg_entry_eq]
  generalize (lg_sl ([.ref b]) ++ List.replicate (4 - (lg_sl ([.ref b])).length) Slot.unset).toArray = ls at hl ⊢
  have hl : lv_has ls 4 [(0, .ref b)] := hl
  refine kn_newI F (ci := 8) (rest := []) (by decide) kw_L147 kw_L148 kw_L129 kn_fs8 rfl rfl (by decide +kernel) kw_L151 kw_L150 kw_L149 (kc_X8 l D cy) hP hD hS hA ⟨Nat.le_of_ble_eq_true rfl, Nat.le_of_ble_eq_true rfl⟩ (Nat.le_of_ble_eq_true rfl) (Nat.le_of_ble_eq_true rfl) (Nat.le_of_ble_eq_true rfl) hl.1 dL_0 dL_3 dL_4 (fun f1 H1 locs1 hP hD hS => ?_)
  refine lv_astore_n (lv' := [(1, .ref (f1 0)), (0, .ref b)]) hx hb dL_7 rfl hl (by decide) rfl (fun ls hl => ?_)
  refine kn_newI F (ci := 9) (rest := []) (by decide) kw_L1289 kw_L1290 kw_L138 kn_fs9 rfl rfl (by decide +kernel) kw_L1293 kw_L1292 kw_L1291 (kc_X9 l D cy) hP hD hS hA ⟨Nat.le_of_ble_eq_true rfl, Nat.le_of_ble_eq_true rfl⟩ (Nat.le_of_ble_eq_true rfl) (Nat.le_of_ble_eq_true rfl) (Nat.le_of_ble_eq_true rfl) hl.1 dL_8 dL_11 dL_12 (fun f2 H2 locs2 hP hD hS => ?_)
  refine lv_astore_n (lv' := [(2, .ref (f2 0)), (1, .ref (f1 0)), (0, .ref b)]) hx hb dL_15 rfl hl (by decide) rfl (fun ls hl => ?_)
  refine lv_iconst (v := 0) hx hb dL_16 (by decide) ?_
  refine lv_istore_n (lv' := [(3, .int 0), (2, .ref (f2 0)), (1, .ref (f1 0)), (0, .ref b)]) hx hb dL_17 rfl hl (by decide) rfl (fun ls hl => ?_)
  refine W.widen (k := 600000) (n := 7302250) (Nat.le_of_ble_eq_true rfl) (Nat.le_of_ble_eq_true rfl) ?_
  obtain ⟨ad, a0, a1, a2, hP3, hD3⟩ := kn_world (b := b) hP hD
  rw [← a0, ← a1] at hl
  exact lw_loop C0 hE a2 hf (fun o f _ _ _ => .inl (kn_s0_c o f)) hP3 hD3 hS (lv_sub hl [3, 2, 1, 0] rfl)
