/-! CONSTRUCTORS: the words, the worlds, a call of one. -/
def kn_s0 : AS := (fun c k => if c = 1 then (if k = 1 then -1 else 0) else if c = 215 then (if k = 15 then -1 else 0) else if c = 216 then (if k < 4 then -1 else 0) else 0, fun _ _ => 0)
theorem kn_s0_z {c : Nat} (h1 : c ≠ 1) (h2 : c ≠ 215) (h3 : c ≠ 216) : kn_s0.1 c = fun _ => 0 := by
  funext k
  show (if c = 1 then _ else _) = _
  rw [if_neg h1, if_neg h2, if_neg h3]
theorem kn_s0_c (c k : Nat) : (kn_s0.1 c k).toNatClampNeg = 0 := by
  show (if c = 1 then (if k = 1 then (-1 : Int32) else 0) else if c = 215 then (if k = 15 then -1 else 0) else if c = 216 then (if k < 4 then -1 else 0) else 0).toNatClampNeg = 0
  split
  · split <;> decide
  · split
    · split <;> decide
    · split
      · split <;> decide
      · decide
def kn_nest : List (String × Nat × MethodName) := [(RX8, 24, yX3_init), (RX8, 34, yX0_init), (RX8, 53, yX7_init), (RX8, 60, yX6_init), (RX8, 67, yX1_init), (RX8, 83, yX2_init), (RX8, 84, yX5_init), (RX2, 9, yX3_init), (RX2, 18, yX0_init)]
theorem kn_AOA_moved {t : FieldType} {u U : State} (hvm : u.vm.Alike U.vm) (h : va_Nw (.arrayOver (.array t)) u) : va_Nw (.arrayOver (.array t)) U := by
  have key : ∃ comp c k, u.vm.findClass (FieldType.array t).toString = some comp ∧ (u.vm.classes.findIdx? fun (x : Class) => match x.kind with | .array component _ => component == comp | _ => false) = some c ∧ u.vm.classes[c]? = some k ∧ k.kind = .array comp (.array t) ∧ u.vm.findClass ("[" ++ (FieldType.array t).toString) = some c := by
    unfold va_Nw Cond.before at h
    simp only [Cond.holds, Cond.value, beq_iff_eq] at h
    cases hc : u.vm.findClass (FieldType.array t).toString with
    | none => simp [hc] at h
    | some comp =>
      simp only [hc, Option.bind_some, Option.bind_eq_some_iff, Option.map_eq_some_iff] at h
      obtain ⟨c, hi, k, hk, hb⟩ := h
      obtain ⟨hlt, hp, -⟩ := Array.findIdx?_eq_some_iff_getElem.mp hi
      have hkk : u.vm.classes[c] = k := (Array.getElem?_eq_some_iff.mp hk).2
      rw [hkk] at hp
      cases hkind : k.kind with
      | array component ty =>
        rw [hkind] at hb hp
        simp at hb hp
        exact ⟨comp, c, k, rfl, hi, hk, by rw [hkind, hp, hb.1], hb.2⟩
      | _ => rw [hkind] at hb; simp at hb
  obtain ⟨comp, c, k, h1, h2, h3, h4, h5⟩ := key
  obtain ⟨k', hk', he⟩ := hvm.2.2 _ _ h3
  have hi : (U.vm.classes.findIdx? fun (x : Class) => match x.kind with | .array component _ => component == comp | _ => false) = some c := by
    have hb : U.vm.bare = u.vm.bare := by first | exact hvm.bare_eq | exact hvm.bare_eq.symm
    refine (va_idx_bare U.vm comp).symm.trans ?_
    rw [hb]
    exact (va_idx_bare u.vm comp).trans h2
  have hkind : k'.kind = .array comp (.array t) := by rw [he]; exact h4
  have f1 : U.vm.findClass (FieldType.array t).toString = some comp := by rw [hvm.findClass]; exact h1
  have f2 : U.vm.findClass ("[" ++ (FieldType.array t).toString) = some c := by rw [hvm.findClass]; exact h5
  unfold va_Nw Cond.before Cond.holds
  simp only [Cond.value]
  rw [f1, Option.bind_some]
  refine (congrArg (fun o : Option Nat => (o.bind (fun c => (U.vm.classes[c]?).map fun (k : Class) => match k.kind with | .array _ ty => decide (ty = FieldType.array t) && decide (U.vm.findClass ("[" ++ (FieldType.array t).toString) = some c) | _ => false) == some true)) hi).trans ?_
  simp [hk', hkind, f2]
/-- what a constructor needs of the tables beside its words -/
def kn_E (D : va_G) (cy : Nat → ClassId) (U : State) : Prop := va_K D am_cls (am_tys cy) U ∧ (∀ q ∈ kn_nest, va_Nw (.methodLinkNest q.1 q.2.1 q.2.2 RX8) U) ∧ va_AO RX2 U ∧ va_AO RX5 U ∧ va_Nw (.arrayOver (.array .int)) U
theorem kn_E.call {D : va_G} {cy : Nat → ClassId} {s U : State} (h : kn_E D cy s) (hW : s.WarmedH U.vm) : kn_E D cy U := ⟨va_K.moved hW.alike h.1, fun q hq => va_Nw.warmM hW (h.2.1 q hq), va_AO.moved hW.alike h.2.2.1, va_AO.moved hW.alike h.2.2.2.1, kn_AOA_moved hW.alike h.2.2.2.2⟩
theorem kn_E.blind {D : va_G} {cy : Nat → ClassId} {U : State} {g : JFrame} {mk : MethodId} {a : Array Value} (h : kn_E D cy U) : kn_E D cy (U.calling g mk a) := by
  have hv : U.vm.Alike (U.calling g mk a).vm := Vm.Alike.refl U.vm
  exact ⟨va_K.moved hv h.1, fun q hq => va_Nw.same (u := U) rfl rfl (h.2.1 q hq), va_AO.moved hv h.2.2.1, va_AO.moved hv h.2.2.2.1, kn_AOA_moved hv h.2.2.2.2⟩
/-- cells in a row -/
def kn_blk (n : Nat) (cell : (Nat → Nat) → Nat → va_E) (q : Nat → Nat) : va_W := (List.range n).map fun j => (q j, cell q j)
def kn_rm (d mc ms : Nat) : Room := { frames := d, cells := mc, slots := ms, locals := 60 * d }
def kn_ws (y : MethodName) (b : ByteArray) (nl : Nat) : List Cond := .code y b nl none :: am_T
def kn_In (D : va_G) (cy : Nat → ClassId) (ws : va_W) (sz : Nat) : State → Prop := fun U => U.heap.size = sz ∧ va_P D am_cls ws U.heap ∧ va_D (fun _ => True) ws ∧ kn_E D cy U
/-- a constructor's contract: of a new object it makes n cells, the object the first -/
def kn_Con (l : Launch) (D : va_G) (cy : Nat → ClassId) (y : MethodName) (b : ByteArray) (nl ci : Nat) (fs As : List Value) (d mc ms n : Nat) (cell : (Nat → Nat) → Nat → va_E) : Prop := ∀ a sz : Nat, Met l y (kn_ws y b nl) (kn_rm d mc ms) (va_Pc (.ref a :: As) (kn_In D cy [(a, .inr (ci, fs))] sz)) (va_Qv (fun q : Nat → Nat => q 0 = a) (fun q t => va_P D am_cls (kn_blk n cell q) t.heap ∧ va_D (va_A [(a, .inr (ci, fs))] sz) (kn_blk n cell q)) (va_A [(a, .inr (ci, fs))] sz)) mc ms (va_A [(a, .inr (ci, fs))] sz)
theorem kn_last {D : va_G} {cl : List vw_C} {ws : va_W} {c : Nat × va_E} {H : Heap} (h : va_P D cl (ws ++ [c]) H) : va_P D cl [c] H := h.by (fun k => ws.length + k) (fun k q hk => by
  rw [List.getElem?_append_right (by omega), show ws.length + k - ws.length = k by omega]; exact hk)
theorem kn_lastD {A : Nat → Prop} {ws : va_W} {c : Nat × va_E} (h : va_D A (ws ++ [c])) : va_D A [c] := h.by (fun k => ws.length + k) (fun k q hk => by
  rw [List.getElem?_append_right (by omega), show ws.length + k - ws.length = k by omega]; exact hk) (fun i j _ _ e => by omega)
theorem kn_freeL {A0 : Nat → Prop} {ws : va_W} {c : Nat × va_E} {H0 H : Heap} {locs : List Loc} (hD : va_D A0 (ws ++ [c])) (hS : va_S A0 H0 H locs) (hA : ∀ q, H0.size ≤ q → A0 q) : ∀ q, va_A [c] H.size q → A0 q := va_free (kn_lastD hD) hS hA [0] rfl
/-- behind a constructor's call: its cells at the end -/
theorem kn_join {A0 : Nat → Prop} {D : va_G} {cl : List vw_C} {ws w1 : va_W} {c : Nat × va_E} {H H1 : Heap} (hP : va_P D cl (ws ++ [c]) H) (hD : va_D A0 (ws ++ [c])) (hk : ∀ q : Nat, q < H.size → ¬ va_A [c] H.size q → H1[q]? = H[q]?) (hF : ∀ q, va_A [c] H.size q → A0 q) (hP1 : va_P D cl w1 H1) (hD1 : va_D (va_A [c] H.size) w1) : va_P D cl (ws ++ w1) H1 ∧ va_D A0 (ws ++ w1) := by
  have hP2 : va_P D cl ([c] ++ ws) H := va_P.swap (a := []) (b := ws) (c := [c]) hP
  have hD2 : va_D A0 ([c] ++ ws) := va_D.swap (a := []) (b := ws) (c := [c]) hD
  obtain ⟨k1, k2⟩ := va_joinQ (X := [c]) (cx := [c]) (wr := []) (w1 := w1) (pl := ws) hP2 hD2 [0] [] rfl rfl rfl (fun i hi => by cases hi) hk hF hP1 hD1
  exact ⟨va_P.swap (a := []) (b := w1) (c := ws) k1, va_D.swap (a := []) (b := w1) (c := ws) k2⟩
section KNC
variable {p : Program} {l : Launch} {e : Env} {R : Room} {s : State} {m : MethodId} {args : Array Value} {below : List Frame} {meth : Method} {c : Code} {H : Heap} {locs : List Loc} {cells slots : Nat} {Q : State → Prop}
variable {cc : ByteArray} {pc nL : Nat} {ls : Array Slot} {rest : List Value} {D : va_G} {cy : Nat → ClassId} {A : Nat → Prop} {ws : va_W} {own : String}
def kn_F (p : Program) (c : Code) (cc : ByteArray) (nL : Nat) (s : State) (m : MethodId) (args : Array Value) (own : String) (D : va_G) (cy : Nat → ClassId) : Prop := p.tables.exec = Jvm.exec ∧ c.code = cc ∧ c.maxLocals = nL ∧ (∀ w ∈ am_T, w.before args s = true) ∧ s.vm.findClass own = some m.cls ∧ kn_E D cy s
theorem kn_good {y : MethodName} {b : ByteArray} {nl : Nat} (wc : Cond.code y b nl none ∈ am_T) : GoodIn am_T (kn_ws y b nl) := by
  intro w hw
  have hT : w ∈ am_T := by
    rcases List.mem_cons.mp hw with h1 | h1
    · rw [h1]; exact wc
    · exact h1
  exact ⟨hT, good_of_word (am_T_good w hT)⟩
/-- new, dup, invokespecial of a nest mate's constructor -/
theorem kn_newN (F : kn_F p c cc nL s m args own D cy) {y : MethodName} {b : ByteArray} {nl ci ix jx d mc ms n : Nat} {fs : List Value} {cell : (Nat → Nat) → Nat → va_E} (hci : ci < 10)
    (w1 : Cond.classLink own ix (am_nm ci) ∈ am_T) (w2 : Cond.instantiable (am_nm ci) (am_nf ci) ∈ am_T) (w3 : Cond.initialized (am_nm ci) ∈ am_T) (hfs : ∀ j, j < am_nf ci → defaultValue (am_ty ci j) = vp_V fs j) (hyc : y.cls = am_nm ci) (hyn : y.name = "<init>") (hyd : y.cls ≠ "java/lang/invoke/MethodHandle" ∧ y.cls ≠ "java/lang/invoke/VarHandle" ∧ (parseMethodDescriptor y.desc).map (fun d => d.parameters.length) = some 0)
    (wc : Cond.code y b nl none ∈ am_T) (wi : Cond.instanceMethod y ∈ am_T) (wn : (own, jx, y) ∈ kn_nest) (con : kn_Con l D cy y b nl ci fs [] d mc ms n cell)
    (hP : va_P D am_cls ws H) (hD : va_D A ws) (hS : va_S A s.heap H locs) (hA : ∀ q, s.heap.size ≤ q → A q) (hR : d + 1 ≤ R.frames ∧ 8 + (nl + 11) + 60 * d ≤ R.locals) (hcells : cells + 1 + mc ≤ R.cells) (hslots : slots + am_nf ci + ms ≤ R.slots) (hrest : (rest.map fun v => v.category).sum + 1 ≤ 8) (hlsz : ls.size = nL)
    (d1 : decode cc pc = .ok (.new ix, 3)) (d2 : decode cc (pc + 3) = .ok (.dup, 1)) (d3 : decode cc (pc + 3 + 1) = .ok (.invokespecial jx, 3))
    (kk : ∀ (q : Nat → Nat) (H1 : Heap) (locs1 : List Loc), va_P D am_cls (ws ++ kn_blk n cell q) H1 → va_D A (ws ++ kn_blk n cell q) → va_S A s.heap H1 locs1 → W p l e R s m args below meth c H1 locs1 (cells + 1 + mc) (slots + am_nf ci + ms) Q (F0 m (pc + 3 + 1 + 3) ls (.ref (q 0) :: rest))) : W p l e R s m args below meth c H locs cells slots Q (F0 m pc ls rest) := by
  obtain ⟨hx, hb, hml, hts, hown, hE⟩ := F
  refine va_new (ci := ci) (fs := fs) (C := am_nm ci) (T := am_TT ci) (N := am_nf ci) hx hb hts (am_ws_T hci) (am_ty ci) (am_ty_ok ci hci) hown (hts _ w1) (hts _ w2) (hts _ w3) hE.1 hP hD hS hA (am_cls_at ci hci) hfs (by omega) (by omega) d1 (fun a H1 hP1 hD1 hS1 => ?_)
  refine lv_dup hx hb d2 rfl ?_
  have hPc := kn_last hP1
  have hDc := kn_lastD hD1
  have hFc := kn_freeL hD1 hS1 hA
  refine va_callv (va_runIN (As := []) (rest := .ref a :: rest) ⟨hx, hb, hml, hown, hts⟩ (con a H1.size) ⟨va_cnB 0 hts (kn_good wc) rfl rfl rfl (hE.2.1 _ wn) (by rw [hyc]; exact hts _ w3) hyd ⟨hR.1, hR.2⟩, hyn, hts _ wi⟩ ⟨fun a U g mk q => by obtain ⟨q0, q1, qP, qD, qE⟩ := q; exact ⟨q0, q1, qP, qD, qE.blind⟩, fun U hU hW => ⟨rfl, by rw [hU], by rw [hU]; exact hPc, hDc.weaken (fun _ _ _ _ => trivial), hE.call hW⟩⟩ rfl rfl hlsz rfl (lv_room (by show 1 + (rest.map fun v => v.category).sum ≤ 8; omega)) d3 ⟨by omega, by omega⟩) hS1 (fun q _ h => hFc q h) hFc (fun q t H2 locs2 ht hvm hq hB hz1 hk1 hS2 => ?_)
  obtain ⟨hB1, hB2⟩ := hB
  rw [ht] at hB1
  obtain ⟨hP2, hD2⟩ := kn_join hP1 hD1 hk1 hFc hB1 hB2
  have := kk q H2 locs2 hP2 hD2 hS2
  rw [hq] at this
  exact this
end KNC
/-- cells that agree as far as they are looked at -/
def kn_ag (e e' : va_E) : Prop := ∀ (D : va_G) (cl : List vw_C) (a : Nat) (H : Heap), va_at D cl (a, e) H → va_at D cl (a, e') H
theorem kn_ag_e {e e' : va_E} (h : e = e') : kn_ag e e' := fun _ _ _ _ k => h ▸ k
theorem kn_ag_q {c : ClassId} {n : Nat} {f g : Nat → Option Nat} (h : ∀ j, j < n → f j = g j) : kn_ag (.inl (c, n, .inr (.inr (.inr (.inr f))))) (.inl (c, n, .inr (.inr (.inr (.inr g))))) := fun D cl a H k => by
  have k : H[a]? = some (vp_cell c (n, .inr (.inr (.inr (.inr f))))) := k
  show H[a]? = some (vp_cell c (n, .inr (.inr (.inr (.inr g)))))
  rw [k, vp_cell_q, vp_cell_q]
  unfold arrV
  congr 2
  congr 1
  funext j
  show va_rf (f j.val) = va_rf (g j.val)
  rw [h j.val j.isLt]
theorem kn_blk_get {n : Nat} {cell : (Nat → Nat) → Nat → va_E} {q : Nat → Nat} {k : Nat} {x : Nat × va_E} (h : (kn_blk n cell q)[k]? = some x) : k < n ∧ x = (q k, cell q k) := by
  unfold kn_blk at h
  rw [List.getElem?_map] at h
  by_cases c : k < n
  · rw [List.getElem?_range c] at h
    cases h
    exact ⟨c, rfl⟩
  · rw [List.getElem?_eq_none (by rw [List.length_range]; omega)] at h
    cases h
theorem kn_blk_at {n : Nat} {cell : (Nat → Nat) → Nat → va_E} {q : Nat → Nat} {k : Nat} (h : k < n) : (kn_blk n cell q)[k]? = some (q k, cell q k) := by
  unfold kn_blk
  rw [List.getElem?_map, List.getElem?_range h]
  rfl
/-- a world as a row of cells -/
theorem kn_conv {D : va_G} {cl : List vw_C} {A : Nat → Prop} {ws : va_W} {H : Heap} {n : Nat} {cell : (Nat → Nat) → Nat → va_E} {q : Nat → Nat} (hl : ∀ j, j < n → ∃ e, ws[j]? = some (q j, e) ∧ kn_ag e (cell q j)) (hP : va_P D cl ws H) (hD : va_D A ws) : va_P D cl (kn_blk n cell q) H ∧ va_D A (kn_blk n cell q) := by
  refine ⟨fun k x hk => ?_, fun i j x y hi hj hxy => ?_, fun k x hk => ?_⟩
  · obtain ⟨h1, rfl⟩ := kn_blk_get hk
    obtain ⟨e, h2, h3⟩ := hl k h1
    exact h3 _ _ _ _ (hP k _ h2)
  · obtain ⟨h1, rfl⟩ := kn_blk_get hi
    obtain ⟨h2, rfl⟩ := kn_blk_get hj
    obtain ⟨e1, k1, -⟩ := hl i h1
    obtain ⟨e2, k2, -⟩ := hl j h2
    exact hD.1 i j _ _ k1 k2 hxy
  · obtain ⟨h1, rfl⟩ := kn_blk_get hk
    obtain ⟨e, h2, -⟩ := hl k h1
    have := hD.2 k _ h2
    exact this
/-- the cells of the program's world at its start, from the number r on -/
def kn_cell (cy : Nat → ClassId) (r : Nat) (q : Nat → Nat) (j : Nat) : va_E := am_cell cy (fun i => q (i - r)) kn_s0 (r + j)
/-- cells from r on and from o on are laid alike, and look at none beyond -/
def kn_fit (r o n : Nat) : Bool := (List.range n).all fun j => decide (am_kd (o + j) = am_kd (r + j)) && (if (am_kd (r + j)).1 ≤ 10 then (List.range (am_nf ((am_kd (r + j)).1 - 1))).all (fun f => decide ((am_ft ((am_kd (r + j)).1 - 1) f).1 ≠ 2 ∨ j + (am_ft ((am_kd (r + j)).1 - 1) f).2.1 < n)) else decide ((am_kd (r + j)).1 ≤ 23) || (List.range (am_kd (r + j)).2.1).all (fun i => decide (j + 1 + (if (am_kd (r + j)).1 = 24 then i else (am_kd (r + j)).2.2 * i) < n)))
theorem kn_sh {cy : Nat → ClassId} {r o n : Nat} {q ad : Nat → Nat} (hf : kn_fit r o n = true) (had : ∀ j, j < n → ad (o + j) = q j) (hrow : ∀ j, j < n → kn_s0.1 (o + j) = kn_s0.1 (r + j)) {j : Nat} (hj : j < n) : kn_ag (kn_cell cy r q j) (am_cell cy ad kn_s0 (o + j)) := by
  have h1 := List.all_eq_true.mp hf j (List.mem_range.mpr hj)
  rw [Bool.and_eq_true] at h1
  obtain ⟨hk, h2⟩ := h1
  have hk := of_decide_eq_true hk
  have hr := hrow j hj
  unfold kn_cell am_cell
  rw [hk]
  generalize am_kd (r + j) = k at h2 ⊢
  by_cases c1 : k.1 ≤ 10
  · rw [if_pos c1, if_pos c1]
    rw [if_pos c1] at h2
    apply kn_ag_e
    congr 2
    unfold am_flds
    apply List.map_congr_left
    intro f hf
    have h3 := List.all_eq_true.mp h2 f hf
    have h3 := of_decide_eq_true h3
    unfold am_fv
    rw [hr]
    generalize am_ft (k.1 - 1) f = e at h3 ⊢
    obtain ⟨e1, e2, e3⟩ := e
    dsimp only at h3 ⊢
    split
    · rfl
    · rfl
    · rfl
    · have h3 : j + e2 < n := by
        rcases h3 with h3 | h3
        · exact absurd rfl h3
        · exact h3
      rw [show o + j + e2 = o + (j + e2) by omega, had _ h3, show r + j + e2 - r = j + e2 by omega]
    · rw [if_pos (kn_s0_c _ _), if_pos (kn_s0_c _ _)]
  · rw [if_neg c1, if_neg c1]
    rw [if_neg c1] at h2
    by_cases c2 : k.1 = 22
    · rw [if_pos c2, if_pos c2]
      exact kn_ag_e rfl
    · rw [if_neg c2, if_neg c2]
      by_cases c3 : k.1 ≤ 23
      · rw [if_pos c3, if_pos c3, hr]
        exact kn_ag_e rfl
      · rw [if_neg c3, if_neg c3]
        rw [decide_eq_false c3, Bool.false_or] at h2
        refine kn_ag_q (fun i hi => ?_)
        have h3 := of_decide_eq_true (List.all_eq_true.mp h2 i (List.mem_range.mpr hi))
        generalize (if k.1 = 24 then i else k.2.2 * i) = t at h3
        show some (q (r + j + 1 + t - r)) = some (ad (o + j + 1 + t))
        rw [show o + j + 1 + t = o + (j + 1 + t) by omega, had _ h3, show r + j + 1 + t - r = j + 1 + t by omega]
/-- a world's addresses -/
theorem kn_D_n {A : Nat → Prop} {ws : va_W} (h : va_D A ws) : (ws.map Prod.fst).Nodup ∧ ∀ a ∈ ws.map Prod.fst, A a := by
  refine ⟨?_, fun a ha => ?_⟩
  · rw [List.Nodup, List.pairwise_iff_getElem]
    intro i j hi hj hij
    rw [List.length_map] at hi hj
    rw [List.getElem_map, List.getElem_map]
    intro e
    have := h.1 i j _ _ (List.getElem?_eq_getElem hi) (List.getElem?_eq_getElem hj) e
    omega
  · obtain ⟨x, hx, rfl⟩ := List.mem_map.mp ha
    obtain ⟨i, hi⟩ := List.getElem?_of_mem hx
    exact h.2 i x hi
theorem kn_n_D {A : Nat → Prop} {n : Nat} {cell : (Nat → Nat) → Nat → va_E} {q : Nat → Nat} (h1 : ((List.range n).map q).Nodup) (h2 : ∀ i, i < n → A (q i)) : va_D A (kn_blk n cell q) := by
  refine ⟨fun i j x y hi hj hxy => ?_, fun k x hk => ?_⟩
  · obtain ⟨g1, rfl⟩ := kn_blk_get hi
    obtain ⟨g2, rfl⟩ := kn_blk_get hj
    have hxy : q i = q j := hxy
    rw [List.Nodup, List.pairwise_iff_getElem] at h1
    rcases Nat.lt_trichotomy i j with c | c | c
    · have := h1 i j (by simpa using g1) (by simpa using g2) c
      rw [List.getElem_map, List.getElem_map, List.getElem_range, List.getElem_range] at this
      exact absurd hxy this
    · exact c
    · have := h1 j i (by simpa using g2) (by simpa using g1) c
      rw [List.getElem_map, List.getElem_map, List.getElem_range, List.getElem_range] at this
      exact absurd hxy.symm this
  · obtain ⟨g1, rfl⟩ := kn_blk_get hk
    exact h2 k g1
theorem kn_perm {L L' : List Nat} {f : Nat → Nat} (hp : L.Perm L') (h : (L.map f).Nodup) : (L'.map f).Nodup := (List.Perm.nodup_iff (hp.map f)).mp h
theorem kn_seg {n o : Nat} {q ad : Nat → Nat} (h : ∀ j, j < n → ad (o + j) = q j) : (List.range n).map q = ((List.range n).map (fun j => o + j)).map ad := by
  rw [List.map_map]
  apply List.map_congr_left
  intro j hj
  exact (h j (List.mem_range.mp hj)).symm
theorem kn_blk_fst {n : Nat} {cell : (Nat → Nat) → Nat → va_E} {q : Nat → Nat} : (kn_blk n cell q).map Prod.fst = (List.range n).map q := by
  unfold kn_blk
  rw [List.map_map]
  rfl
theorem kn_P_app {D : va_G} {cl : List vw_C} {a b : va_W} {H : Heap} (h : va_P D cl (a ++ b) H) : va_P D cl a H ∧ va_P D cl b H := ⟨fun k q hk => h k q (by rw [List.getElem?_append_left (List.getElem?_eq_some_iff.mp hk).1]; exact hk), fun k q hk => h (a.length + k) q (by rw [List.getElem?_append_right (by omega), show a.length + k - a.length = k by omega]; exact hk)⟩
/-- a row of cells at its place in the program's world -/
theorem kn_shP {D : va_G} {cl : List vw_C} {cy : Nat → ClassId} {r o n : Nat} {q ad : Nat → Nat} {H : Heap} (h : va_P D cl (kn_blk n (kn_cell cy r) q) H) (hf : kn_fit r o n = true) (had : ∀ j, j < n → ad (o + j) = q j) (hrow : ∀ j, j < n → kn_s0.1 (o + j) = kn_s0.1 (r + j)) {j : Nat} (hj : j < n) : va_at D cl (ad (o + j), am_cell cy ad kn_s0 (o + j)) H := by
  rw [had j hj]
  exact kn_sh hf had hrow hj _ _ _ _ (h j _ (kn_blk_at hj))
