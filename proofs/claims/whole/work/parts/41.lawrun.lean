/-! THE CLAIM OUT OF ONE WALK OF THE LAW'S BODY. Your part is whole_start (and what it stands on); all else here is the same for every law, but numbers. -/
def R_law : String := "MarchFolkLaw"
def lw_P (b : Addr) (xs : List Int32) (args : Array Value) (s : State) : Prop := args = #[.ref b] ∧ s.IntsAt b xs ∧ xs.length ≤ 3072 ∧ (Jvm.Cond.and given_1 narrow_1).before args s = true
def lw_Q (_ : Array Value) (s : State) (o : Outcome) (t : State) : Prop := o = .returned (some (.int 1)) ∧ Framed s o t [] 600000 7302250
def lw_Z (below : List Frame) (a : Array Value) (s : State) : State → Prop := fun t => ∃ o, t.status = .running ∧ Ended t below o ∧ lw_Q a s o t
/-- the law's own end, with 1 on the stack, nothing written that was there before, its room as the claim has it -/
theorem lw_ret {p : Program} {l : Launch} {e : Env} {s : State} {m : MethodId} {below : List Frame} {meth : Method} {c : Code} {b : Nat} (hx : p.tables.exec = Jvm.exec) (hb : c.code = code) (hr : meth.sig.returnType = ret) (hlocks : meth.locks = false) {pc : Nat} {H : Heap} {ls : Array Slot} (hdg : decode code pc = .ok (.ireturn, 1)) : W p l e room_1 s m #[Value.ref b] below meth c H [] 600000 7302250 (lw_Z below #[Value.ref b] s) (F0 m pc ls [.int 1]) := by
  intro T hT X
  obtain ⟨fs, hret, hrun, hended, hW, hframe⟩ := X.leave (v := some (.int 1)) (hlocks := hlocks) (fun h => by rw [hr] at h; cases h)
  have hmeth' : T.vm.method? m = some meth := X.method'
  refine ⟨T.setFrames fs, ?_, .returned (some (.int 1)), hrun, hended, rfl, ⟨_, rfl⟩, hW, hframe⟩
  jvm_step X.here [X.here.top, hx, hb, hdg, hmeth', hr, ret, narrow_b1]
  (try refine ⟨rfl, ?_⟩); (try refine ⟨rfl, ?_⟩)
  first | (intro acts; rw [hret _ acts rfl rfl rfl]) | rw [hret _ _ rfl rfl rfl]
  exact Steps.refl _
/-- what holds at the law's entry: the machine, the code, the tables' words (any of lw_tbl by 'hts w (by decide +kernel)'), the script of L ints xs at the cell b, what the Statement gives of the start (any of its parts by flat_of_before) -/
def lw_At (p : Program) (s : State) (m : MethodId) (meth : Method) (c : Code) (b L : Nat) (xs : Nat → Int32) : Prop :=
  p.tables.exec = Jvm.exec ∧ c.code = code ∧ meth.sig.returnType = ret ∧ c.maxLocals = 4 ∧ s.vm.findClass R_law = some m.cls ∧ (∀ w ∈ lw_tbl, w.before #[Value.ref b] s = true) ∧ va_X b L xs s s.heap ∧ b < s.heap.size ∧ meth.locks = false ∧ (Jvm.Cond.and given_1 narrow_1).before #[Value.ref b] s = true
-- ===== YOUR PART BEGINS =====
/-! THE LAW'S LOOP ON THE MACHINE. -/
section LWR
variable {p : Program} {l : Launch} {e : Env} {s : State} {m : MethodId} {below : List Frame} {meth : Method} {c : Code} {b L : Nat} {xs : Nat → Int32} {D : va_G} {cy : Nat → ClassId} {ad sd sv : Nat → Nat}
abbrev lw_X (p : Program) (l : Launch) (e : Env) (s : State) (m : MethodId) (below : List Frame) (meth : Method) (c : Code) (b : Nat) (D : va_G) (cy : Nat → ClassId) (ad sd : Nat → Nat) := am_X p l e room_1 600000 7302250 s m #[Value.ref b] below meth c (lw_Z below #[Value.ref b] s) am_lawM D cy ad sd (fun q : Nat => s.heap.size ≤ q)
theorem lw_C (C0 : lw_At p s m meth c b L xs) (hE : am_E D cy sd sv (fun q : Nat => s.heap.size ≤ q) s s.heap) : am_Cx p room_1 600000 7302250 199 s m #[Value.ref b] meth c am_lawM D cy sd sv (fun q : Nat => s.heap.size ≤ q) := by
  obtain ⟨hx, hb, hr, hml, hown, hts, hX, hbl, hlocks, hgv⟩ := C0
  exact ⟨hx, hb, hml, hown, fun w hw => hts w (List.mem_filter.mp hw).1, hr, hlocks, (show 16 < 17 by decide), hE, fun _ h => h, (show 4 ≤ 20 by decide), Nat.le_of_ble_eq_true rfl, Nat.le_of_ble_eq_true rfl, Nat.le_of_ble_eq_true rfl, Nat.le_of_ble_eq_true rfl⟩
theorem lw_clo (C0 : lw_At p s m meth c b L xs) (hE : am_E D cy sd sv (fun q : Nat => s.heap.size ≤ q) s s.heap) (had : ad am_n = b) : am_cloL kLaw.flatten xs L (am_Ct l (0 + 199)) (lw_X p l e s m below meth c b D cy ad sd) := by
  have C := lw_C C0 hE
  obtain ⟨hx, hb, hr, hml, hown, hts, hX, hbl, hlocks, hgv⟩ := C0
  have hbA : ¬ (fun q : Nat => s.heap.size ≤ q) b := Nat.not_le.mpr hbl
  refine ⟨fun pc i n lv st σ hi h => ?_, fun pc lv lv' st σ h1 h2 => ?_⟩
  · have hq := qLaw _ hi
    dsimp only at hq
    obtain ⟨hd, hio⟩ := hq
    cases hs : am_isS i with
    | false =>
      rw [am_1L_eq hs] at h
      have hnr : am_ret i = false := by cases i <;> first | rfl | cases hs
      exact am_one0 C (fun _ _ _ _ _ z => z) hd hio hnr h
    | true =>
      cases i with
      | iaload =>
        intro hlv hst hk H locs ls hP hD hS hl
        obtain rfl := am_iok_n rfl hio
        obtain ⟨i9, r1, e1, h1⟩ := am_i1_of h
        subst e1
        obtain ⟨t, a, r, e1, h2⟩ := am_r1_of h1
        subst e1
        clear h h1
        obtain ⟨ht, ha, hin, h⟩ := h2
        subst ha
        rw [List.map_cons, List.map_cons, ac_v_r (by omega) (by omega) (by omega), had]
        exact va_sld hx hb hX hbl hbA hS hin hd (h hlv (am_okc trivial (am_okt (am_okt hst))) hk H locs ls hP hD hS hl)
      | arraylength =>
        intro hlv hst hk H locs ls hP hD hS hl
        obtain rfl := am_iok_n rfl hio
        obtain ⟨t, a, r, e1, h2⟩ := am_r1_of h
        subst e1
        clear h
        obtain ⟨ht, ha, h⟩ := h2
        subst ha
        rw [List.map_cons, ac_v_r (by omega) (by omega) (by omega), had]
        exact va_slen hx hb hX hbl hbA hS hd (h hlv (am_okc trivial (am_okt hst)) hk H locs ls hP hD hS hl)
      | ireturn =>
        intro hlv hst hk H locs ls hP hD hS hl
        obtain rfl := am_iok_n rfl hio
        have h9 : st = [.inl 1] := h
        subst h9
        exact va_forget (fun q hq => hS.2.2 q hq) (lw_ret hx hb hr hlocks hd)
      | lreturn => exact h.elim
      | areturn => exact h.elim
      | return_ => exact h.elim
      | _ => cases hs
  · intro hlv hst hk2 H locs ls g1 g2 g3 g4
    exact h1 (fun q hq => hlv q (h2 q hq)) hst hk2 H locs ls g1 g2 g3 ⟨g4.1, g4.2.1, fun q hq => by
      obtain ⟨q', hq', rfl⟩ := List.mem_map.mp hq
      exact g4.2.2 _ (List.mem_map.mpr ⟨q', h2 q' hq', rfl⟩)⟩
/-- from the loop's head on: where the pure law ends with 1, so does the law -/
theorem lw_loop (C0 : lw_At p s m meth c b L xs) (hE : am_E D cy sd sv (fun q : Nat => s.heap.size ≤ q) s s.heap) (had : ad am_n = b) {σ σE : AS} {n : Nat} (hf : fLaw xs L n σ 0 = some (σE, 1)) (hk : am_hok σ) {H : Heap} {locs : List Loc} {ls : Array Slot} (hP : va_P D am_cls (am_w cy ad σ) H) (hD : va_D (fun q : Nat => s.heap.size ≤ q) (am_w cy ad σ)) (hS : va_S (fun q : Nat => s.heap.size ≤ q) s.heap H locs) (hl : lv_has ls 4 [(0, .ref b), (1, .ref (ad 0)), (2, .ref (ad 215)), (3, .int 0)]) : W p l e room_1 s m #[Value.ref b] below meth c H locs 600000 7302250 (lw_Z below #[Value.ref b] s) (F0 m 18 ls []) := by
  have h := tLaw (lw_clo (l := l) (e := e) (below := below) C0 hE had) n σ 0 hf
  have kd0 : am_kd 0 = (9, 0, 0) := by decide +kernel
  have kd1 : am_kd 215 = (10, 0, 0) := by decide +kernel
  have hn : am_n = 237 := rfl
  refine h ?_ (fun v hv => by cases hv) hk H locs ls hP hD hS ?_
  · intro q hq
    simp only [List.mem_cons, List.not_mem_nil, or_false] at hq
    rcases hq with rfl | rfl | rfl | rfl
    · exact Or.inl (Or.inl ⟨rfl, rfl⟩)
    · exact Or.inr (Or.inr ⟨(show (9 : Nat) ≠ 0 by decide), (show (9 : Nat) ≠ 11 by decide), (show (9 : Nat) ≠ 12 by decide), by omega, kd0⟩)
    · exact Or.inr (Or.inr ⟨(show (10 : Nat) ≠ 0 by decide), (show (10 : Nat) ≠ 11 by decide), (show (10 : Nat) ≠ 12 by decide), by omega, kd1⟩)
    · exact trivial
  · have e0 : ac_l ad sd [(0, .inr (.inr ((28, 0, 0), 237))), (1, .inr (.inr ((9, 0, 0), 0))), (2, .inr (.inr ((10, 0, 0), 215))), (3, .inl 0)] = [(0, .ref b), (1, .ref (ad 0)), (2, .ref (ad 215)), (3, .int 0)] := by
      rw [← had]
      rfl
    rw [e0]
    exact hl
end LWR
