/-! ONE STEP. -/
theorem am_okc {v : AV} {r : List AV} (h : am_okv v) (hr : ∀ x ∈ r, am_okv x) : ∀ x ∈ v :: r, am_okv x := List.forall_mem_cons.mpr ⟨h, hr⟩
theorem am_okt {v : AV} {r : List AV} (h : ∀ x ∈ v :: r, am_okv x) : ∀ x ∈ r, am_okv x := fun x hx => h x (List.mem_cons_of_mem _ hx)
theorem am_okh {v : AV} {r : List AV} (h : ∀ x ∈ v :: r, am_okv x) : am_okv v := h v List.mem_cons_self
theorem am_okl1 {lv : AL} {n : Nat} {v : AV} (h : ∀ q ∈ lv, am_okv q.2) (hv : am_okv v) : ∀ q ∈ am_st1 lv n v, am_okv q.2 := fun q hq => by
  rcases am_st1_mem hq with e | e
  · rw [e]; exact hv
  · exact h q e
theorem am_okl2 {lv : AL} {n : Nat} {v : AV} (h : ∀ q ∈ lv, am_okv q.2) (hv : am_okv v) : ∀ q ∈ am_st2 lv n v, am_okv q.2 := fun q hq => by
  rcases am_st2_mem hq with e | e
  · rw [e]; exact hv
  · exact h q e
theorem am_iok_n {nL pc n : Nat} {i : Instr} (hs : am_sw i = false) (h : am_iok nL pc i n = true) : n = am_ilen i := by
  simp only [am_iok, hs, Bool.false_or, Bool.and_eq_true, beq_iff_eq] at h
  exact h.1
theorem am_iok_x {nL pc n : Nat} {i : Instr} (h : am_iok nL pc i n = true) : am_ix nL pc i = true := by
  simp only [am_iok, Bool.and_eq_true] at h
  exact h.2
theorem am_loc_at {ad sd : Nat → Nat} {ls : Array Slot} {nL : Nat} {lv : AL} {n : Nat} {v : AV} (h : lv_has ls nL (ac_l ad sd lv)) (hm : (n, v) ∈ lv) : ls[n]? = some (.val (ac_v ad sd v)) := h.2.2 (n, ac_v ad sd v) (List.mem_map.mpr ⟨(n, v), hm, rfl⟩)
theorem am_nn_of {t : AK} {i : Nat} {B : Prop} (h : am_nn t i B) (hok : am_okr t i) (ad sd : Nat → Nat) : B ∧ ((t.1 = 11 ∧ (t.2.1 = 0 → i < 16) ∧ ac_v ad sd (.inr (.inr (t, i))) = .ref (sd i)) ∨ (t.1 ≠ 11 ∧ i < am_n ∧ ((t.1 ≠ 12 ∧ am_kd i = t) ∨ (t.1 = 12 ∧ am_kd i = (8, 0, 0))) ∧ ac_v ad sd (.inr (.inr (t, i))) = .ref (ad i)) ∨ (t.1 = 28 ∧ ac_v ad sd (.inr (.inr (t, i))) = .ref (ad i))) := by
  unfold am_nn at h
  rcases hok with (⟨h1, h2⟩ | ⟨h0, h2⟩ | ⟨h0, h2⟩) | ⟨h1, h2⟩ | ⟨h1, h2, h3, h4, h5⟩
  · rw [h1] at h
    exact ⟨h, Or.inr (Or.inr ⟨h1, ac_v_r (by omega) (by omega) (by omega)⟩)⟩
  · have h1 : t.1 = 11 := by rw [h0]
    rw [h1] at h
    refine ⟨h, Or.inl ⟨h1, fun _ => h2, ?_⟩⟩
    simp only [ac_v, h1, if_neg (show ¬ (11 : Nat) = 0 by decide), if_pos]
  · have h1 : t.1 = 11 := by rw [h0]
    rw [h1] at h
    refine ⟨h, Or.inl ⟨h1, (fun z => by rw [h0] at z; cases z), ?_⟩⟩
    simp only [ac_v, h1, if_neg (show ¬ (11 : Nat) = 0 by decide), if_pos]
  · rw [h1] at h
    try dsimp only at h
    refine ⟨h.2, Or.inr (Or.inl ⟨by omega, ?_⟩)⟩
    rcases h2 with h2 | ⟨h2, h3⟩
    · exact absurd h2 h.1
    · refine ⟨h2, Or.inr ⟨h1, h3⟩, ?_⟩
      simp only [ac_v, h1, if_neg (show ¬ (12 : Nat) = 0 by decide), if_neg (show ¬ (12 : Nat) = 11 by decide), if_neg h.1, if_pos]
  · refine ⟨?_, Or.inr (Or.inl ⟨h2, h4, Or.inl ⟨h3, h5⟩, ac_v_r h1 h2 h3⟩)⟩
    split at h
    · rename_i e; exact absurd e h1
    · rename_i e; exact absurd e h3
    · exact h
theorem am_nn_r {t : AK} {i : Nat} {B : Prop} (h : am_nn t i B) (hok : am_okr t i) (ad sd : Nat → Nat) : B ∧ ∃ a, ac_v ad sd (.inr (.inr (t, i))) = .ref a := by
  obtain ⟨h1, h2⟩ := am_nn_of h hok ad sd
  rcases h2 with ⟨-, -, h2⟩ | ⟨-, -, -, h2⟩ | ⟨-, h2⟩
  · exact ⟨h1, _, h2⟩
  · exact ⟨h1, _, h2⟩
  · exact ⟨h1, _, h2⟩
theorem am_hok_si {σ : AS} {o f : Nat} {x : Int32} (h : am_hok σ) (hn : o < am_n → (am_kd o).1 ≤ 10 → (am_ft ((am_kd o).1 - 1) f).1 = 3 → x.toNatClampNeg = 0 ∨ (x.toNatClampNeg < am_n ∧ am_kd x.toNatClampNeg = (8, 0, 0))) : am_hok (am_si σ o f x) := by
  intro o' f' h1 h2 h3
  by_cases e : o' = o
  · subst e
    by_cases e2 : f' = f
    · subst e2
      have e3 : (am_si σ o' f' x).1 o' f' = x := by simp [am_si, am_u2, upd]
      rw [e3]
      exact hn h1 h2 h3
    · have e3 : (am_si σ o' f x).1 o' f' = σ.1 o' f' := by simp [am_si, am_u2, upd, e2]
      rw [e3]
      exact h o' f' h1 h2 h3
  · have e3 : (am_si σ o f x).1 o' f' = σ.1 o' f' := by simp [am_si, am_u2, e]
    rw [e3]
    exact h o' f' h1 h2 h3
theorem am_hok_sr {σ : AS} {o : Nat} {g : Nat → Int32} (h : am_hok σ) (hn : 20 ≤ (am_kd o).1) : am_hok (am_sr σ o g) := by
  intro o' f' h1 h2 h3
  by_cases e : o' = o
  · subst e; omega
  · have e3 : (am_sr σ o g).1 o' f' = σ.1 o' f' := by simp [am_sr, am_u2, e]
    rw [e3]
    exact h o' f' h1 h2 h3
theorem am_hok_j {σ σ' : AS} (h : am_hok σ) (e : σ'.1 = σ.1) : am_hok σ' := by
  intro o' f' h1 h2 h3
  rw [e]
  exact h o' f' h1 h2 h3
theorem am_okr_o {t : AK} {o ci : Nat} (h : am_okr t o) (ht : t.1 = ci + 1) (hc : ci < 10) (ad sd : Nat → Nat) : o < am_n ∧ (am_kd o).1 = ci + 1 ∧ ac_v ad sd (.inr (.inr (t, o))) = .ref (ad o) := by
  rcases h with (⟨h1, h2⟩ | ⟨h0, h2⟩ | ⟨h0, h2⟩) | ⟨h1, h2⟩ | ⟨h1, h2, h3, h4, h5⟩
  · omega
  · rw [h0] at ht; dsimp only at ht; omega
  · rw [h0] at ht; dsimp only at ht; omega
  · omega
  · exact ⟨h4, by rw [h5, ht], ac_v_r h1 h2 h3⟩
theorem am_okr_a {t : AK} {o k : Nat} (h : am_okr t o) (ht : t.1 = k) (hk : 20 ≤ k ∧ k ≤ 26) (ad sd : Nat → Nat) : o < am_n ∧ am_kd o = t ∧ ac_v ad sd (.inr (.inr (t, o))) = .ref (ad o) := by
  rcases h with (⟨h1, h2⟩ | ⟨h0, h2⟩ | ⟨h0, h2⟩) | ⟨h1, h2⟩ | ⟨h1, h2, h3, h4, h5⟩
  · omega
  · rw [h0] at ht; dsimp only at ht; omega
  · rw [h0] at ht; dsimp only at ht; omega
  · omega
  · exact ⟨h4, h5, ac_v_r h1 h2 h3⟩
theorem am_okr_s {o : Nat} (h : am_okr (11, 0, 0) o) : o < 16 := by
  rcases h with (⟨h1, h2⟩ | ⟨h0, h2⟩ | ⟨h0, h2⟩) | ⟨h1, h2⟩ | ⟨h1, h2, h3, h4, h5⟩
  · cases h1
  · exact h2
  · cases h0
  · cases h1
  · exact absurd rfl h2
theorem am_okr_b {o : Nat} (h : am_okr (11, 1, 0) o) : ∃ q, q < 16 ∧ o = 16 + q := by
  rcases h with (⟨h1, h2⟩ | ⟨h0, h2⟩ | ⟨h0, h2⟩) | ⟨h1, h2⟩ | ⟨h1, h2, h3, h4, h5⟩
  · cases h1
  · cases h0
  · exact ⟨o - 16, by omega, by omega⟩
  · cases h1
  · exact absurd rfl h2
theorem am_flds_at {ad : Nat → Nat} {σ : AS} {o ci f : Nat} (h : f < am_nf ci) : (am_flds ad σ o ci)[f]? = some (am_fv ad σ o f (am_ft ci f)) := by
  simp only [am_flds, List.getElem?_map, List.getElem?_range h, Option.map_some]
theorem am_flds_set {ad : Nat → Nat} {σ σ' : AS} {o ci f : Nat} {v : Value} (h : f < am_nf ci) (hv : am_fv ad σ' o f (am_ft ci f) = v) (hg : ∀ j, j ≠ f → σ'.1 o j = σ.1 o j ∧ σ'.2 o j = σ.2 o j) : (am_flds ad σ o ci).set f v = am_flds ad σ' o ci :=
  am_map_set h hv (fun j _ e => by
    unfold am_fv
    rw [(hg j e).1, (hg j e).2])
theorem am_flds_len {ad : Nat → Nat} {σ : AS} {o ci : Nat} : (am_flds ad σ o ci).length = am_nf ci := by simp [am_flds]
section AMO
variable {p : Program} {l : Launch} {e : Env} {R : Room} {s : State} {m : MethodId} {args : Array Value} {below : List Frame} {meth : Method} {c : Code} {H : Heap} {locs : List Loc} {Q : State → Prop}
variable {D : va_G} {cy : Nat → ClassId} {ad sd sv : Nat → Nat} {A : Nat → Prop} {M : AM} {pc : Nat} {ls : Array Slot} {lv : AL} {st : List AV} {σ : AS} {d cl sl : Nat}
theorem va_ald2 {tys : List (ClassId × FieldType)} {ws : va_W} {cl : List vw_C} {cc : ByteArray} {a : Nat} {rest : List Value} {cells slots : Nat} (hexec : p.tables.exec = Jvm.exec) (hb : c.code = cc) (hK : va_K D cl tys s) (hP : va_P D cl ws H) (q0 t0 : Nat) {cA : ClassId} {n : Nat} {f : Nat → Option Nat} (ha : ws[q0]? = some (a, .inl (cA, n, .inr (.inr (.inr (.inr f)))))) (ht : tys[t0]? = some (cA, .array .int)) {i : Int32} (hin : vp_in i n) (hdg : decode cc pc = .ok (.aaload, 1))
    (kk : W p l e R s m args below meth c H locs cells slots Q (F0 m (pc + 1) ls (va_rf (f i.toNatClampNeg) :: rest))) : W p l e R s m args below meth c H locs cells slots Q (F0 m pc ls (.int i :: .ref a :: rest)) := by
  have hlt : i.toNatClampNeg < n := Nat.not_le.mp fun q => hin (Or.inr q)
  exact W.aald (v := va_rf (f i.toNatClampNeg)) (ty := .array .int) hexec hb (hP q0 _ ha) ((hK.2 t0 _ ht).1 n (fun j => va_rf (f j))) rfl (fun q => by cases q) (by show ¬ (i < 0 ∨ (arrV _ _ _).slots.size ≤ _); rw [arrV_size]; exact hin) (by show (arrV _ _ _).slots[_]? = _; rw [arrV_read _ _ hlt]) rfl rfl hdg kk

/-- what stands still during a method -/
def am_Cx (p : Program) (R : Room) (cl sl d : Nat) (s : State) (m : MethodId) (args : Array Value) (meth : Method) (c : Code) (M : AM) (D : va_G) (cy : Nat → ClassId) (sd sv : Nat → Nat) (A : Nat → Prop) : Prop :=
  p.tables.exec = Jvm.exec ∧ c.code = M.2.2.1 ∧ c.maxLocals = M.2.2.2.1 ∧ s.vm.findClass (am_nm M.1) = some m.cls ∧ (∀ w ∈ am_T, w.before args s = true) ∧ meth.sig.returnType = M.2.2.2.2.1 ∧ meth.locks = false ∧ M.1 < 17 ∧ am_E D cy sd sv A s s.heap ∧ (∀ q, s.heap.size ≤ q → A q) ∧ M.2.2.2.1 ≤ 20 ∧ d + 1 ≤ R.frames ∧ 60 * (d + 1) ≤ R.locals ∧ cl ≤ R.cells ∧ sl ≤ R.slots
abbrev am_X (p : Program) (l : Launch) (e : Env) (R : Room) (cl sl : Nat) (s : State) (m : MethodId) (args : Array Value) (below : List Frame) (meth : Method) (c : Code) (Q : State → Prop) (M : AM) (D : va_G) (cy : Nat → ClassId) (ad sd : Nat → Nat) (A : Nat → Prop) := am_W p l e R cl sl s m args below meth c Q D cy ad sd A M.2.2.2.1

theorem am_1_iconst (C : am_Cx p R cl sl d s m args meth c M D cy sd sv A) {n : Nat} {k : Int} (hd : decode M.2.2.1 pc = .ok (.iconst k, n)) (hi : am_iok M.2.2.2.1 pc (.iconst k) n = true) (h : (am_X p l e R cl sl s m args below meth c Q M D cy ad sd A) (pc + 1) lv (.inl (am_ic k) :: st) σ) : (am_X p l e R cl sl s m args below meth c Q M D cy ad sd A) pc lv st σ := by
  obtain ⟨hx, hb, hml, hown, hts, hr, hlk, ho, hE, hA, hm20, hR1, hR2, hR3, hR4⟩ := C
  intro hlv hst hk H locs ls hP hD hS hl
  obtain rfl := am_iok_n rfl hi
  exact lv_iconst hx hb hd (am_ic_eq k) (h hlv (am_okc trivial hst) hk H locs ls hP hD hS hl)
theorem am_1_bipush (C : am_Cx p R cl sl d s m args meth c M D cy sd sv A) {n : Nat} {k : Int} (hd : decode M.2.2.1 pc = .ok (.bipush k, n)) (hi : am_iok M.2.2.2.1 pc (.bipush k) n = true) (h : (am_X p l e R cl sl s m args below meth c Q M D cy ad sd A) (pc + 2) lv (.inl (am_ic k) :: st) σ) : (am_X p l e R cl sl s m args below meth c Q M D cy ad sd A) pc lv st σ := by
  obtain ⟨hx, hb, hml, hown, hts, hr, hlk, ho, hE, hA, hm20, hR1, hR2, hR3, hR4⟩ := C
  intro hlv hst hk H locs ls hP hD hS hl
  obtain rfl := am_iok_n rfl hi
  have h1 := am_iok_x hi
  simp only [am_ix, Bool.and_eq_true, decide_eq_true_eq] at h1
  exact lv_bipush hx hb hd (am_bip h1.1 h1.2) (h hlv (am_okc trivial hst) hk H locs ls hP hD hS hl)
theorem am_1_sipush (C : am_Cx p R cl sl d s m args meth c M D cy sd sv A) {n : Nat} {k : Int} (hd : decode M.2.2.1 pc = .ok (.sipush k, n)) (hi : am_iok M.2.2.2.1 pc (.sipush k) n = true) (h : (am_X p l e R cl sl s m args below meth c Q M D cy ad sd A) (pc + 3) lv (.inl (am_ic k) :: st) σ) : (am_X p l e R cl sl s m args below meth c Q M D cy ad sd A) pc lv st σ := by
  obtain ⟨hx, hb, hml, hown, hts, hr, hlk, ho, hE, hA, hm20, hR1, hR2, hR3, hR4⟩ := C
  intro hlv hst hk H locs ls hP hD hS hl
  obtain rfl := am_iok_n rfl hi
  have h1 := am_iok_x hi
  simp only [am_ix, Bool.and_eq_true, decide_eq_true_eq] at h1
  exact lv_sipush hx hb hd (am_sip h1.1 h1.2) (h hlv (am_okc trivial hst) hk H locs ls hP hD hS hl)
theorem am_1_lconst (C : am_Cx p R cl sl d s m args meth c M D cy sd sv A) {n : Nat} {k : Fin 2} (hd : decode M.2.2.1 pc = .ok (.lconst k, n)) (hi : am_iok M.2.2.2.1 pc (.lconst k) n = true) (h : (am_X p l e R cl sl s m args below meth c Q M D cy ad sd A) (pc + 1) lv (.inr (.inl (Int64.ofNat k)) :: st) σ) : (am_X p l e R cl sl s m args below meth c Q M D cy ad sd A) pc lv st σ := by
  obtain ⟨hx, hb, hml, hown, hts, hr, hlk, ho, hE, hA, hm20, hR1, hR2, hR3, hR4⟩ := C
  intro hlv hst hk H locs ls hP hD hS hl
  obtain rfl := am_iok_n rfl hi
  exact lv_lconst hx hb hd rfl (h hlv (am_okc trivial hst) hk H locs ls hP hD hS hl)
theorem am_1_iload_n (C : am_Cx p R cl sl d s m args meth c M D cy sd sv A) {n : Nat} {k : Fin 4} (hd : decode M.2.2.1 pc = .ok (.iload_n k, n)) (hi : am_iok M.2.2.2.1 pc (.iload_n k) n = true) (h : am_gi lv k fun x => (am_X p l e R cl sl s m args below meth c Q M D cy ad sd A) (pc + 1) lv (.inl x :: st) σ) : (am_X p l e R cl sl s m args below meth c Q M D cy ad sd A) pc lv st σ := by
  obtain ⟨hx, hb, hml, hown, hts, hr, hlk, ho, hE, hA, hm20, hR1, hR2, hR3, hR4⟩ := C
  intro hlv hst hk H locs ls hP hD hS hl
  obtain rfl := am_iok_n rfl hi
  obtain ⟨x, hmem, h⟩ := am_gi_of h
  exact lv_iload_n hx hb hd rfl (am_loc_at hl hmem) (h hlv (am_okc trivial hst) hk H locs ls hP hD hS hl)
theorem am_1_iload (C : am_Cx p R cl sl d s m args meth c M D cy sd sv A) {n : Nat} {k : Nat} (hd : decode M.2.2.1 pc = .ok (.iload k, n)) (hi : am_iok M.2.2.2.1 pc (.iload k) n = true) (h : am_gi lv k fun x => (am_X p l e R cl sl s m args below meth c Q M D cy ad sd A) (pc + 2) lv (.inl x :: st) σ) : (am_X p l e R cl sl s m args below meth c Q M D cy ad sd A) pc lv st σ := by
  obtain ⟨hx, hb, hml, hown, hts, hr, hlk, ho, hE, hA, hm20, hR1, hR2, hR3, hR4⟩ := C
  intro hlv hst hk H locs ls hP hD hS hl
  obtain rfl := am_iok_n rfl hi
  obtain ⟨x, hmem, h⟩ := am_gi_of h
  exact lv_iload hx hb hd (am_loc_at hl hmem) (h hlv (am_okc trivial hst) hk H locs ls hP hD hS hl)
theorem am_1_lload_n (C : am_Cx p R cl sl d s m args meth c M D cy sd sv A) {n : Nat} {k : Fin 4} (hd : decode M.2.2.1 pc = .ok (.lload_n k, n)) (hi : am_iok M.2.2.2.1 pc (.lload_n k) n = true) (h : am_gl lv k fun x => (am_X p l e R cl sl s m args below meth c Q M D cy ad sd A) (pc + 1) lv (.inr (.inl x) :: st) σ) : (am_X p l e R cl sl s m args below meth c Q M D cy ad sd A) pc lv st σ := by
  obtain ⟨hx, hb, hml, hown, hts, hr, hlk, ho, hE, hA, hm20, hR1, hR2, hR3, hR4⟩ := C
  intro hlv hst hk H locs ls hP hD hS hl
  obtain rfl := am_iok_n rfl hi
  obtain ⟨x, hmem, h⟩ := am_gl_of h
  exact lv_lload_n hx hb hd rfl (am_loc_at hl hmem) (h hlv (am_okc trivial hst) hk H locs ls hP hD hS hl)
theorem am_1_lload (C : am_Cx p R cl sl d s m args meth c M D cy sd sv A) {n : Nat} {k : Nat} (hd : decode M.2.2.1 pc = .ok (.lload k, n)) (hi : am_iok M.2.2.2.1 pc (.lload k) n = true) (h : am_gl lv k fun x => (am_X p l e R cl sl s m args below meth c Q M D cy ad sd A) (pc + 2) lv (.inr (.inl x) :: st) σ) : (am_X p l e R cl sl s m args below meth c Q M D cy ad sd A) pc lv st σ := by
  obtain ⟨hx, hb, hml, hown, hts, hr, hlk, ho, hE, hA, hm20, hR1, hR2, hR3, hR4⟩ := C
  intro hlv hst hk H locs ls hP hD hS hl
  obtain rfl := am_iok_n rfl hi
  obtain ⟨x, hmem, h⟩ := am_gl_of h
  exact lv_lload hx hb hd (am_loc_at hl hmem) (h hlv (am_okc trivial hst) hk H locs ls hP hD hS hl)
theorem am_1_aload_n (C : am_Cx p R cl sl d s m args meth c M D cy sd sv A) {n : Nat} {k : Fin 4} (hd : decode M.2.2.1 pc = .ok (.aload_n k, n)) (hi : am_iok M.2.2.2.1 pc (.aload_n k) n = true) (h : am_gr lv k fun t o => am_nn t o ((am_X p l e R cl sl s m args below meth c Q M D cy ad sd A) (pc + 1) lv (.inr (.inr (t, o)) :: st) σ)) : (am_X p l e R cl sl s m args below meth c Q M D cy ad sd A) pc lv st σ := by
  obtain ⟨hx, hb, hml, hown, hts, hr, hlk, ho, hE, hA, hm20, hR1, hR2, hR3, hR4⟩ := C
  intro hlv hst hk H locs ls hP hD hS hl
  obtain rfl := am_iok_n rfl hi
  obtain ⟨t, o, hmem, h⟩ := am_gr_of h
  have hov : am_okr t o := hlv _ hmem
  obtain ⟨h, a, ha⟩ := am_nn_r h hov ad sd
  have hk2 := h hlv (am_okc hov hst) hk H locs ls hP hD hS hl
  have hat := am_loc_at hl hmem
  rw [ha] at hat
  rw [List.map_cons, ha] at hk2
  exact lv_aload_n hx hb hd rfl hat hk2
theorem am_1_aload (C : am_Cx p R cl sl d s m args meth c M D cy sd sv A) {n : Nat} {k : Nat} (hd : decode M.2.2.1 pc = .ok (.aload k, n)) (hi : am_iok M.2.2.2.1 pc (.aload k) n = true) (h : am_gr lv k fun t o => am_nn t o ((am_X p l e R cl sl s m args below meth c Q M D cy ad sd A) (pc + 2) lv (.inr (.inr (t, o)) :: st) σ)) : (am_X p l e R cl sl s m args below meth c Q M D cy ad sd A) pc lv st σ := by
  obtain ⟨hx, hb, hml, hown, hts, hr, hlk, ho, hE, hA, hm20, hR1, hR2, hR3, hR4⟩ := C
  intro hlv hst hk H locs ls hP hD hS hl
  obtain rfl := am_iok_n rfl hi
  obtain ⟨t, o, hmem, h⟩ := am_gr_of h
  have hov : am_okr t o := hlv _ hmem
  obtain ⟨h, a, ha⟩ := am_nn_r h hov ad sd
  have hk2 := h hlv (am_okc hov hst) hk H locs ls hP hD hS hl
  have hat := am_loc_at hl hmem
  rw [ha] at hat
  rw [List.map_cons, ha] at hk2
  exact lv_aload hx hb hd hat hk2
theorem am_1_istore_n (C : am_Cx p R cl sl d s m args meth c M D cy sd sv A) {n : Nat} {k : Fin 4} (hd : decode M.2.2.1 pc = .ok (.istore_n k, n)) (hi : am_iok M.2.2.2.1 pc (.istore_n k) n = true) (h : am_i1 st fun x r => (am_X p l e R cl sl s m args below meth c Q M D cy ad sd A) (pc + 1) (am_st1 lv k (.inl x)) r σ) : (am_X p l e R cl sl s m args below meth c Q M D cy ad sd A) pc lv st σ := by
  obtain ⟨hx, hb, hml, hown, hts, hr, hlk, ho, hE, hA, hm20, hR1, hR2, hR3, hR4⟩ := C
  intro hlv hst hk H locs ls hP hD hS hl
  obtain rfl := am_iok_n rfl hi
  have h1 := am_iok_x hi
  simp only [am_ix, decide_eq_true_eq] at h1
  obtain ⟨x, r, rfl, h⟩ := am_i1_of h
  exact lv_istore_n hx hb hd rfl hl h1 (ac_st1 ad sd lv k (.inl x)) (fun ls hl => h (am_okl1 hlv trivial) (am_okt hst) hk H locs ls hP hD hS hl)
theorem am_1_istore (C : am_Cx p R cl sl d s m args meth c M D cy sd sv A) {n : Nat} {k : Nat} (hd : decode M.2.2.1 pc = .ok (.istore k, n)) (hi : am_iok M.2.2.2.1 pc (.istore k) n = true) (h : am_i1 st fun x r => (am_X p l e R cl sl s m args below meth c Q M D cy ad sd A) (pc + 2) (am_st1 lv k (.inl x)) r σ) : (am_X p l e R cl sl s m args below meth c Q M D cy ad sd A) pc lv st σ := by
  obtain ⟨hx, hb, hml, hown, hts, hr, hlk, ho, hE, hA, hm20, hR1, hR2, hR3, hR4⟩ := C
  intro hlv hst hk H locs ls hP hD hS hl
  obtain rfl := am_iok_n rfl hi
  have h1 := am_iok_x hi
  simp only [am_ix, decide_eq_true_eq] at h1
  obtain ⟨x, r, rfl, h⟩ := am_i1_of h
  exact lv_istore hx hb hd hl h1 (ac_st1 ad sd lv k (.inl x)) (fun ls hl => h (am_okl1 hlv trivial) (am_okt hst) hk H locs ls hP hD hS hl)
theorem am_1_lstore_n (C : am_Cx p R cl sl d s m args meth c M D cy sd sv A) {n : Nat} {k : Fin 4} (hd : decode M.2.2.1 pc = .ok (.lstore_n k, n)) (hi : am_iok M.2.2.2.1 pc (.lstore_n k) n = true) (h : am_l1 st fun x r => (am_X p l e R cl sl s m args below meth c Q M D cy ad sd A) (pc + 1) (am_st2 lv k (.inr (.inl x))) r σ) : (am_X p l e R cl sl s m args below meth c Q M D cy ad sd A) pc lv st σ := by
  obtain ⟨hx, hb, hml, hown, hts, hr, hlk, ho, hE, hA, hm20, hR1, hR2, hR3, hR4⟩ := C
  intro hlv hst hk H locs ls hP hD hS hl
  obtain rfl := am_iok_n rfl hi
  have h1 := am_iok_x hi
  simp only [am_ix, decide_eq_true_eq] at h1
  obtain ⟨x, r, rfl, h⟩ := am_l1_of h
  exact lv_lstore_n hx hb hd rfl hl h1 (ac_st2 ad sd lv k (.inr (.inl x))) (fun ls hl => h (am_okl2 hlv trivial) (am_okt hst) hk H locs ls hP hD hS hl)
theorem am_1_lstore (C : am_Cx p R cl sl d s m args meth c M D cy sd sv A) {n : Nat} {k : Nat} (hd : decode M.2.2.1 pc = .ok (.lstore k, n)) (hi : am_iok M.2.2.2.1 pc (.lstore k) n = true) (h : am_l1 st fun x r => (am_X p l e R cl sl s m args below meth c Q M D cy ad sd A) (pc + 2) (am_st2 lv k (.inr (.inl x))) r σ) : (am_X p l e R cl sl s m args below meth c Q M D cy ad sd A) pc lv st σ := by
  obtain ⟨hx, hb, hml, hown, hts, hr, hlk, ho, hE, hA, hm20, hR1, hR2, hR3, hR4⟩ := C
  intro hlv hst hk H locs ls hP hD hS hl
  obtain rfl := am_iok_n rfl hi
  have h1 := am_iok_x hi
  simp only [am_ix, decide_eq_true_eq] at h1
  obtain ⟨x, r, rfl, h⟩ := am_l1_of h
  exact lv_lstore hx hb hd hl h1 (ac_st2 ad sd lv k (.inr (.inl x))) (fun ls hl => h (am_okl2 hlv trivial) (am_okt hst) hk H locs ls hP hD hS hl)
theorem am_1_astore_n (C : am_Cx p R cl sl d s m args meth c M D cy sd sv A) {n : Nat} {k : Fin 4} (hd : decode M.2.2.1 pc = .ok (.astore_n k, n)) (hi : am_iok M.2.2.2.1 pc (.astore_n k) n = true) (h : am_r1 st fun t o r => am_nn t o ((am_X p l e R cl sl s m args below meth c Q M D cy ad sd A) (pc + 1) (am_st1 lv k (.inr (.inr (t, o)))) r σ)) : (am_X p l e R cl sl s m args below meth c Q M D cy ad sd A) pc lv st σ := by
  obtain ⟨hx, hb, hml, hown, hts, hr, hlk, ho, hE, hA, hm20, hR1, hR2, hR3, hR4⟩ := C
  intro hlv hst hk H locs ls hP hD hS hl
  obtain rfl := am_iok_n rfl hi
  have h1 := am_iok_x hi
  simp only [am_ix, decide_eq_true_eq] at h1
  obtain ⟨t, o, r, rfl, h⟩ := am_r1_of h
  have hov : am_okr t o := am_okh hst
  obtain ⟨h, a, ha⟩ := am_nn_r h hov ad sd
  have hs := ac_st1 ad sd lv k (.inr (.inr (t, o)))
  rw [ha] at hs
  rw [List.map_cons, ha]
  exact lv_astore_n hx hb hd rfl hl h1 hs (fun ls hl => h (am_okl1 hlv hov) (am_okt hst) hk H locs ls hP hD hS hl)
theorem am_1_astore (C : am_Cx p R cl sl d s m args meth c M D cy sd sv A) {n : Nat} {k : Nat} (hd : decode M.2.2.1 pc = .ok (.astore k, n)) (hi : am_iok M.2.2.2.1 pc (.astore k) n = true) (h : am_r1 st fun t o r => am_nn t o ((am_X p l e R cl sl s m args below meth c Q M D cy ad sd A) (pc + 2) (am_st1 lv k (.inr (.inr (t, o)))) r σ)) : (am_X p l e R cl sl s m args below meth c Q M D cy ad sd A) pc lv st σ := by
  obtain ⟨hx, hb, hml, hown, hts, hr, hlk, ho, hE, hA, hm20, hR1, hR2, hR3, hR4⟩ := C
  intro hlv hst hk H locs ls hP hD hS hl
  obtain rfl := am_iok_n rfl hi
  have h1 := am_iok_x hi
  simp only [am_ix, decide_eq_true_eq] at h1
  obtain ⟨t, o, r, rfl, h⟩ := am_r1_of h
  have hov : am_okr t o := am_okh hst
  obtain ⟨h, a, ha⟩ := am_nn_r h hov ad sd
  have hs := ac_st1 ad sd lv k (.inr (.inr (t, o)))
  rw [ha] at hs
  rw [List.map_cons, ha]
  exact lv_astore hx hb hd hl h1 hs (fun ls hl => h (am_okl1 hlv hov) (am_okt hst) hk H locs ls hP hD hS hl)
theorem am_1_iinc (C : am_Cx p R cl sl d s m args meth c M D cy sd sv A) {n : Nat} {k : Nat} {q : Int} (hd : decode M.2.2.1 pc = .ok (.iinc k q, n)) (hi : am_iok M.2.2.2.1 pc (.iinc k q) n = true) (h : am_gi lv k fun x => (am_X p l e R cl sl s m args below meth c Q M D cy ad sd A) (pc + 3) (am_st1 lv k (.inl (x + am_ic q))) st σ) : (am_X p l e R cl sl s m args below meth c Q M D cy ad sd A) pc lv st σ := by
  obtain ⟨hx, hb, hml, hown, hts, hr, hlk, ho, hE, hA, hm20, hR1, hR2, hR3, hR4⟩ := C
  intro hlv hst hk H locs ls hP hD hS hl
  obtain rfl := am_iok_n rfl hi
  have h1 := am_iok_x hi
  simp only [am_ix, decide_eq_true_eq] at h1
  obtain ⟨x, hmem, h⟩ := am_gi_of h
  obtain ⟨j, hj⟩ := List.getElem?_of_mem (List.mem_map.mpr ⟨(k, (.inl x : AV)), hmem, rfl⟩ : (k, ac_v ad sd (.inl x)) ∈ ac_l ad sd lv)
  exact lv_iinc hx hb hd hl hj (by rw [am_ic_eq]) h1 (ac_st1 ad sd lv k (.inl (x + am_ic q))) (fun ls hl => h (am_okl1 hlv trivial) hst hk H locs ls hP hD hS hl)
theorem am_1_iadd (C : am_Cx p R cl sl d s m args meth c M D cy sd sv A) {n : Nat} (hd : decode M.2.2.1 pc = .ok (.iadd, n)) (hi : am_iok M.2.2.2.1 pc (.iadd) n = true) (h : am_i2 st fun x y r => (am_X p l e R cl sl s m args below meth c Q M D cy ad sd A) (pc + 1) lv (.inl (x + y) :: r) σ) : (am_X p l e R cl sl s m args below meth c Q M D cy ad sd A) pc lv st σ := by
  obtain ⟨hx, hb, hml, hown, hts, hr, hlk, ho, hE, hA, hm20, hR1, hR2, hR3, hR4⟩ := C
  intro hlv hst hk H locs ls hP hD hS hl
  obtain rfl := am_iok_n rfl hi
  obtain ⟨x, y, r, rfl, h⟩ := am_i2_of h
  exact lv_iadd hx hb hd (h hlv (am_okc trivial (am_okt (am_okt hst))) hk H locs ls hP hD hS hl)
theorem am_1_isub (C : am_Cx p R cl sl d s m args meth c M D cy sd sv A) {n : Nat} (hd : decode M.2.2.1 pc = .ok (.isub, n)) (hi : am_iok M.2.2.2.1 pc (.isub) n = true) (h : am_i2 st fun x y r => (am_X p l e R cl sl s m args below meth c Q M D cy ad sd A) (pc + 1) lv (.inl (x - y) :: r) σ) : (am_X p l e R cl sl s m args below meth c Q M D cy ad sd A) pc lv st σ := by
  obtain ⟨hx, hb, hml, hown, hts, hr, hlk, ho, hE, hA, hm20, hR1, hR2, hR3, hR4⟩ := C
  intro hlv hst hk H locs ls hP hD hS hl
  obtain rfl := am_iok_n rfl hi
  obtain ⟨x, y, r, rfl, h⟩ := am_i2_of h
  exact lv_isub hx hb hd (h hlv (am_okc trivial (am_okt (am_okt hst))) hk H locs ls hP hD hS hl)
theorem am_1_imul (C : am_Cx p R cl sl d s m args meth c M D cy sd sv A) {n : Nat} (hd : decode M.2.2.1 pc = .ok (.imul, n)) (hi : am_iok M.2.2.2.1 pc (.imul) n = true) (h : am_i2 st fun x y r => (am_X p l e R cl sl s m args below meth c Q M D cy ad sd A) (pc + 1) lv (.inl (x * y) :: r) σ) : (am_X p l e R cl sl s m args below meth c Q M D cy ad sd A) pc lv st σ := by
  obtain ⟨hx, hb, hml, hown, hts, hr, hlk, ho, hE, hA, hm20, hR1, hR2, hR3, hR4⟩ := C
  intro hlv hst hk H locs ls hP hD hS hl
  obtain rfl := am_iok_n rfl hi
  obtain ⟨x, y, r, rfl, h⟩ := am_i2_of h
  exact lv_imul hx hb hd (h hlv (am_okc trivial (am_okt (am_okt hst))) hk H locs ls hP hD hS hl)
theorem am_1_idiv (C : am_Cx p R cl sl d s m args meth c M D cy sd sv A) {n : Nat} (hd : decode M.2.2.1 pc = .ok (.idiv, n)) (hi : am_iok M.2.2.2.1 pc (.idiv) n = true) (h : am_i2 st fun x y r => ¬ y = 0 ∧ (am_X p l e R cl sl s m args below meth c Q M D cy ad sd A) (pc + 1) lv (.inl (x / y) :: r) σ) : (am_X p l e R cl sl s m args below meth c Q M D cy ad sd A) pc lv st σ := by
  obtain ⟨hx, hb, hml, hown, hts, hr, hlk, ho, hE, hA, hm20, hR1, hR2, hR3, hR4⟩ := C
  intro hlv hst hk H locs ls hP hD hS hl
  obtain rfl := am_iok_n rfl hi
  obtain ⟨x, y, r, rfl, hz, h⟩ := am_i2_of h
  exact lv_idiv hx hb hd hz (h hlv (am_okc trivial (am_okt (am_okt hst))) hk H locs ls hP hD hS hl)
theorem am_1_irem (C : am_Cx p R cl sl d s m args meth c M D cy sd sv A) {n : Nat} (hd : decode M.2.2.1 pc = .ok (.irem, n)) (hi : am_iok M.2.2.2.1 pc (.irem) n = true) (h : am_i2 st fun x y r => ¬ y = 0 ∧ (am_X p l e R cl sl s m args below meth c Q M D cy ad sd A) (pc + 1) lv (.inl (x - x / y * y) :: r) σ) : (am_X p l e R cl sl s m args below meth c Q M D cy ad sd A) pc lv st σ := by
  obtain ⟨hx, hb, hml, hown, hts, hr, hlk, ho, hE, hA, hm20, hR1, hR2, hR3, hR4⟩ := C
  intro hlv hst hk H locs ls hP hD hS hl
  obtain rfl := am_iok_n rfl hi
  obtain ⟨x, y, r, rfl, hz, h⟩ := am_i2_of h
  exact lv_irem hx hb hd hz (h hlv (am_okc trivial (am_okt (am_okt hst))) hk H locs ls hP hD hS hl)
theorem am_1_ishl (C : am_Cx p R cl sl d s m args meth c M D cy sd sv A) {n : Nat} (hd : decode M.2.2.1 pc = .ok (.ishl, n)) (hi : am_iok M.2.2.2.1 pc (.ishl) n = true) (h : am_i2 st fun x y r => (am_X p l e R cl sl s m args below meth c Q M D cy ad sd A) (pc + 1) lv (.inl (x <<< (y &&& 31)) :: r) σ) : (am_X p l e R cl sl s m args below meth c Q M D cy ad sd A) pc lv st σ := by
  obtain ⟨hx, hb, hml, hown, hts, hr, hlk, ho, hE, hA, hm20, hR1, hR2, hR3, hR4⟩ := C
  intro hlv hst hk H locs ls hP hD hS hl
  obtain rfl := am_iok_n rfl hi
  obtain ⟨x, y, r, rfl, h⟩ := am_i2_of h
  exact lv_ishl hx hb hd (h hlv (am_okc trivial (am_okt (am_okt hst))) hk H locs ls hP hD hS hl)
theorem am_1_ishr (C : am_Cx p R cl sl d s m args meth c M D cy sd sv A) {n : Nat} (hd : decode M.2.2.1 pc = .ok (.ishr, n)) (hi : am_iok M.2.2.2.1 pc (.ishr) n = true) (h : am_i2 st fun x y r => (am_X p l e R cl sl s m args below meth c Q M D cy ad sd A) (pc + 1) lv (.inl (x >>> (y &&& 31)) :: r) σ) : (am_X p l e R cl sl s m args below meth c Q M D cy ad sd A) pc lv st σ := by
  obtain ⟨hx, hb, hml, hown, hts, hr, hlk, ho, hE, hA, hm20, hR1, hR2, hR3, hR4⟩ := C
  intro hlv hst hk H locs ls hP hD hS hl
  obtain rfl := am_iok_n rfl hi
  obtain ⟨x, y, r, rfl, h⟩ := am_i2_of h
  exact lv_ishr hx hb hd (h hlv (am_okc trivial (am_okt (am_okt hst))) hk H locs ls hP hD hS hl)
theorem am_1_iand (C : am_Cx p R cl sl d s m args meth c M D cy sd sv A) {n : Nat} (hd : decode M.2.2.1 pc = .ok (.iand, n)) (hi : am_iok M.2.2.2.1 pc (.iand) n = true) (h : am_i2 st fun x y r => (am_X p l e R cl sl s m args below meth c Q M D cy ad sd A) (pc + 1) lv (.inl (x &&& y) :: r) σ) : (am_X p l e R cl sl s m args below meth c Q M D cy ad sd A) pc lv st σ := by
  obtain ⟨hx, hb, hml, hown, hts, hr, hlk, ho, hE, hA, hm20, hR1, hR2, hR3, hR4⟩ := C
  intro hlv hst hk H locs ls hP hD hS hl
  obtain rfl := am_iok_n rfl hi
  obtain ⟨x, y, r, rfl, h⟩ := am_i2_of h
  exact lv_iand hx hb hd (h hlv (am_okc trivial (am_okt (am_okt hst))) hk H locs ls hP hD hS hl)
theorem am_1_ior (C : am_Cx p R cl sl d s m args meth c M D cy sd sv A) {n : Nat} (hd : decode M.2.2.1 pc = .ok (.ior, n)) (hi : am_iok M.2.2.2.1 pc (.ior) n = true) (h : am_i2 st fun x y r => (am_X p l e R cl sl s m args below meth c Q M D cy ad sd A) (pc + 1) lv (.inl (x ||| y) :: r) σ) : (am_X p l e R cl sl s m args below meth c Q M D cy ad sd A) pc lv st σ := by
  obtain ⟨hx, hb, hml, hown, hts, hr, hlk, ho, hE, hA, hm20, hR1, hR2, hR3, hR4⟩ := C
  intro hlv hst hk H locs ls hP hD hS hl
  obtain rfl := am_iok_n rfl hi
  obtain ⟨x, y, r, rfl, h⟩ := am_i2_of h
  exact lv_ior hx hb hd (h hlv (am_okc trivial (am_okt (am_okt hst))) hk H locs ls hP hD hS hl)
theorem am_1_ixor (C : am_Cx p R cl sl d s m args meth c M D cy sd sv A) {n : Nat} (hd : decode M.2.2.1 pc = .ok (.ixor, n)) (hi : am_iok M.2.2.2.1 pc (.ixor) n = true) (h : am_i2 st fun x y r => (am_X p l e R cl sl s m args below meth c Q M D cy ad sd A) (pc + 1) lv (.inl (x ^^^ y) :: r) σ) : (am_X p l e R cl sl s m args below meth c Q M D cy ad sd A) pc lv st σ := by
  obtain ⟨hx, hb, hml, hown, hts, hr, hlk, ho, hE, hA, hm20, hR1, hR2, hR3, hR4⟩ := C
  intro hlv hst hk H locs ls hP hD hS hl
  obtain rfl := am_iok_n rfl hi
  obtain ⟨x, y, r, rfl, h⟩ := am_i2_of h
  exact lv_ixor hx hb hd (h hlv (am_okc trivial (am_okt (am_okt hst))) hk H locs ls hP hD hS hl)
theorem am_1_iushr (C : am_Cx p R cl sl d s m args meth c M D cy sd sv A) {n : Nat} (hd : decode M.2.2.1 pc = .ok (.iushr, n)) (hi : am_iok M.2.2.2.1 pc (.iushr) n = true) (h : am_i2 st fun x y r => (am_X p l e R cl sl s m args below meth c Q M D cy ad sd A) (pc + 1) lv (.inl (am_sh32 x y) :: r) σ) : (am_X p l e R cl sl s m args below meth c Q M D cy ad sd A) pc lv st σ := by
  obtain ⟨hx, hb, hml, hown, hts, hr, hlk, ho, hE, hA, hm20, hR1, hR2, hR3, hR4⟩ := C
  intro hlv hst hk H locs ls hP hD hS hl
  obtain rfl := am_iok_n rfl hi
  obtain ⟨x, y, r, rfl, h⟩ := am_i2_of h
  exact lv_iushr hx hb hd rfl (h hlv (am_okc trivial (am_okt (am_okt hst))) hk H locs ls hP hD hS hl)
theorem am_1_ladd (C : am_Cx p R cl sl d s m args meth c M D cy sd sv A) {n : Nat} (hd : decode M.2.2.1 pc = .ok (.ladd, n)) (hi : am_iok M.2.2.2.1 pc (.ladd) n = true) (h : am_l2 st fun x y r => (am_X p l e R cl sl s m args below meth c Q M D cy ad sd A) (pc + 1) lv (.inr (.inl (x + y)) :: r) σ) : (am_X p l e R cl sl s m args below meth c Q M D cy ad sd A) pc lv st σ := by
  obtain ⟨hx, hb, hml, hown, hts, hr, hlk, ho, hE, hA, hm20, hR1, hR2, hR3, hR4⟩ := C
  intro hlv hst hk H locs ls hP hD hS hl
  obtain rfl := am_iok_n rfl hi
  obtain ⟨x, y, r, rfl, h⟩ := am_l2_of h
  exact lv_ladd hx hb hd (h hlv (am_okc trivial (am_okt (am_okt hst))) hk H locs ls hP hD hS hl)
theorem am_1_lsub (C : am_Cx p R cl sl d s m args meth c M D cy sd sv A) {n : Nat} (hd : decode M.2.2.1 pc = .ok (.lsub, n)) (hi : am_iok M.2.2.2.1 pc (.lsub) n = true) (h : am_l2 st fun x y r => (am_X p l e R cl sl s m args below meth c Q M D cy ad sd A) (pc + 1) lv (.inr (.inl (x - y)) :: r) σ) : (am_X p l e R cl sl s m args below meth c Q M D cy ad sd A) pc lv st σ := by
  obtain ⟨hx, hb, hml, hown, hts, hr, hlk, ho, hE, hA, hm20, hR1, hR2, hR3, hR4⟩ := C
  intro hlv hst hk H locs ls hP hD hS hl
  obtain rfl := am_iok_n rfl hi
  obtain ⟨x, y, r, rfl, h⟩ := am_l2_of h
  exact lv_lsub hx hb hd (h hlv (am_okc trivial (am_okt (am_okt hst))) hk H locs ls hP hD hS hl)
theorem am_1_lmul (C : am_Cx p R cl sl d s m args meth c M D cy sd sv A) {n : Nat} (hd : decode M.2.2.1 pc = .ok (.lmul, n)) (hi : am_iok M.2.2.2.1 pc (.lmul) n = true) (h : am_l2 st fun x y r => (am_X p l e R cl sl s m args below meth c Q M D cy ad sd A) (pc + 1) lv (.inr (.inl (x * y)) :: r) σ) : (am_X p l e R cl sl s m args below meth c Q M D cy ad sd A) pc lv st σ := by
  obtain ⟨hx, hb, hml, hown, hts, hr, hlk, ho, hE, hA, hm20, hR1, hR2, hR3, hR4⟩ := C
  intro hlv hst hk H locs ls hP hD hS hl
  obtain rfl := am_iok_n rfl hi
  obtain ⟨x, y, r, rfl, h⟩ := am_l2_of h
  exact lv_lmul hx hb hd (h hlv (am_okc trivial (am_okt (am_okt hst))) hk H locs ls hP hD hS hl)
theorem am_1_ldiv (C : am_Cx p R cl sl d s m args meth c M D cy sd sv A) {n : Nat} (hd : decode M.2.2.1 pc = .ok (.ldiv, n)) (hi : am_iok M.2.2.2.1 pc (.ldiv) n = true) (h : am_l2 st fun x y r => ¬ y = 0 ∧ (am_X p l e R cl sl s m args below meth c Q M D cy ad sd A) (pc + 1) lv (.inr (.inl (x / y)) :: r) σ) : (am_X p l e R cl sl s m args below meth c Q M D cy ad sd A) pc lv st σ := by
  obtain ⟨hx, hb, hml, hown, hts, hr, hlk, ho, hE, hA, hm20, hR1, hR2, hR3, hR4⟩ := C
  intro hlv hst hk H locs ls hP hD hS hl
  obtain rfl := am_iok_n rfl hi
  obtain ⟨x, y, r, rfl, hz, h⟩ := am_l2_of h
  exact lv_ldiv hx hb hd hz (h hlv (am_okc trivial (am_okt (am_okt hst))) hk H locs ls hP hD hS hl)
theorem am_1_lrem (C : am_Cx p R cl sl d s m args meth c M D cy sd sv A) {n : Nat} (hd : decode M.2.2.1 pc = .ok (.lrem, n)) (hi : am_iok M.2.2.2.1 pc (.lrem) n = true) (h : am_l2 st fun x y r => ¬ y = 0 ∧ (am_X p l e R cl sl s m args below meth c Q M D cy ad sd A) (pc + 1) lv (.inr (.inl (x - x / y * y)) :: r) σ) : (am_X p l e R cl sl s m args below meth c Q M D cy ad sd A) pc lv st σ := by
  obtain ⟨hx, hb, hml, hown, hts, hr, hlk, ho, hE, hA, hm20, hR1, hR2, hR3, hR4⟩ := C
  intro hlv hst hk H locs ls hP hD hS hl
  obtain rfl := am_iok_n rfl hi
  obtain ⟨x, y, r, rfl, hz, h⟩ := am_l2_of h
  exact lv_lrem hx hb hd hz (h hlv (am_okc trivial (am_okt (am_okt hst))) hk H locs ls hP hD hS hl)
theorem am_1_land (C : am_Cx p R cl sl d s m args meth c M D cy sd sv A) {n : Nat} (hd : decode M.2.2.1 pc = .ok (.land, n)) (hi : am_iok M.2.2.2.1 pc (.land) n = true) (h : am_l2 st fun x y r => (am_X p l e R cl sl s m args below meth c Q M D cy ad sd A) (pc + 1) lv (.inr (.inl (x &&& y)) :: r) σ) : (am_X p l e R cl sl s m args below meth c Q M D cy ad sd A) pc lv st σ := by
  obtain ⟨hx, hb, hml, hown, hts, hr, hlk, ho, hE, hA, hm20, hR1, hR2, hR3, hR4⟩ := C
  intro hlv hst hk H locs ls hP hD hS hl
  obtain rfl := am_iok_n rfl hi
  obtain ⟨x, y, r, rfl, h⟩ := am_l2_of h
  exact lv_land hx hb hd (h hlv (am_okc trivial (am_okt (am_okt hst))) hk H locs ls hP hD hS hl)
theorem am_1_lor (C : am_Cx p R cl sl d s m args meth c M D cy sd sv A) {n : Nat} (hd : decode M.2.2.1 pc = .ok (.lor, n)) (hi : am_iok M.2.2.2.1 pc (.lor) n = true) (h : am_l2 st fun x y r => (am_X p l e R cl sl s m args below meth c Q M D cy ad sd A) (pc + 1) lv (.inr (.inl (x ||| y)) :: r) σ) : (am_X p l e R cl sl s m args below meth c Q M D cy ad sd A) pc lv st σ := by
  obtain ⟨hx, hb, hml, hown, hts, hr, hlk, ho, hE, hA, hm20, hR1, hR2, hR3, hR4⟩ := C
  intro hlv hst hk H locs ls hP hD hS hl
  obtain rfl := am_iok_n rfl hi
  obtain ⟨x, y, r, rfl, h⟩ := am_l2_of h
  exact lv_lor hx hb hd (h hlv (am_okc trivial (am_okt (am_okt hst))) hk H locs ls hP hD hS hl)
theorem am_1_lshl (C : am_Cx p R cl sl d s m args meth c M D cy sd sv A) {n : Nat} (hd : decode M.2.2.1 pc = .ok (.lshl, n)) (hi : am_iok M.2.2.2.1 pc (.lshl) n = true) (h : am_i1 st fun y r => am_l1 r fun x r => (am_X p l e R cl sl s m args below meth c Q M D cy ad sd A) (pc + 1) lv (.inr (.inl (x <<< (y.toInt64 &&& 63))) :: r) σ) : (am_X p l e R cl sl s m args below meth c Q M D cy ad sd A) pc lv st σ := by
  obtain ⟨hx, hb, hml, hown, hts, hr, hlk, ho, hE, hA, hm20, hR1, hR2, hR3, hR4⟩ := C
  intro hlv hst hk H locs ls hP hD hS hl
  obtain rfl := am_iok_n rfl hi
  obtain ⟨y, r1, rfl, h⟩ := am_i1_of h
  obtain ⟨x, r, rfl, h⟩ := am_l1_of h
  exact lv_lshl hx hb hd rfl (h hlv (am_okc trivial (am_okt (am_okt hst))) hk H locs ls hP hD hS hl)
theorem am_1_lshr (C : am_Cx p R cl sl d s m args meth c M D cy sd sv A) {n : Nat} (hd : decode M.2.2.1 pc = .ok (.lshr, n)) (hi : am_iok M.2.2.2.1 pc (.lshr) n = true) (h : am_i1 st fun y r => am_l1 r fun x r => (am_X p l e R cl sl s m args below meth c Q M D cy ad sd A) (pc + 1) lv (.inr (.inl (x >>> (y.toInt64 &&& 63))) :: r) σ) : (am_X p l e R cl sl s m args below meth c Q M D cy ad sd A) pc lv st σ := by
  obtain ⟨hx, hb, hml, hown, hts, hr, hlk, ho, hE, hA, hm20, hR1, hR2, hR3, hR4⟩ := C
  intro hlv hst hk H locs ls hP hD hS hl
  obtain rfl := am_iok_n rfl hi
  obtain ⟨y, r1, rfl, h⟩ := am_i1_of h
  obtain ⟨x, r, rfl, h⟩ := am_l1_of h
  exact lv_lshr hx hb hd rfl (h hlv (am_okc trivial (am_okt (am_okt hst))) hk H locs ls hP hD hS hl)
theorem am_1_i2l (C : am_Cx p R cl sl d s m args meth c M D cy sd sv A) {n : Nat} (hd : decode M.2.2.1 pc = .ok (.i2l, n)) (hi : am_iok M.2.2.2.1 pc (.i2l) n = true) (h : am_i1 st fun x r => (am_X p l e R cl sl s m args below meth c Q M D cy ad sd A) (pc + 1) lv (.inr (.inl x.toInt64) :: r) σ) : (am_X p l e R cl sl s m args below meth c Q M D cy ad sd A) pc lv st σ := by
  obtain ⟨hx, hb, hml, hown, hts, hr, hlk, ho, hE, hA, hm20, hR1, hR2, hR3, hR4⟩ := C
  intro hlv hst hk H locs ls hP hD hS hl
  obtain rfl := am_iok_n rfl hi
  obtain ⟨x, r, rfl, h⟩ := am_i1_of h
  exact lv_i2l hx hb hd rfl (h hlv (am_okc trivial (am_okt hst)) hk H locs ls hP hD hS hl)
theorem am_1_l2i (C : am_Cx p R cl sl d s m args meth c M D cy sd sv A) {n : Nat} (hd : decode M.2.2.1 pc = .ok (.l2i, n)) (hi : am_iok M.2.2.2.1 pc (.l2i) n = true) (h : am_l1 st fun x r => (am_X p l e R cl sl s m args below meth c Q M D cy ad sd A) (pc + 1) lv (.inl x.toInt32 :: r) σ) : (am_X p l e R cl sl s m args below meth c Q M D cy ad sd A) pc lv st σ := by
  obtain ⟨hx, hb, hml, hown, hts, hr, hlk, ho, hE, hA, hm20, hR1, hR2, hR3, hR4⟩ := C
  intro hlv hst hk H locs ls hP hD hS hl
  obtain rfl := am_iok_n rfl hi
  obtain ⟨x, r, rfl, h⟩ := am_l1_of h
  exact lv_l2i hx hb hd rfl (h hlv (am_okc trivial (am_okt hst)) hk H locs ls hP hD hS hl)
theorem am_1_i2b (C : am_Cx p R cl sl d s m args meth c M D cy sd sv A) {n : Nat} (hd : decode M.2.2.1 pc = .ok (.i2b, n)) (hi : am_iok M.2.2.2.1 pc (.i2b) n = true) (h : am_i1 st fun x r => (am_X p l e R cl sl s m args below meth c Q M D cy ad sd A) (pc + 1) lv (.inl x.toInt8.toInt32 :: r) σ) : (am_X p l e R cl sl s m args below meth c Q M D cy ad sd A) pc lv st σ := by
  obtain ⟨hx, hb, hml, hown, hts, hr, hlk, ho, hE, hA, hm20, hR1, hR2, hR3, hR4⟩ := C
  intro hlv hst hk H locs ls hP hD hS hl
  obtain rfl := am_iok_n rfl hi
  obtain ⟨x, r, rfl, h⟩ := am_i1_of h
  exact lv_i2b hx hb hd rfl (h hlv (am_okc trivial (am_okt hst)) hk H locs ls hP hD hS hl)
theorem am_1_i2s (C : am_Cx p R cl sl d s m args meth c M D cy sd sv A) {n : Nat} (hd : decode M.2.2.1 pc = .ok (.i2s, n)) (hi : am_iok M.2.2.2.1 pc (.i2s) n = true) (h : am_i1 st fun x r => (am_X p l e R cl sl s m args below meth c Q M D cy ad sd A) (pc + 1) lv (.inl x.toInt16.toInt32 :: r) σ) : (am_X p l e R cl sl s m args below meth c Q M D cy ad sd A) pc lv st σ := by
  obtain ⟨hx, hb, hml, hown, hts, hr, hlk, ho, hE, hA, hm20, hR1, hR2, hR3, hR4⟩ := C
  intro hlv hst hk H locs ls hP hD hS hl
  obtain rfl := am_iok_n rfl hi
  obtain ⟨x, r, rfl, h⟩ := am_i1_of h
  exact lv_i2s hx hb hd rfl (h hlv (am_okc trivial (am_okt hst)) hk H locs ls hP hD hS hl)
theorem am_1_i2c (C : am_Cx p R cl sl d s m args meth c M D cy sd sv A) {n : Nat} (hd : decode M.2.2.1 pc = .ok (.i2c, n)) (hi : am_iok M.2.2.2.1 pc (.i2c) n = true) (h : am_i1 st fun x r => (am_X p l e R cl sl s m args below meth c Q M D cy ad sd A) (pc + 1) lv (.inl (x.toUInt32 % 65536).toInt32 :: r) σ) : (am_X p l e R cl sl s m args below meth c Q M D cy ad sd A) pc lv st σ := by
  obtain ⟨hx, hb, hml, hown, hts, hr, hlk, ho, hE, hA, hm20, hR1, hR2, hR3, hR4⟩ := C
  intro hlv hst hk H locs ls hP hD hS hl
  obtain rfl := am_iok_n rfl hi
  obtain ⟨x, r, rfl, h⟩ := am_i1_of h
  exact lv_i2c hx hb hd rfl (h hlv (am_okc trivial (am_okt hst)) hk H locs ls hP hD hS hl)
theorem am_1_lcmp (C : am_Cx p R cl sl d s m args meth c M D cy sd sv A) {n : Nat} (hd : decode M.2.2.1 pc = .ok (.lcmp, n)) (hi : am_iok M.2.2.2.1 pc (.lcmp) n = true) (h : am_l2 st fun x y r => (am_X p l e R cl sl s m args below meth c Q M D cy ad sd A) (pc + 1) lv (.inl (lg_cmp x y) :: r) σ) : (am_X p l e R cl sl s m args below meth c Q M D cy ad sd A) pc lv st σ := by
  obtain ⟨hx, hb, hml, hown, hts, hr, hlk, ho, hE, hA, hm20, hR1, hR2, hR3, hR4⟩ := C
  intro hlv hst hk H locs ls hP hD hS hl
  obtain rfl := am_iok_n rfl hi
  obtain ⟨x, y, r, rfl, h⟩ := am_l2_of h
  exact W.lcmp hx hb hd (h hlv (am_okc trivial (am_okt (am_okt hst))) hk H locs ls hP hD hS hl)
theorem am_1_pop (C : am_Cx p R cl sl d s m args meth c M D cy sd sv A) {n : Nat} (hd : decode M.2.2.1 pc = .ok (.pop, n)) (hi : am_iok M.2.2.2.1 pc (.pop) n = true) (h : am_i1 st fun _ r => (am_X p l e R cl sl s m args below meth c Q M D cy ad sd A) (pc + 1) lv r σ) : (am_X p l e R cl sl s m args below meth c Q M D cy ad sd A) pc lv st σ := by
  obtain ⟨hx, hb, hml, hown, hts, hr, hlk, ho, hE, hA, hm20, hR1, hR2, hR3, hR4⟩ := C
  intro hlv hst hk H locs ls hP hD hS hl
  obtain rfl := am_iok_n rfl hi
  obtain ⟨x, r, rfl, h⟩ := am_i1_of h
  exact lv_pop hx hb hd rfl (h hlv (am_okt hst) hk H locs ls hP hD hS hl)
theorem am_1_if_eq (C : am_Cx p R cl sl d s m args meth c M D cy sd sv A) {n : Nat} {off : Int} (hd : decode M.2.2.1 pc = .ok (.ifCond .eq off, n)) (hi : am_iok M.2.2.2.1 pc (.ifCond .eq off) n = true) (h : am_i1 st fun x r => am_cz .eq x ((am_X p l e R cl sl s m args below meth c Q M D cy ad sd A) (am_tg pc off) lv r σ) ((am_X p l e R cl sl s m args below meth c Q M D cy ad sd A) (pc + 3) lv r σ)) : (am_X p l e R cl sl s m args below meth c Q M D cy ad sd A) pc lv st σ := by
  obtain ⟨hx, hb, hml, hown, hts, hr, hlk, ho, hE, hA, hm20, hR1, hR2, hR3, hR4⟩ := C
  intro hlv hst hk H locs ls hP hD hS hl
  obtain rfl := am_iok_n rfl hi
  have h1 := am_iok_x hi
  simp only [am_ix, decide_eq_true_eq] at h1
  obtain ⟨x, r, rfl, h⟩ := am_i1_of h
  exact lv_if_eq hx hb hd (am_tg_eq h1) (fun z => h.1 z hlv (am_okt hst) hk H locs ls hP hD hS hl) (fun z => h.2 z hlv (am_okt hst) hk H locs ls hP hD hS hl)
theorem am_1_icmp_eq (C : am_Cx p R cl sl d s m args meth c M D cy sd sv A) {n : Nat} {off : Int} (hd : decode M.2.2.1 pc = .ok (.if_icmp .eq off, n)) (hi : am_iok M.2.2.2.1 pc (.if_icmp .eq off) n = true) (h : am_i2 st fun x y r => am_cc .eq x y ((am_X p l e R cl sl s m args below meth c Q M D cy ad sd A) (am_tg pc off) lv r σ) ((am_X p l e R cl sl s m args below meth c Q M D cy ad sd A) (pc + 3) lv r σ)) : (am_X p l e R cl sl s m args below meth c Q M D cy ad sd A) pc lv st σ := by
  obtain ⟨hx, hb, hml, hown, hts, hr, hlk, ho, hE, hA, hm20, hR1, hR2, hR3, hR4⟩ := C
  intro hlv hst hk H locs ls hP hD hS hl
  obtain rfl := am_iok_n rfl hi
  have h1 := am_iok_x hi
  simp only [am_ix, decide_eq_true_eq] at h1
  obtain ⟨x, y, r, rfl, h⟩ := am_i2_of h
  exact lv_icmp_eq hx hb hd (am_tg_eq h1) (fun z => h.1 z hlv (am_okt (am_okt hst)) hk H locs ls hP hD hS hl) (fun z => h.2 z hlv (am_okt (am_okt hst)) hk H locs ls hP hD hS hl)
theorem am_1_if_ne (C : am_Cx p R cl sl d s m args meth c M D cy sd sv A) {n : Nat} {off : Int} (hd : decode M.2.2.1 pc = .ok (.ifCond .ne off, n)) (hi : am_iok M.2.2.2.1 pc (.ifCond .ne off) n = true) (h : am_i1 st fun x r => am_cz .ne x ((am_X p l e R cl sl s m args below meth c Q M D cy ad sd A) (am_tg pc off) lv r σ) ((am_X p l e R cl sl s m args below meth c Q M D cy ad sd A) (pc + 3) lv r σ)) : (am_X p l e R cl sl s m args below meth c Q M D cy ad sd A) pc lv st σ := by
  obtain ⟨hx, hb, hml, hown, hts, hr, hlk, ho, hE, hA, hm20, hR1, hR2, hR3, hR4⟩ := C
  intro hlv hst hk H locs ls hP hD hS hl
  obtain rfl := am_iok_n rfl hi
  have h1 := am_iok_x hi
  simp only [am_ix, decide_eq_true_eq] at h1
  obtain ⟨x, r, rfl, h⟩ := am_i1_of h
  exact lv_if_ne hx hb hd (am_tg_eq h1) (fun z => h.1 z hlv (am_okt hst) hk H locs ls hP hD hS hl) (fun z => h.2 z hlv (am_okt hst) hk H locs ls hP hD hS hl)
theorem am_1_icmp_ne (C : am_Cx p R cl sl d s m args meth c M D cy sd sv A) {n : Nat} {off : Int} (hd : decode M.2.2.1 pc = .ok (.if_icmp .ne off, n)) (hi : am_iok M.2.2.2.1 pc (.if_icmp .ne off) n = true) (h : am_i2 st fun x y r => am_cc .ne x y ((am_X p l e R cl sl s m args below meth c Q M D cy ad sd A) (am_tg pc off) lv r σ) ((am_X p l e R cl sl s m args below meth c Q M D cy ad sd A) (pc + 3) lv r σ)) : (am_X p l e R cl sl s m args below meth c Q M D cy ad sd A) pc lv st σ := by
  obtain ⟨hx, hb, hml, hown, hts, hr, hlk, ho, hE, hA, hm20, hR1, hR2, hR3, hR4⟩ := C
  intro hlv hst hk H locs ls hP hD hS hl
  obtain rfl := am_iok_n rfl hi
  have h1 := am_iok_x hi
  simp only [am_ix, decide_eq_true_eq] at h1
  obtain ⟨x, y, r, rfl, h⟩ := am_i2_of h
  exact lv_icmp_ne hx hb hd (am_tg_eq h1) (fun z => h.1 z hlv (am_okt (am_okt hst)) hk H locs ls hP hD hS hl) (fun z => h.2 z hlv (am_okt (am_okt hst)) hk H locs ls hP hD hS hl)
theorem am_1_if_lt (C : am_Cx p R cl sl d s m args meth c M D cy sd sv A) {n : Nat} {off : Int} (hd : decode M.2.2.1 pc = .ok (.ifCond .lt off, n)) (hi : am_iok M.2.2.2.1 pc (.ifCond .lt off) n = true) (h : am_i1 st fun x r => am_cz .lt x ((am_X p l e R cl sl s m args below meth c Q M D cy ad sd A) (am_tg pc off) lv r σ) ((am_X p l e R cl sl s m args below meth c Q M D cy ad sd A) (pc + 3) lv r σ)) : (am_X p l e R cl sl s m args below meth c Q M D cy ad sd A) pc lv st σ := by
  obtain ⟨hx, hb, hml, hown, hts, hr, hlk, ho, hE, hA, hm20, hR1, hR2, hR3, hR4⟩ := C
  intro hlv hst hk H locs ls hP hD hS hl
  obtain rfl := am_iok_n rfl hi
  have h1 := am_iok_x hi
  simp only [am_ix, decide_eq_true_eq] at h1
  obtain ⟨x, r, rfl, h⟩ := am_i1_of h
  exact lv_if_lt hx hb hd (am_tg_eq h1) (fun z => h.1 z hlv (am_okt hst) hk H locs ls hP hD hS hl) (fun z => h.2 z hlv (am_okt hst) hk H locs ls hP hD hS hl)
theorem am_1_icmp_lt (C : am_Cx p R cl sl d s m args meth c M D cy sd sv A) {n : Nat} {off : Int} (hd : decode M.2.2.1 pc = .ok (.if_icmp .lt off, n)) (hi : am_iok M.2.2.2.1 pc (.if_icmp .lt off) n = true) (h : am_i2 st fun x y r => am_cc .lt x y ((am_X p l e R cl sl s m args below meth c Q M D cy ad sd A) (am_tg pc off) lv r σ) ((am_X p l e R cl sl s m args below meth c Q M D cy ad sd A) (pc + 3) lv r σ)) : (am_X p l e R cl sl s m args below meth c Q M D cy ad sd A) pc lv st σ := by
  obtain ⟨hx, hb, hml, hown, hts, hr, hlk, ho, hE, hA, hm20, hR1, hR2, hR3, hR4⟩ := C
  intro hlv hst hk H locs ls hP hD hS hl
  obtain rfl := am_iok_n rfl hi
  have h1 := am_iok_x hi
  simp only [am_ix, decide_eq_true_eq] at h1
  obtain ⟨x, y, r, rfl, h⟩ := am_i2_of h
  exact lv_icmp_lt hx hb hd (am_tg_eq h1) (fun z => h.1 z hlv (am_okt (am_okt hst)) hk H locs ls hP hD hS hl) (fun z => h.2 z hlv (am_okt (am_okt hst)) hk H locs ls hP hD hS hl)
theorem am_1_if_ge (C : am_Cx p R cl sl d s m args meth c M D cy sd sv A) {n : Nat} {off : Int} (hd : decode M.2.2.1 pc = .ok (.ifCond .ge off, n)) (hi : am_iok M.2.2.2.1 pc (.ifCond .ge off) n = true) (h : am_i1 st fun x r => am_cz .ge x ((am_X p l e R cl sl s m args below meth c Q M D cy ad sd A) (am_tg pc off) lv r σ) ((am_X p l e R cl sl s m args below meth c Q M D cy ad sd A) (pc + 3) lv r σ)) : (am_X p l e R cl sl s m args below meth c Q M D cy ad sd A) pc lv st σ := by
  obtain ⟨hx, hb, hml, hown, hts, hr, hlk, ho, hE, hA, hm20, hR1, hR2, hR3, hR4⟩ := C
  intro hlv hst hk H locs ls hP hD hS hl
  obtain rfl := am_iok_n rfl hi
  have h1 := am_iok_x hi
  simp only [am_ix, decide_eq_true_eq] at h1
  obtain ⟨x, r, rfl, h⟩ := am_i1_of h
  exact lv_if_ge hx hb hd (am_tg_eq h1) (fun z => h.1 z hlv (am_okt hst) hk H locs ls hP hD hS hl) (fun z => h.2 z hlv (am_okt hst) hk H locs ls hP hD hS hl)
theorem am_1_icmp_ge (C : am_Cx p R cl sl d s m args meth c M D cy sd sv A) {n : Nat} {off : Int} (hd : decode M.2.2.1 pc = .ok (.if_icmp .ge off, n)) (hi : am_iok M.2.2.2.1 pc (.if_icmp .ge off) n = true) (h : am_i2 st fun x y r => am_cc .ge x y ((am_X p l e R cl sl s m args below meth c Q M D cy ad sd A) (am_tg pc off) lv r σ) ((am_X p l e R cl sl s m args below meth c Q M D cy ad sd A) (pc + 3) lv r σ)) : (am_X p l e R cl sl s m args below meth c Q M D cy ad sd A) pc lv st σ := by
  obtain ⟨hx, hb, hml, hown, hts, hr, hlk, ho, hE, hA, hm20, hR1, hR2, hR3, hR4⟩ := C
  intro hlv hst hk H locs ls hP hD hS hl
  obtain rfl := am_iok_n rfl hi
  have h1 := am_iok_x hi
  simp only [am_ix, decide_eq_true_eq] at h1
  obtain ⟨x, y, r, rfl, h⟩ := am_i2_of h
  exact lv_icmp_ge hx hb hd (am_tg_eq h1) (fun z => h.1 z hlv (am_okt (am_okt hst)) hk H locs ls hP hD hS hl) (fun z => h.2 z hlv (am_okt (am_okt hst)) hk H locs ls hP hD hS hl)
theorem am_1_if_gt (C : am_Cx p R cl sl d s m args meth c M D cy sd sv A) {n : Nat} {off : Int} (hd : decode M.2.2.1 pc = .ok (.ifCond .gt off, n)) (hi : am_iok M.2.2.2.1 pc (.ifCond .gt off) n = true) (h : am_i1 st fun x r => am_cz .gt x ((am_X p l e R cl sl s m args below meth c Q M D cy ad sd A) (am_tg pc off) lv r σ) ((am_X p l e R cl sl s m args below meth c Q M D cy ad sd A) (pc + 3) lv r σ)) : (am_X p l e R cl sl s m args below meth c Q M D cy ad sd A) pc lv st σ := by
  obtain ⟨hx, hb, hml, hown, hts, hr, hlk, ho, hE, hA, hm20, hR1, hR2, hR3, hR4⟩ := C
  intro hlv hst hk H locs ls hP hD hS hl
  obtain rfl := am_iok_n rfl hi
  have h1 := am_iok_x hi
  simp only [am_ix, decide_eq_true_eq] at h1
  obtain ⟨x, r, rfl, h⟩ := am_i1_of h
  exact lv_if_gt hx hb hd (am_tg_eq h1) (fun z => h.1 z hlv (am_okt hst) hk H locs ls hP hD hS hl) (fun z => h.2 z hlv (am_okt hst) hk H locs ls hP hD hS hl)
theorem am_1_icmp_gt (C : am_Cx p R cl sl d s m args meth c M D cy sd sv A) {n : Nat} {off : Int} (hd : decode M.2.2.1 pc = .ok (.if_icmp .gt off, n)) (hi : am_iok M.2.2.2.1 pc (.if_icmp .gt off) n = true) (h : am_i2 st fun x y r => am_cc .gt x y ((am_X p l e R cl sl s m args below meth c Q M D cy ad sd A) (am_tg pc off) lv r σ) ((am_X p l e R cl sl s m args below meth c Q M D cy ad sd A) (pc + 3) lv r σ)) : (am_X p l e R cl sl s m args below meth c Q M D cy ad sd A) pc lv st σ := by
  obtain ⟨hx, hb, hml, hown, hts, hr, hlk, ho, hE, hA, hm20, hR1, hR2, hR3, hR4⟩ := C
  intro hlv hst hk H locs ls hP hD hS hl
  obtain rfl := am_iok_n rfl hi
  have h1 := am_iok_x hi
  simp only [am_ix, decide_eq_true_eq] at h1
  obtain ⟨x, y, r, rfl, h⟩ := am_i2_of h
  exact lv_icmp_gt hx hb hd (am_tg_eq h1) (fun z => h.1 z hlv (am_okt (am_okt hst)) hk H locs ls hP hD hS hl) (fun z => h.2 z hlv (am_okt (am_okt hst)) hk H locs ls hP hD hS hl)
theorem am_1_if_le (C : am_Cx p R cl sl d s m args meth c M D cy sd sv A) {n : Nat} {off : Int} (hd : decode M.2.2.1 pc = .ok (.ifCond .le off, n)) (hi : am_iok M.2.2.2.1 pc (.ifCond .le off) n = true) (h : am_i1 st fun x r => am_cz .le x ((am_X p l e R cl sl s m args below meth c Q M D cy ad sd A) (am_tg pc off) lv r σ) ((am_X p l e R cl sl s m args below meth c Q M D cy ad sd A) (pc + 3) lv r σ)) : (am_X p l e R cl sl s m args below meth c Q M D cy ad sd A) pc lv st σ := by
  obtain ⟨hx, hb, hml, hown, hts, hr, hlk, ho, hE, hA, hm20, hR1, hR2, hR3, hR4⟩ := C
  intro hlv hst hk H locs ls hP hD hS hl
  obtain rfl := am_iok_n rfl hi
  have h1 := am_iok_x hi
  simp only [am_ix, decide_eq_true_eq] at h1
  obtain ⟨x, r, rfl, h⟩ := am_i1_of h
  exact lv_if_le hx hb hd (am_tg_eq h1) (fun z => h.1 z hlv (am_okt hst) hk H locs ls hP hD hS hl) (fun z => h.2 z hlv (am_okt hst) hk H locs ls hP hD hS hl)
theorem am_1_icmp_le (C : am_Cx p R cl sl d s m args meth c M D cy sd sv A) {n : Nat} {off : Int} (hd : decode M.2.2.1 pc = .ok (.if_icmp .le off, n)) (hi : am_iok M.2.2.2.1 pc (.if_icmp .le off) n = true) (h : am_i2 st fun x y r => am_cc .le x y ((am_X p l e R cl sl s m args below meth c Q M D cy ad sd A) (am_tg pc off) lv r σ) ((am_X p l e R cl sl s m args below meth c Q M D cy ad sd A) (pc + 3) lv r σ)) : (am_X p l e R cl sl s m args below meth c Q M D cy ad sd A) pc lv st σ := by
  obtain ⟨hx, hb, hml, hown, hts, hr, hlk, ho, hE, hA, hm20, hR1, hR2, hR3, hR4⟩ := C
  intro hlv hst hk H locs ls hP hD hS hl
  obtain rfl := am_iok_n rfl hi
  have h1 := am_iok_x hi
  simp only [am_ix, decide_eq_true_eq] at h1
  obtain ⟨x, y, r, rfl, h⟩ := am_i2_of h
  exact lv_icmp_le hx hb hd (am_tg_eq h1) (fun z => h.1 z hlv (am_okt (am_okt hst)) hk H locs ls hP hD hS hl) (fun z => h.2 z hlv (am_okt (am_okt hst)) hk H locs ls hP hD hS hl)
theorem am_1_goto (C : am_Cx p R cl sl d s m args meth c M D cy sd sv A) {n : Nat} {off : Int} (hd : decode M.2.2.1 pc = .ok (.goto off, n)) (hi : am_iok M.2.2.2.1 pc (.goto off) n = true) (h : (am_X p l e R cl sl s m args below meth c Q M D cy ad sd A) (am_tg pc off) lv st σ) : (am_X p l e R cl sl s m args below meth c Q M D cy ad sd A) pc lv st σ := by
  obtain ⟨hx, hb, hml, hown, hts, hr, hlk, ho, hE, hA, hm20, hR1, hR2, hR3, hR4⟩ := C
  intro hlv hst hk H locs ls hP hD hS hl
  obtain rfl := am_iok_n rfl hi
  have h1 := am_iok_x hi
  simp only [am_ix, decide_eq_true_eq] at h1
  exact lv_goto hx hb hd (am_tg_eq h1) (h hlv hst hk H locs ls hP hD hS hl)
end AMO
