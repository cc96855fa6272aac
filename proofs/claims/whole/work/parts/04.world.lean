/-! THE WORLD of the abstract machine, and what the tables say. -/
def am_T : List Cond := lw_tbl.filter goodWord
def am_has (p : Nat) (w : Cond) : Bool := decide (lw_tbl[p]? = some w) && goodWord w
theorem am_has_in {p : Nat} {w : Cond} (h : am_has p w = true) : w ∈ am_T := by
  simp only [am_has, Bool.and_eq_true, decide_eq_true_eq] at h
  exact List.mem_filter.mpr ⟨List.mem_of_getElem? h.1, h.2⟩
theorem am_T_good : ∀ w ∈ am_T, goodWord w = true := fun _ h => (List.mem_filter.mp h).2
def am_TT : Nat → u_T := fun k => match k with
  | 0 => TX0
  | 1 => TX1
  | 2 => TX2
  | 3 => TX3
  | 4 => TX4
  | 5 => TX5
  | 6 => TX6
  | 7 => TX7
  | 8 => TX8
  | _ => TX9
def am_ty : Nat → Nat → FieldType := fun k => match k with
  | 0 => tyX0
  | 1 => tyX1
  | 2 => tyX2
  | 3 => tyX3
  | 4 => tyX4
  | 5 => tyX5
  | 6 => tyX6
  | 7 => tyX7
  | 8 => tyX8
  | _ => tyX9
def am_nf (ci : Nat) : Nat := (am_ftL.getD ci []).length
theorem am_cls_at : ∀ ci, ci < 10 → am_cls[ci]? = some (am_nm ci, am_TT ci, am_nf ci)
  | 0, _ => rfl
  | 1, _ => rfl
  | 2, _ => rfl
  | 3, _ => rfl
  | 4, _ => rfl
  | 5, _ => rfl
  | 6, _ => rfl
  | 7, _ => rfl
  | 8, _ => rfl
  | 9, _ => rfl
  | n + 10, h => absurd h (by omega)
set_option maxRecDepth 100000 in
theorem am_ws_in : ∀ ci, ci < 10 → ∀ w ∈ u_ws (am_nm ci) (am_TT ci) (am_nf ci), w ∈ lw_tbl ∧ goodWord w = true := by decide +kernel
theorem am_ws_T {ci : Nat} (h : ci < 10) : ∀ w ∈ u_ws (am_nm ci) (am_TT ci) (am_nf ci), w ∈ am_T := fun w hw => List.mem_filter.mpr (am_ws_in ci h w hw)
theorem am_ty_ok : ∀ ci, ci < 10 → ∀ k, k < am_nf ci → parseFieldDescriptor (am_TT ci k).2.2.1 = some (am_ty ci k) := by decide +kernel
theorem am_nm_ok : ∀ ci, ci < 10 → ∀ a, a < am_nf ci → ∀ b, b < am_nf ci → a ≠ b → (am_TT ci a).2.1 ≠ (am_TT ci b).2.1 := by decide +kernel
/-- what a field's number says of it -/
def am_ftok (ci f : Nat) : Bool := match am_ft ci f with
  | (0, _, _) => decide (am_ty ci f = .int) && (am_TT ci f).2.2.2 == false
  | (4, _, _) => decide (am_ty ci f = .boolean) && (am_TT ci f).2.2.2 == false
  | (1, _, _) => decide (am_ty ci f = .long) && (am_TT ci f).2.2.2 == false
  | (2, _, k) => k.1 != 0 && k.1 != 11 && k.1 != 12
  | (3, _, _) => decide (am_ty ci f = .object "MarchFolk$Ways") && (am_TT ci f).2.2.2 == false
  | _ => false
theorem am_ft_ok : ∀ ci, ci < 10 → ∀ f, f < am_nf ci → am_ftok ci f = true := by decide +kernel
/-- the layout: where a cell's own cells lie -/
def am_layf (o : Nat) : Bool := match am_kd o with
  | (t, _, _) => if t ≤ 10 then t != 0 && (List.range (am_nf (t - 1))).all (fun f => match am_ft (t - 1) f with
    | (2, off, k) => decide (o + off < am_n) && decide (am_kd (o + off) = k)
    | _ => true) else true
theorem am_layf_all : (List.range am_n).all am_layf = true := by decide +kernel
theorem am_lay_f {o : Nat} (ho : o < am_n) (h : (am_kd o).1 ≤ 10) : (am_kd o).1 ≠ 0 ∧ ∀ f, f < am_nf ((am_kd o).1 - 1) → (am_ft ((am_kd o).1 - 1) f).1 = 2 → o + (am_ft ((am_kd o).1 - 1) f).2.1 < am_n ∧ am_kd (o + (am_ft ((am_kd o).1 - 1) f).2.1) = (am_ft ((am_kd o).1 - 1) f).2.2 := by
  have h1 := List.all_eq_true.mp am_layf_all o (List.mem_range.mpr ho)
  unfold am_layf at h1
  generalize am_kd o = k at h h1 ⊢
  obtain ⟨t, n, m⟩ := k
  dsimp only at h h1 ⊢
  rw [if_pos h] at h1
  simp only [Bool.and_eq_true, bne_iff_ne, ne_eq, List.all_eq_true, List.mem_range] at h1
  refine ⟨h1.1, fun f hf h2 => ?_⟩
  have h3 := h1.2 f hf
  generalize am_ft (t - 1) f = e at h2 h3 ⊢
  obtain ⟨a, b, c⟩ := e
  dsimp only at h2 h3 ⊢
  subst h2
  simpa using h3
def am_laya (o j : Nat) : Bool := match am_kd o with
  | (24, n, m) => !decide (j < n) || (decide (o + 1 + j < am_n) && decide (am_kd (o + 1 + j) = (21, m, 0)))
  | (25, n, m) => !decide (j < n) || (decide (o + 1 + m * j < am_n) && decide (am_kd (o + 1 + m * j) = (3, 0, 0)))
  | (26, n, m) => !decide (j < n) || (decide (o + 1 + m * j < am_n) && decide (am_kd (o + 1 + m * j) = (6, 0, 0)))
  | _ => true
theorem am_laya_all : (List.range am_n).all (fun o => (List.range 10).all (fun j => am_laya o j)) = true := by decide +kernel
theorem am_lay_a {o j : Nat} (ho : o < am_n) (hj : j < 10) : am_laya o j = true := by
  have h1 := List.all_eq_true.mp am_laya_all o (List.mem_range.mpr ho)
  exact List.all_eq_true.mp h1 j (List.mem_range.mpr hj)
theorem am_lay_n : ∀ o, o < am_n → (20 ≤ (am_kd o).1 → (am_kd o).1 ≤ 26) ∧ ((am_kd o).1 ≤ 10 ∨ 20 ≤ (am_kd o).1) ∧ (24 ≤ (am_kd o).1 → (am_kd o).2.1 ≤ 10) ∧ (am_kd o).2.1 < 2000 := by decide +kernel
/-- the fields' links -/
def am_flok (own : Nat) (e : Nat × (Nat × Nat) × Nat) : Bool := am_has e.2.2 (.fieldLink (am_nm own) e.1 (am_TT e.2.1.1 e.2.1.2).1 (am_TT e.2.1.1 e.2.1.2).2.1 (am_TT e.2.1.1 e.2.1.2).2.2.1) && decide (e.2.1.1 < 10) && decide (e.2.1.2 < am_nf e.2.1.1)
theorem am_fl_all : ∀ own, own < 17 → ∀ e ∈ am_flT own, am_flok own e = true := by decide +kernel
theorem am_fl_ok {own ix ci f : Nat} (ho : own < 17) (h : am_fl own ix = some (ci, f)) : Cond.fieldLink (am_nm own) ix (am_TT ci f).1 (am_TT ci f).2.1 (am_TT ci f).2.2.1 ∈ am_T ∧ ci < 10 ∧ f < am_nf ci := by
  unfold am_fl at h
  cases hf : (am_flT own).find? (fun e => e.1 == ix) with
  | none => rw [hf] at h; cases h
  | some e =>
    rw [hf] at h
    have h1 := am_fl_all own ho e (List.mem_of_find?_eq_some hf)
    have h2 := List.find?_some hf
    simp only [beq_iff_eq] at h2
    have h3 : e.2.1 = (ci, f) := Option.some.inj h
    simp only [am_flok, Bool.and_eq_true, decide_eq_true_eq, h3, h2] at h1
    exact ⟨am_has_in h1.1.1, h1.1.2, h1.2⟩
def am_nw : List Cond := [.methodLinkNest RX7 39 yX8_holds RX8, .methodLinkNest RX6 110 yX8_holds RX8, .methodLinkNest RX3 57 yX8_holds RX8]
def am_mok (m : AM) : Bool := plainName m.2.1.cls && decide (m.2.1.cls ≠ "java/lang/invoke/MethodHandle") && decide (m.2.1.cls ≠ "java/lang/invoke/VarHandle") && decide ((parseMethodDescriptor m.2.1.desc).map (fun d => d.parameters.length) = some m.2.2.2.2.2.1) && decide (m.2.2.2.1 ≤ 20) && decide (m.2.1.cls = am_nm m.1) && decide (m.1 < 16)
def am_mlok (own : Nat) (e : Nat × (Nat × AM) × (Nat × Nat × Nat × Nat)) : Bool := match e with
  | (ix, (mode, m), (p1, p2, p3, p4)) => am_mok m && am_has p3 (.initialized m.2.1.cls) && (match mode with
    | 0 => am_has p1 (.methodLink (am_nm own) ix m.2.1) && am_has p2 (.static m.2.1)
    | 1 => am_has p1 (.methodLink (am_nm own) ix m.2.1) && am_has p2 (.instanceMethod m.2.1) && am_has p4 (.selects m.2.1.cls m.2.1 m.2.1)
    | 2 => decide (Cond.methodLinkNest (am_nm own) ix m.2.1 RX8 ∈ am_nw) && am_has p2 (.static m.2.1)
    | _ => false)
theorem am_ml_0 : ∀ e ∈ am_mlT 0, am_mlok 0 e = true := by decide +kernel
theorem am_ml_1 : ∀ e ∈ am_mlT 1, am_mlok 1 e = true := by decide +kernel
theorem am_ml_2 : ∀ e ∈ am_mlT 2, am_mlok 2 e = true := by decide +kernel
theorem am_ml_3 : ∀ e ∈ am_mlT 3, am_mlok 3 e = true := by decide +kernel
theorem am_ml_4 : ∀ e ∈ am_mlT 4, am_mlok 4 e = true := by decide +kernel
theorem am_ml_5 : ∀ e ∈ am_mlT 5, am_mlok 5 e = true := by decide +kernel
theorem am_ml_6 : ∀ e ∈ am_mlT 6, am_mlok 6 e = true := by decide +kernel
theorem am_ml_7 : ∀ e ∈ am_mlT 7, am_mlok 7 e = true := by decide +kernel
theorem am_ml_8 : ∀ e ∈ am_mlT 8, am_mlok 8 e = true := by decide +kernel
theorem am_ml_9 : ∀ e ∈ am_mlT 9, am_mlok 9 e = true := by decide +kernel
theorem am_ml_10 : ∀ e ∈ am_mlT 10, am_mlok 10 e = true := by decide +kernel
theorem am_ml_11 : ∀ e ∈ am_mlT 11, am_mlok 11 e = true := by decide +kernel
theorem am_ml_12 : ∀ e ∈ am_mlT 12, am_mlok 12 e = true := by decide +kernel
theorem am_ml_13 : ∀ e ∈ am_mlT 13, am_mlok 13 e = true := by decide +kernel
theorem am_ml_14 : ∀ e ∈ am_mlT 14, am_mlok 14 e = true := by decide +kernel
theorem am_ml_15 : ∀ e ∈ am_mlT 15, am_mlok 15 e = true := by decide +kernel
theorem am_td {α : Type} {P : α → Prop} {l : List α} (k : Nat) (h1 : ∀ e ∈ l.take k, P e) (h2 : ∀ e ∈ l.drop k, P e) : ∀ e ∈ l, P e := fun e he => by
  rw [← List.take_append_drop k l] at he
  exact (List.mem_append.mp he).elim (h1 e) (h2 e)
theorem am_ml_16a : ∀ e ∈ (am_mlT 16).take 18, am_mlok 16 e = true := by decide +kernel
theorem am_ml_16b : ∀ e ∈ ((am_mlT 16).drop 18).take 18, am_mlok 16 e = true := by decide +kernel
theorem am_ml_16c : ∀ e ∈ (((am_mlT 16).drop 18).drop 18).take 18, am_mlok 16 e = true := by decide +kernel
theorem am_ml_16d : ∀ e ∈ ((((am_mlT 16).drop 18).drop 18).drop 18).take 18, am_mlok 16 e = true := by decide +kernel
theorem am_ml_16e : ∀ e ∈ (((((am_mlT 16).drop 18).drop 18).drop 18).drop 18).take 18, am_mlok 16 e = true := by decide +kernel
theorem am_ml_16f : ∀ e ∈ ((((((am_mlT 16).drop 18).drop 18).drop 18).drop 18).drop 18).take 18, am_mlok 16 e = true := by decide +kernel
theorem am_ml_16g : ∀ e ∈ (((((((am_mlT 16).drop 18).drop 18).drop 18).drop 18).drop 18).drop 18).take 18, am_mlok 16 e = true := by decide +kernel
theorem am_ml_16h : ∀ e ∈ (((((((am_mlT 16).drop 18).drop 18).drop 18).drop 18).drop 18).drop 18).drop 18, am_mlok 16 e = true := by decide +kernel
theorem am_ml_16 : ∀ e ∈ am_mlT 16, am_mlok 16 e = true := am_td 18 am_ml_16a (am_td 18 am_ml_16b (am_td 18 am_ml_16c (am_td 18 am_ml_16d (am_td 18 am_ml_16e (am_td 18 am_ml_16f (am_td 18 am_ml_16g (am_ml_16h)))))))
theorem am_ml_all : ∀ own, own < 17 → ∀ e ∈ am_mlT own, am_mlok own e = true
  | 0, _ => am_ml_0
  | 1, _ => am_ml_1
  | 2, _ => am_ml_2
  | 3, _ => am_ml_3
  | 4, _ => am_ml_4
  | 5, _ => am_ml_5
  | 6, _ => am_ml_6
  | 7, _ => am_ml_7
  | 8, _ => am_ml_8
  | 9, _ => am_ml_9
  | 10, _ => am_ml_10
  | 11, _ => am_ml_11
  | 12, _ => am_ml_12
  | 13, _ => am_ml_13
  | 14, _ => am_ml_14
  | 15, _ => am_ml_15
  | 16, _ => am_ml_16
  | n + 17, h => absurd h (by omega)
theorem am_ml_ok {own ix mode : Nat} {m : AM} (ho : own < 17) (h : am_ml own ix = some (mode, m)) : ∃ p, am_mlok own (ix, (mode, m), p) = true := by
  unfold am_ml at h
  cases hf : (am_mlT own).find? (fun e => e.1 == ix) with
  | none => rw [hf] at h; cases h
  | some e =>
    rw [hf] at h
    have h1 := am_ml_all own ho e (List.mem_of_find?_eq_some hf)
    have h2 := List.find?_some hf
    simp only [beq_iff_eq] at h2
    have h3 : e.2.1 = (mode, m) := Option.some.inj h
    obtain ⟨a, b, c⟩ := e
    subst h2
    dsimp only at h3
    subst h3
    exact ⟨c, h1⟩
def am_kcok (own : Nat) (e : Nat × Int32 × Nat) : Bool := am_has e.2.2 (.constant (am_nm own) e.1 e.2.1)
theorem am_kc_all : ∀ own, own < 17 → ∀ e ∈ am_kcT own, am_kcok own e = true := by decide +kernel
theorem am_kc_ok {own ix : Nat} {v : Int32} (ho : own < 17) (h : am_kc own ix = some v) : Cond.constant (am_nm own) ix v ∈ am_T := by
  unfold am_kc at h
  cases hf : (am_kcT own).find? (fun e => e.1 == ix) with
  | none => rw [hf] at h; cases h
  | some e =>
    rw [hf] at h
    have h1 := am_kc_all own ho e (List.mem_of_find?_eq_some hf)
    have h2 := List.find?_some hf
    simp only [beq_iff_eq] at h2
    have h3 : e.2.1 = v := Option.some.inj h
    simp only [am_kcok, h3, h2] at h1
    exact am_has_in h1
def am_klok (own : Nat) (e : Nat × Int64 × Nat) : Bool := am_has e.2.2 (.constantLong (am_nm own) e.1 e.2.1)
theorem am_kl_all : ∀ own, own < 17 → ∀ e ∈ am_klT own, am_klok own e = true := by decide +kernel
theorem am_kl_ok {own ix : Nat} {v : Int64} (ho : own < 17) (h : am_kl own ix = some v) : Cond.constantLong (am_nm own) ix v ∈ am_T := by
  unfold am_kl at h
  cases hf : (am_klT own).find? (fun e => e.1 == ix) with
  | none => rw [hf] at h; cases h
  | some e =>
    rw [hf] at h
    have h1 := am_kl_all own ho e (List.mem_of_find?_eq_some hf)
    have h2 := List.find?_some hf
    simp only [beq_iff_eq] at h2
    have h3 : e.2.1 = v := Option.some.inj h
    simp only [am_klok, h3, h2] at h1
    exact am_has_in h1
theorem am_ca_all : ∀ own, own < 17 → ∀ e ∈ am_caT own, am_has e.2 (.methodLink (am_nm own) e.1 arraycopyName) = true := by decide +kernel
theorem am_ca_ok {own ix : Nat} (ho : own < 17) (h : am_ca own ix = true) : Cond.methodLink (am_nm own) ix arraycopyName ∈ am_T := by
  unfold am_ca at h
  cases hf : (am_caT own).find? (fun e => e.1 == ix) with
  | none => rw [hf] at h; cases h
  | some e =>
    have h1 := am_ca_all own ho e (List.mem_of_find?_eq_some hf)
    have h2 := List.find?_some hf
    simp only [beq_iff_eq] at h2
    rw [h2] at h1
    exact am_has_in h1
def am_mxok (own : Nat) (e : Nat × Nat × Nat) : Bool := match e with
  | (ix, 0, p) => am_has p (.methodLink (am_nm own) ix Lib.Math.max.name)
  | (ix, 1, p) => am_has p (.methodLink (am_nm own) ix Lib.Math.min.name)
  | _ => false
theorem am_mx_all : ∀ own, own < 17 → ∀ e ∈ am_mxT own, am_mxok own e = true := by decide +kernel
theorem am_mx_ok {own ix k : Nat} (ho : own < 17) (h : am_mx own ix = some k) : ∃ p, am_mxok own (ix, k, p) = true := by
  unfold am_mx at h
  cases hf : (am_mxT own).find? (fun e => e.1 == ix) with
  | none => rw [hf] at h; cases h
  | some e =>
    rw [hf] at h
    have h1 := am_mx_all own ho e (List.mem_of_find?_eq_some hf)
    have h2 := List.find?_some hf
    simp only [beq_iff_eq] at h2
    have h3 : e.2.1 = k := Option.some.inj h
    obtain ⟨a, b, c⟩ := e
    dsimp only at h2 h3
    subst h2
    subst h3
    exact ⟨c, h1⟩
def am_fsok (own : Nat) (e : Nat × Nat × Nat) : Bool := match e with
  | (ix, 0, p) => decide (own = 10) && am_has p (.fieldLink "java/lang/String" ix "java/lang/String" "coder" "B")
  | (ix, 1, p) => decide (own = 10) && am_has p (.fieldLink "java/lang/String" ix "java/lang/String" "value" "[B")
  | _ => false
theorem am_fs_all : ∀ own, own < 17 → ∀ e ∈ am_fsT own, am_fsok own e = true := by decide +kernel
theorem am_fs_ok {own ix k : Nat} (ho : own < 17) (h : am_fs own ix = some k) : ∃ p, am_fsok own (ix, k, p) = true := by
  unfold am_fs at h
  cases hf : (am_fsT own).find? (fun e => e.1 == ix) with
  | none => rw [hf] at h; cases h
  | some e =>
    rw [hf] at h
    have h1 := am_fs_all own ho e (List.mem_of_find?_eq_some hf)
    have h2 := List.find?_some hf
    simp only [beq_iff_eq] at h2
    have h3 : e.2.1 = k := Option.some.inj h
    obtain ⟨a, b, c⟩ := e
    dsimp only at h2 h3
    subst h2
    subst h3
    exact ⟨c, h1⟩
theorem am_gs_all : ∀ e ∈ am_gsT, am_has e.2 (.fieldLink "java/lang/String" e.1 "java/lang/String" "COMPACT_STRINGS" "Z") = true := by decide +kernel
theorem am_gs_ok {own ix : Nat} (h : am_gs own ix = true) : own = 10 ∧ Cond.fieldLink "java/lang/String" ix "java/lang/String" "COMPACT_STRINGS" "Z" ∈ am_T := by
  simp only [am_gs, Bool.and_eq_true, beq_iff_eq] at h
  refine ⟨h.1, ?_⟩
  have h2 := h.2
  cases hf : am_gsT.find? (fun e => e.1 == ix) with
  | none => rw [hf] at h2; cases h2
  | some e =>
    have h1 := am_gs_all e (List.mem_of_find?_eq_some hf)
    have h3 := List.find?_some hf
    simp only [beq_iff_eq] at h3
    rw [h3] at h1
    exact am_has_in h1
set_option maxRecDepth 100000 in
theorem am_fix : (∀ w ∈ [Cond.native arraycopyName, Cond.static arraycopyName, Cond.initialized "java/lang/System", Cond.static Lib.Math.max.name, Cond.initialized "java/lang/Math", Cond.code Lib.Math.max.name Lib.Math.max.code 2 (some .int), Cond.static Lib.Math.min.name, Cond.code Lib.Math.min.name Lib.Math.min.code 2 (some .int)], w ∈ lw_tbl ∧ goodWord w = true) := by decide +kernel
theorem am_fix_T {w : Cond} (h : w ∈ [Cond.native arraycopyName, Cond.static arraycopyName, Cond.initialized "java/lang/System", Cond.static Lib.Math.max.name, Cond.initialized "java/lang/Math", Cond.code Lib.Math.max.name Lib.Math.max.code 2 (some .int), Cond.static Lib.Math.min.name, Cond.code Lib.Math.min.name Lib.Math.min.code 2 (some .int)]) : w ∈ am_T := List.mem_filter.mpr (am_fix w h)
-- the cells
def am_fv (ad : Nat → Nat) (σ : AS) (i f : Nat) (e : Nat × Nat × AK) : Value := match e.1 with
  | 0 => .int (σ.1 i f)
  | 4 => .int (σ.1 i f)
  | 1 => .long (σ.2 i f)
  | 2 => .ref (ad (i + e.2.1))
  | _ => if (σ.1 i f).toNatClampNeg = 0 then .null else .ref (ad (σ.1 i f).toNatClampNeg)
def am_flds (ad : Nat → Nat) (σ : AS) (i ci : Nat) : List Value := (List.range (am_nf ci)).map fun f => am_fv ad σ i f (am_ft ci f)
def am_cell (cy : Nat → ClassId) (ad : Nat → Nat) (σ : AS) (i : Nat) : va_E :=
  if (am_kd i).1 ≤ 10 then .inr ((am_kd i).1 - 1, am_flds ad σ i ((am_kd i).1 - 1))
  else if (am_kd i).1 = 22 then .inl (cy 22, (am_kd i).2.1, .inr (.inl (σ.2 i)))
  else if (am_kd i).1 ≤ 23 then .inl (cy (am_kd i).1, (am_kd i).2.1, .inl (σ.1 i))
  else .inl (cy (am_kd i).1, (am_kd i).2.1, .inr (.inr (.inr (.inr fun j => some (ad (i + 1 + if (am_kd i).1 = 24 then j else (am_kd i).2.2 * j))))))
def am_w (cy : Nat → ClassId) (ad : Nat → Nat) (σ : AS) : va_W := (List.range am_n).map fun i => (ad i, am_cell cy ad σ i)
theorem am_w_get {cy : Nat → ClassId} {ad : Nat → Nat} {σ : AS} {i : Nat} (h : i < am_n) : (am_w cy ad σ)[i]? = some (ad i, am_cell cy ad σ i) := by
  simp only [am_w, List.getElem?_map, List.getElem?_range h, Option.map_some]
theorem am_map_set {α : Type} {n i : Nat} {g g' : Nat → α} {x : α} (h : i < n) (hx : g' i = x) (hg : ∀ j, j < n → j ≠ i → g' j = g j) : ((List.range n).map g).set i x = (List.range n).map g' := by
  apply List.ext_getElem?
  intro j
  by_cases hj : j < n
  · by_cases e : j = i
    · subst e
      rw [List.getElem?_set_self (by simpa using h)]
      simp [List.getElem?_map, List.getElem?_range hj, hx]
    · rw [List.getElem?_set_ne (Ne.symm e)]
      simp [List.getElem?_map, List.getElem?_range hj, hg j hj e]
  · rw [List.getElem?_eq_none (by simp; omega), List.getElem?_eq_none (by simp; omega)]
theorem am_w_set {cy : Nat → ClassId} {ad : Nat → Nat} {σ σ' : AS} {i : Nat} {x : va_E} (h : i < am_n) (hx : am_cell cy ad σ' i = x) (hg : ∀ j, j < am_n → j ≠ i → am_cell cy ad σ' j = am_cell cy ad σ j) : (am_w cy ad σ).set i (ad i, x) = am_w cy ad σ' :=
  am_map_set h (by rw [hx]) (fun j hj e => by rw [hg j hj e])
theorem am_w_D {cy : Nat → ClassId} {ad : Nat → Nat} {σ σ' : AS} {A : Nat → Prop} (h : va_D A (am_w cy ad σ)) : va_D A (am_w cy ad σ') := by
  have key : ∀ (i : Nat) (q : Nat × va_E), (am_w cy ad σ')[i]? = some q → ∃ q', (am_w cy ad σ)[i]? = some q' ∧ q'.1 = q.1 := by
    intro i q hq
    have hi : i < am_n := by
      have := (List.getElem?_eq_some_iff.mp hq).1
      simpa [am_w] using this
    rw [am_w_get hi] at hq
    cases hq
    exact ⟨_, am_w_get hi, rfl⟩
  refine ⟨fun i j p q hi hj hpq => ?_, fun k q hk => ?_⟩
  · obtain ⟨p', h1, h2⟩ := key i p hi
    obtain ⟨q', h3, h4⟩ := key j q hj
    exact h.1 i j p' q' h1 h3 (h2.trans (hpq.trans h4.symm))
  · obtain ⟨q', h1, h2⟩ := key k q hk
    rw [← h2]
    exact h.2 k q' h1
theorem am_w_A {cy : Nat → ClassId} {ad : Nat → Nat} {σ σ' : AS} {sz q : Nat} (h : va_A (am_w cy ad σ) sz q) : va_A (am_w cy ad σ') sz q := by
  rcases h with ⟨k, e, h⟩ | h
  · have hi : k < am_n := by
      have := (List.getElem?_eq_some_iff.mp h).1
      simpa [am_w] using this
    rw [am_w_get hi] at h
    cases h
    exact Or.inl ⟨k, _, am_w_get hi⟩
  · exact Or.inr h
theorem am_cell_o {cy : Nat → ClassId} {ad : Nat → Nat} {σ : AS} {o ci : Nat} (h : (am_kd o).1 = ci + 1) (hc : ci < 10) : am_cell cy ad σ o = .inr (ci, am_flds ad σ o ci) := by
  unfold am_cell
  rw [if_pos (by omega), show (am_kd o).1 - 1 = ci by omega]
theorem am_cell_j {cy : Nat → ClassId} {ad : Nat → Nat} {σ : AS} {o : Nat} (h : (am_kd o).1 = 22) : am_cell cy ad σ o = .inl (cy 22, (am_kd o).2.1, .inr (.inl (σ.2 o))) := by
  unfold am_cell
  rw [if_neg (by omega), if_pos h]
theorem am_cell_i {cy : Nat → ClassId} {ad : Nat → Nat} {σ : AS} {o t : Nat} (h : (am_kd o).1 = t) (ht : t = 20 ∨ t = 21 ∨ t = 23) : am_cell cy ad σ o = .inl (cy t, (am_kd o).2.1, .inl (σ.1 o)) := by
  unfold am_cell
  rw [if_neg (by omega), if_neg (by omega), if_pos (by omega), h]
theorem am_cell_q {cy : Nat → ClassId} {ad : Nat → Nat} {σ : AS} {o t : Nat} (h : (am_kd o).1 = t) (ht : 24 ≤ t) : am_cell cy ad σ o = .inl (cy t, (am_kd o).2.1, .inr (.inr (.inr (.inr fun j => some (ad (o + 1 + if t = 24 then j else (am_kd o).2.2 * j)))))) := by
  unfold am_cell
  rw [if_neg (by omega), if_neg (by omega), if_neg (by omega), h]
theorem am_cell_eq {cy : Nat → ClassId} {ad : Nat → Nat} {σ σ' : AS} {o : Nat} (h1 : σ'.1 o = σ.1 o) (h2 : σ'.2 o = σ.2 o) : am_cell cy ad σ' o = am_cell cy ad σ o := by
  unfold am_cell am_flds am_fv
  rw [h1, h2]
def am_okr (t : AK) (i : Nat) : Prop := ((t.1 = 28 ∧ i = am_n) ∨ ((t = (11, 0, 0) ∧ i < 16) ∨ (t = (11, 1, 0) ∧ 16 ≤ i ∧ i < 32))) ∨ (t.1 = 12 ∧ (i = 0 ∨ (i < am_n ∧ am_kd i = (8, 0, 0)))) ∨ (t.1 ≠ 0 ∧ t.1 ≠ 11 ∧ t.1 ≠ 12 ∧ i < am_n ∧ am_kd i = t)
def am_okv : AV → Prop
  | .inr (.inr (t, i)) => am_okr t i
  | _ => True
def am_hok (σ : AS) : Prop := ∀ o f, o < am_n → (am_kd o).1 ≤ 10 → (am_ft ((am_kd o).1 - 1) f).1 = 3 → (σ.1 o f).toNatClampNeg = 0 ∨ ((σ.1 o f).toNatClampNeg < am_n ∧ am_kd (σ.1 o f).toNatClampNeg = (8, 0, 0))
theorem ac_v_r {ad sd : Nat → Nat} {t : AK} {i : Nat} (h0 : t.1 ≠ 0) (h1 : t.1 ≠ 11) (h2 : t.1 ≠ 12) : ac_v ad sd (.inr (.inr (t, i))) = .ref (ad i) := by
  simp only [ac_v, if_neg h0, if_neg h1, if_neg h2]
def am_tys (cy : Nat → ClassId) : List (ClassId × FieldType) := [(cy 20, .byte), (cy 21, .int), (cy 22, .long), (cy 23, .boolean), (cy 24, .array .int), (cy 25, .object RX2), (cy 26, .object RX5)]
