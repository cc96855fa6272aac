/-! ONE STEP: calls, answers; the whole step. -/
theorem am_rcb_11 {t : AK} {m : AM} (h : t.1 = 11) (hb : am_rcb t m = true) : m.1 = 10 ∧ t.2.1 = 0 := by
  unfold am_rcb at hb
  rw [h] at hb
  simpa using hb
theorem am_rcb_12 {t : AK} {m : AM} (h : t.1 = 12) (hb : am_rcb t m = true) : 8 = m.1 + 1 ∧ m.1 < 10 := by
  unfold am_rcb at hb
  rw [h] at hb
  have : m.1 = 7 := by simpa using hb
  omega
theorem am_rcb_o {t : AK} {m : AM} (h1 : t.1 ≠ 11) (h2 : t.1 ≠ 12) (hb : am_rcb t m = true) : t.1 = m.1 + 1 ∧ m.1 < 10 := by
  unfold am_rcb at hb
  split at hb
  · rename_i e; exact absurd e h1
  · rename_i e; exact absurd e h2
  · simpa using hb
theorem am_rk_ne {t : AK} (h : t.1 ≠ 12) : am_rk t = t := by
  unfold am_rk
  split
  · rename_i e; exact absurd e h
  · rfl
theorem am_rk_12 {t : AK} (h : t.1 = 12) : am_rk t = (8, 0, 0) := by
  unfold am_rk
  split
  · rfl
  · rename_i e; exact absurd h e
theorem am_map_rev {ad sd : Nat → Nat} {cs r : List AV} : (cs.reverse ++ r).map (ac_v ad sd) = (cs.map (ac_v ad sd)).reverse ++ r.map (ac_v ad sd) := by simp
theorem am_cat_sum {ad sd : Nat → Nat} (r : List AV) : ((r.map (ac_v ad sd)).map fun v => v.category).sum = (r.map am_cat).sum := by
  congr 1
  simp [List.map_map, Function.comp, ac_cat]
section AMC
variable {p : Program} {l : Launch} {e : Env} {R : Room} {s : State} {m : MethodId} {args : Array Value} {below : List Frame} {meth : Method} {c : Code} {H : Heap} {locs : List Loc} {Q : State → Prop}
variable {D : va_G} {cy : Nat → ClassId} {ad sd sv : Nat → Nat} {A : Nat → Prop} {M : AM} {pc : Nat} {ls : Array Slot} {lv : AL} {st : List AV} {σ : AS} {d cl sl : Nat}

theorem am_1_callS (C : am_Cx p R cl sl d s m args meth c M D cy sd sv A) {n : Nat} {k : Nat} {P : AP} (hPc : ∀ m as σ σ' v, P m as σ σ' v → am_Ct l d m as σ σ' v) {m9 : AM} {as r : List AV} (hml9 : am_ml M.1 k = some (0, m9)) (hpop : am_pop m9.2.2.2.2.2.1 [] st = some (as, r)) (hcat : Nat.ble (r.map am_cat).sum 8 = true) (hd : decode M.2.2.1 pc = .ok (.invokestatic k, n)) (hi : am_iok M.2.2.2.1 pc (.invokestatic k) n = true) (h : am_cl1 P m9 as σ fun v σ' => (am_X p l e R cl sl s m args below meth c Q M D cy ad sd A) (pc + 3) lv (v.toList ++ r) σ') : (am_X p l e R cl sl s m args below meth c Q M D cy ad sd A) pc lv st σ := by
  obtain ⟨hx, hb, hml, hown, hts, hr, hlk, ho, hE, hA, hm20, hR1, hR2, hR3, hR4⟩ := C
  intro hlv hst hk H locs ls hP hD hS hl
  obtain rfl := am_iok_n rfl hi
  obtain ⟨σ1, v, hPm, h⟩ := h
  obtain ⟨hcw, hM⟩ := hPc _ _ _ _ _ hPm
  obtain ⟨cs, hbs, hst2, hlen⟩ := am_pop_of hpop
  rw [List.append_nil] at hbs
  subst hbs
  subst hst2
  obtain ⟨p9, hok9⟩ := am_ml_ok ho hml9
  obtain ⟨p1, p2, p3, p4⟩ := p9
  simp only [am_mlok, am_mok, Bool.and_eq_true, decide_eq_true_eq] at hok9
  obtain ⟨⟨⟨⟨⟨⟨⟨⟨z1, z2⟩, z3⟩, z4⟩, z5⟩, z6⟩, z7⟩, y1⟩, y2⟩ := hok9
  have hokcs : ∀ x ∈ as, am_okv x := fun x hx => hst x (by simp [hx])
  have hokr : ∀ x ∈ r, am_okv x := fun x hx => hst x (by simp [hx])
  obtain ⟨w1, w2⟩ := am_pre (as := as) hE hP hD hS hA
  rw [am_map_rev]
  have hS2 : CallFix p m c M.2.2.1 M.2.2.2.1 s args (am_T) (am_nm M.1) := ⟨hx, hb, hml, hown, hts⟩
  refine am_go (va_runS hS2 (hM D cy ad sd sv H.size hokcs hk) (va_cwS m9.2.2.2.2.2.1 hts (ws' := am_T) (fun w hw => ?_) rfl rfl rfl ⟨z2, z3, z4⟩ ⟨hR1, ?_⟩) ⟨w1, w2⟩ rfl (by simp [hlen]) hl.1 rfl ?_ hd ⟨hR3, hR4⟩) hS (am_sub hD hS hA) (fun H1 locs1 g1 g2 g3 g4 => ?_)
  · have : w ∈ am_T := by
      simp only [va_wsS, List.cons_append, List.nil_append, List.mem_cons] at hw
      rcases hw with rfl | rfl | rfl | hw
      · exact am_has_in y2.1
      · exact am_has_in y2.2
      · exact am_has_in y1
      · rcases List.mem_cons.mp hw with rfl | hw
        · exact hcw
        · exact hw
    exact ⟨this, good_of_word (am_T_good w this)⟩
  · show 8 + (m9.2.2.2.1 + 11) + 60 * d ≤ R.locals
    omega
  · rw [am_cat_sum]
    have := Nat.le_of_ble_eq_true hcat
    show 2 * 0 + _ ≤ 8
    omega
  · have e9 : ((v.map (ac_v ad sd)).toList ++ r.map (ac_v ad sd)) = (v.toList ++ r).map (ac_v ad sd) := by cases v <;> rfl
    rw [e9]
    exact h hlv (fun x hx => by
      rcases List.mem_append.mp hx with hx | hx
      · exact g2 x (by cases v with
          | none => simp at hx
          | some y => simp at hx; rw [hx])
      · exact hokr x hx) g1 H1 locs1 ls g3 (am_w_D hD) g4 hl
theorem am_1_callSN (C : am_Cx p R cl sl d s m args meth c M D cy sd sv A) {n : Nat} {k : Nat} {P : AP} (hPc : ∀ m as σ σ' v, P m as σ σ' v → am_Ct l d m as σ σ' v) {m9 : AM} {as r : List AV} (hml9 : am_ml M.1 k = some (2, m9)) (hpop : am_pop m9.2.2.2.2.2.1 [] st = some (as, r)) (hcat : Nat.ble (r.map am_cat).sum 8 = true) (hd : decode M.2.2.1 pc = .ok (.invokestatic k, n)) (hi : am_iok M.2.2.2.1 pc (.invokestatic k) n = true) (h : am_cl1 P m9 as σ fun v σ' => (am_X p l e R cl sl s m args below meth c Q M D cy ad sd A) (pc + 3) lv (v.toList ++ r) σ') : (am_X p l e R cl sl s m args below meth c Q M D cy ad sd A) pc lv st σ := by
  obtain ⟨hx, hb, hml, hown, hts, hr, hlk, ho, hE, hA, hm20, hR1, hR2, hR3, hR4⟩ := C
  intro hlv hst hk H locs ls hP hD hS hl
  obtain rfl := am_iok_n rfl hi
  obtain ⟨σ1, v, hPm, h⟩ := h
  obtain ⟨hcw, hM⟩ := hPc _ _ _ _ _ hPm
  obtain ⟨cs, hbs, hst2, hlen⟩ := am_pop_of hpop
  rw [List.append_nil] at hbs
  subst hbs
  subst hst2
  obtain ⟨p9, hok9⟩ := am_ml_ok ho hml9
  obtain ⟨p1, p2, p3, p4⟩ := p9
  simp only [am_mlok, am_mok, Bool.and_eq_true, decide_eq_true_eq] at hok9
  obtain ⟨⟨⟨⟨⟨⟨⟨⟨z1, z2⟩, z3⟩, z4⟩, z5⟩, z6⟩, z7⟩, y1⟩, y2⟩ := hok9
  have hokcs : ∀ x ∈ as, am_okv x := fun x hx => hst x (by simp [hx])
  have hokr : ∀ x ∈ r, am_okv x := fun x hx => hst x (by simp [hx])
  obtain ⟨w1, w2⟩ := am_pre (as := as) hE hP hD hS hA
  rw [am_map_rev]
  have hS2 : CallFix p m c M.2.2.1 M.2.2.2.1 s args (am_T) (am_nm M.1) := ⟨hx, hb, hml, hown, hts⟩
  have hcodeT : Cond.code m9.2.1 m9.2.2.1 m9.2.2.2.1 m9.2.2.2.2.1 ∈ am_T := hcw
  have hG : GoodIn am_T (am_ws m9) := fun w hw => by
    have : w ∈ am_T := by
      rcases List.mem_cons.mp hw with rfl | hw
      · exact hcw
      · exact hw
    exact ⟨this, good_of_word (am_T_good w this)⟩
  refine am_go (va_runSN (host := RX8) hS2 (hM D cy ad sd sv H.size hokcs hk) ⟨va_cnB m9.2.2.2.2.2.1 hts hG rfl rfl rfl (hE.2.1 _ y2.1) (hts _ (am_has_in y1)) ⟨z2, z3, z4⟩ ⟨hR1, ?_⟩, hts _ (am_has_in y2.2), trivial⟩ ⟨w1, w2⟩ rfl (by simp [hlen]) hl.1 rfl ?_ hd ⟨hR3, hR4⟩) hS (am_sub hD hS hA) (fun H1 locs1 g1 g2 g3 g4 => ?_)
  · show 8 + (m9.2.2.2.1 + 11) + 60 * d ≤ R.locals
    omega
  · rw [am_cat_sum]
    have := Nat.le_of_ble_eq_true hcat
    show 2 * 0 + _ ≤ 8
    omega
  · have e9 : ((v.map (ac_v ad sd)).toList ++ r.map (ac_v ad sd)) = (v.toList ++ r).map (ac_v ad sd) := by cases v <;> rfl
    rw [e9]
    exact h hlv (fun x hx => by
      rcases List.mem_append.mp hx with hx | hx
      · exact g2 x (by cases v with
          | none => simp at hx
          | some y => simp at hx; rw [hx])
      · exact hokr x hx) g1 H1 locs1 ls g3 (am_w_D hD) g4 hl
theorem am_1_callV (C : am_Cx p R cl sl d s m args meth c M D cy sd sv A) {n : Nat} {k : Nat} {P : AP} (hPc : ∀ m as σ σ' v, P m as σ σ' v → am_Ct l d m as σ σ' v) {m9 : AM} {as r : List AV} {t : AK} {o : Nat} (hml9 : am_ml M.1 k = some (1, m9)) (hpop : am_pop m9.2.2.2.2.2.1 [] st = some (as, .inr (.inr (t, o)) :: r)) (hcat : Nat.ble (r.map am_cat).sum 8 = true) (hrc : am_rcb t m9 = true) (hd : decode M.2.2.1 pc = .ok (.invokevirtual k, n)) (hi : am_iok M.2.2.2.1 pc (.invokevirtual k) n = true) (h : am_nn t o (am_cl1 P m9 (.inr (.inr (am_rk t, o)) :: as) σ fun v σ' => (am_X p l e R cl sl s m args below meth c Q M D cy ad sd A) (pc + 3) lv (v.toList ++ r) σ')) : (am_X p l e R cl sl s m args below meth c Q M D cy ad sd A) pc lv st σ := by
  obtain ⟨hx, hb, hml, hown, hts, hr, hlk, ho, hE, hA, hm20, hR1, hR2, hR3, hR4⟩ := C
  intro hlv hst hk H locs ls hP hD hS hl
  obtain rfl := am_iok_n rfl hi
  obtain ⟨cs, hbs, hst2, hlen⟩ := am_pop_of hpop
  rw [List.append_nil] at hbs
  subst hbs
  subst hst2
  have hokcs : ∀ x ∈ as, am_okv x := fun x hx => hst x (by simp [hx])
  have hokr : ∀ x ∈ r, am_okv x := fun x hx => hst x (by simp [hx])
  have hov : am_okr t o := hst (.inr (.inr (t, o))) (by simp)
  obtain ⟨h, hnn⟩ := am_nn_of h hov ad sd
  obtain ⟨σ1, v, hPm, h⟩ := h
  obtain ⟨hcw, hM⟩ := hPc _ _ _ _ _ hPm
  obtain ⟨p9, hok9⟩ := am_ml_ok ho hml9
  obtain ⟨p1, p2, p3, p4⟩ := p9
  simp only [am_mlok, am_mok, Bool.and_eq_true, decide_eq_true_eq] at hok9
  obtain ⟨⟨⟨⟨⟨⟨⟨⟨z1, z2⟩, z3⟩, z4⟩, z5⟩, z6⟩, z7⟩, y1⟩, ⟨y2, y3⟩, y4⟩ := hok9
  obtain ⟨w1, w2⟩ := am_pre (as := .inr (.inr (am_rk t, o)) :: as) hE hP hD hS hA
  have hrk : am_okr (am_rk t) o ∧ ac_v ad sd (.inr (.inr (am_rk t, o))) = ac_v ad sd (.inr (.inr (t, o))) := by
    rcases hnn with ⟨n1, n2, n3⟩ | ⟨n1, n2, n3, n4⟩ | ⟨n1, n2⟩
    · rw [am_rk_ne (by omega)]
      exact ⟨hov, rfl⟩
    · rcases n3 with ⟨n3, n5⟩ | ⟨n3, n5⟩
      · rw [am_rk_ne n3]
        exact ⟨hov, rfl⟩
      · rw [am_rk_12 n3, n4]
        exact ⟨Or.inr (Or.inr ⟨(show (8 : Nat) ≠ 0 by decide), (show (8 : Nat) ≠ 11 by decide), (show (8 : Nat) ≠ 12 by decide), n2, n5⟩), ac_v_r (show (8 : Nat) ≠ 0 by decide) (show (8 : Nat) ≠ 11 by decide) (show (8 : Nat) ≠ 12 by decide)⟩
    · have := am_rcb_o (by omega) (by omega) hrc
      omega
  have hrecv : ∃ a : Nat, ac_v ad sd (.inr (.inr (t, o))) = .ref a ∧ ∃ cellB : Cell, H[a]? = some cellB ∧ cellB.vm.isStatics = false ∧ s.vm.findClass m9.2.1.cls = some cellB.cls := by
    rcases hnn with ⟨n1, n2, n3⟩ | ⟨n1, n2, n3, n4⟩ | ⟨n1, n2⟩
    · have e10 : m9.1 = 10 := (am_rcb_11 n1 hrc).1
      refine ⟨_, n3, ?_⟩
      rw [z6, e10]
      exact vk_recv hE.2.2.1 (n2 (am_rcb_11 n1 hrc).2) hS
    · refine ⟨_, n4, ?_⟩
      have hkd : (am_kd o).1 = m9.1 + 1 ∧ m9.1 < 10 := by
        rcases n3 with ⟨n3, n5⟩ | ⟨n3, n5⟩
        · rw [n5]; exact am_rcb_o n1 n3 hrc
        · rw [n5]; exact am_rcb_12 n3 hrc
      rw [z6]
      have he := am_w_get (cy := cy) (ad := ad) (σ := σ) n2
      rw [am_cell_o hkd.1 hkd.2] at he
      exact va_recv hE.1 hP (am_cls_at m9.1 hkd.2) he
    · have := am_rcb_o (by omega) (by omega) hrc
      omega
  obtain ⟨a9, ha9, hcell⟩ := hrecv
  rw [am_map_rev, List.map_cons, ha9]
  rw [List.map_cons, hrk.2, ha9] at w1 w2
  have hM2 := hM D cy ad sd sv H.size (am_okc hrk.1 hokcs) hk
  rw [List.map_cons, hrk.2, ha9] at hM2
  have hS2 : CallFix p m c M.2.2.1 M.2.2.2.1 s args (am_T) (am_nm M.1) := ⟨hx, hb, hml, hown, hts⟩
  refine am_go (va_runV (C := m9.2.1.cls) (b := a9) (As := as.map (ac_v ad sd)) hS2 hM2 (cwV m9.2.2.2.2.2.1 hts (ws' := am_T) (fun w hw => ?_) rfl rfl rfl ⟨rfl, z2, z3, z4⟩ ⟨hR1, ?_⟩) ⟨w1, hcell, w2⟩ rfl (by simp [hlen]) hl.1 rfl ?_ hd ⟨hR3, hR4⟩) hS (am_sub hD hS hA) (fun H1 locs1 g1 g2 g3 g4 => ?_)
  · have : w ∈ am_T := by
      simp only [wsV, List.cons_append, List.nil_append, List.mem_cons] at hw
      rcases hw with rfl | rfl | rfl | rfl | hw
      · exact am_has_in y2
      · exact am_has_in y3
      · exact am_has_in y4
      · exact am_has_in y1
      · rcases List.mem_cons.mp hw with rfl | hw
        · exact hcw
        · exact hw
    exact ⟨this, good_of_word (am_T_good w this)⟩
  · show 8 + (m9.2.2.2.1 + 11) + 60 * d ≤ R.locals
    omega
  · rw [am_cat_sum]
    have := Nat.le_of_ble_eq_true hcat
    show 2 * 0 + _ ≤ 8
    omega
  · have e9 : ((v.map (ac_v ad sd)).toList ++ r.map (ac_v ad sd)) = (v.toList ++ r).map (ac_v ad sd) := by cases v <;> rfl
    rw [e9]
    exact h hlv (fun x hx => by
      rcases List.mem_append.mp hx with hx | hx
      · exact g2 x (by cases v with
          | none => simp at hx
          | some y => simp at hx; rw [hx])
      · exact hokr x hx) g1 H1 locs1 ls g3 (am_w_D hD) g4 hl
end AMC
