/-! ONE STEP, the second half. -/
theorem am_k8 : ∀ i, i < am_n → (am_kd i).1 = 8 → am_kd i = (8, 0, 0) := by decide +kernel
theorem am_tw_of {x : Int32} {Y : Int → Prop} {d : Int} : ∀ (os : List Int) (k : Int), am_tw x Y d k os → -1000000 < k → k + os.length < 1000001 → ((x.toInt < k ∨ k + os.length ≤ x.toInt) ∧ Y d) ∨ ∃ (j : Nat) (off : Int), os[j]? = some off ∧ x.toInt = k + j ∧ Y off
  | [], k, h, h1, h2 => Or.inl ⟨by simp; omega, h⟩
  | off :: os, k, h, h1, h2 => by
    simp only [List.length_cons] at h2
    by_cases hx : x = am_ic k
    · exact Or.inr ⟨0, off, rfl, by rw [hx, am_ic_toInt h1 (by omega)]; simp, h.1 hx⟩
    · have hne : x.toInt ≠ k := fun z => hx (Int32.toInt_inj.mp (by rw [z, am_ic_toInt h1 (by omega)]))
      rcases am_tw_of os (k + 1) (h.2 hx) (by omega) (by omega) with ⟨h3, h4⟩ | ⟨j, o2, h3, h4, h5⟩
      · refine Or.inl ⟨?_, h4⟩
        simp only [List.length_cons]
        omega
      · exact Or.inr ⟨j + 1, o2, h3, by omega, h5⟩
theorem am_lw_of {x : Int32} {Y : Int → Prop} {d : Int} : ∀ (ps : List (Int × Int)), am_lw x Y d ps → (∀ q ∈ ps, -1000000 < q.1 ∧ q.1 < 1000000) → (Op.lookupswitch.offset ps d x.toInt = d ∧ Y d) ∨ ∃ q ∈ ps, Op.lookupswitch.offset ps d x.toInt = q.2 ∧ Y q.2
  | [], h, _ => Or.inl ⟨rfl, h⟩
  | (k, o) :: ps, h, hr => by
    have hk := hr (k, o) List.mem_cons_self
    by_cases hx : x = am_ic k
    · refine Or.inr ⟨(k, o), List.mem_cons_self, ?_, h.1 hx⟩
      rw [Op.lookupswitch.offset_cons, if_pos (by rw [hx, am_ic_toInt hk.1 (by omega)])]
    · have hne : ¬ x.toInt = k := fun z => hx (Int32.toInt_inj.mp (by rw [z, am_ic_toInt hk.1 (by omega)]))
      rcases am_lw_of ps (h.2 hx) (fun q hq => hr q (List.mem_cons_of_mem _ hq)) with ⟨h3, h4⟩ | ⟨q, h3, h4, h5⟩
      · refine Or.inl ⟨?_, h4⟩
        rw [Op.lookupswitch.offset_cons, if_neg (by first | exact hne | exact fun z => hne z.symm)]
        exact h3
      · refine Or.inr ⟨q, List.mem_cons_of_mem _ h3, ?_, h5⟩
        rw [Op.lookupswitch.offset_cons, if_neg (by first | exact hne | exact fun z => hne z.symm)]
        exact h4
section AMP
variable {p : Program} {l : Launch} {e : Env} {R : Room} {s : State} {m : MethodId} {args : Array Value} {below : List Frame} {meth : Method} {c : Code} {H : Heap} {locs : List Loc} {Q : State → Prop}
variable {D : va_G} {cy : Nat → ClassId} {ad sd sv : Nat → Nat} {A : Nat → Prop} {M : AM} {pc : Nat} {ls : Array Slot} {lv : AL} {st : List AV} {σ : AS} {d cl sl : Nat}

theorem am_1_tableswitch (C : am_Cx p R cl sl d s m args meth c M D cy sd sv A) {n : Nat} {dd lo hh : Int} {offs : Array Int} (hd : decode M.2.2.1 pc = .ok (.tableswitch dd lo hh offs, n)) (hi : am_iok M.2.2.2.1 pc (.tableswitch dd lo hh offs) n = true) (h : am_i1 st fun x r => am_tw x (fun o => (am_X p l e R cl sl s m args below meth c Q M D cy ad sd A) (am_tg pc o) lv r σ) dd lo offs.toList) : (am_X p l e R cl sl s m args below meth c Q M D cy ad sd A) pc lv st σ := by
  obtain ⟨hx, hb, hml, hown, hts, hr, hlk, ho, hE, hA, hm20, hR1, hR2, hR3, hR4⟩ := C
  intro hlv hst hk H locs ls hP hD hS hl
  have h1 := am_iok_x hi
  simp only [am_ix, Bool.and_eq_true, decide_eq_true_eq, List.all_eq_true] at h1
  obtain ⟨⟨⟨⟨g1, g2⟩, g3⟩, g4⟩, g5⟩ := h1
  obtain ⟨x, r, rfl, h⟩ := am_i1_of h
  rcases am_tw_of _ _ h (by omega) (by omega) with ⟨h3, h4⟩ | ⟨j, off, h3, h4, h5⟩
  · exact lv_tableOut hx hb hd (by omega) (am_tg_eq g1) (h4 hlv (am_okt hst) hk H locs ls hP hD hS hl)
  · have hj : j < offs.toList.length := (List.getElem?_eq_some_iff.mp h3).1
    refine lv_tableIn hx hb hd (off := off) (by omega) (by omega) ?_ (am_tg_eq (g2 off (List.mem_of_getElem? h3))) (h5 hlv (am_okt hst) hk H locs ls hP hD hS hl)
    rw [show (x.toInt - lo).toNat = j by omega, ← Array.getElem?_toList]
    exact h3
theorem am_1_lookupswitch (C : am_Cx p R cl sl d s m args meth c M D cy sd sv A) {n : Nat} {dd : Int} {ps : Array (Int × Int)} (hd : decode M.2.2.1 pc = .ok (.lookupswitch dd ps, n)) (hi : am_iok M.2.2.2.1 pc (.lookupswitch dd ps) n = true) (h : am_i1 st fun x r => am_lw x (fun o => (am_X p l e R cl sl s m args below meth c Q M D cy ad sd A) (am_tg pc o) lv r σ) dd ps.toList) : (am_X p l e R cl sl s m args below meth c Q M D cy ad sd A) pc lv st σ := by
  obtain ⟨hx, hb, hml, hown, hts, hr, hlk, ho, hE, hA, hm20, hR1, hR2, hR3, hR4⟩ := C
  intro hlv hst hk H locs ls hP hD hS hl
  have h1 := am_iok_x hi
  simp only [am_ix, Bool.and_eq_true, decide_eq_true_eq] at h1
  obtain ⟨⟨g1, g2⟩, g3⟩ := h1
  have g4 : ∀ q ∈ ps.toList, 0 ≤ (pc : Int) + q.2 ∧ -1000000 < q.1 ∧ q.1 < 1000000 := fun q hq => by
    have := List.all_eq_true.mp g2 q hq
    simp only [Bool.and_eq_true, decide_eq_true_eq] at this
    exact ⟨this.1.1, this.1.2, this.2⟩
  obtain ⟨x, r, rfl, h⟩ := am_i1_of h
  rcases am_lw_of _ h (fun q hq => (g4 q hq).2) with ⟨h3, h4⟩ | ⟨q, h3, h4, h5⟩
  · exact lv_lookup hx hb hd g3 h3 (am_tg_eq g1) (h4 hlv (am_okt hst) hk H locs ls hP hD hS hl)
  · exact lv_lookup hx hb hd g3 h4 (am_tg_eq (g4 q h3).1) (h5 hlv (am_okt hst) hk H locs ls hP hD hS hl)
theorem am_1_ldc (C : am_Cx p R cl sl d s m args meth c M D cy sd sv A) {n : Nat} {k : Nat} (hd : decode M.2.2.1 pc = .ok (.ldc k, n)) (hi : am_iok M.2.2.2.1 pc (.ldc k) n = true) (h : (match am_kc M.1 k with
    | some v => (am_X p l e R cl sl s m args below meth c Q M D cy ad sd A) (pc + 2) lv (.inl v :: st) σ
    | none => match am_ks M.1 k with
      | some q => (am_X p l e R cl sl s m args below meth c Q M D cy ad sd A) (pc + 2) lv (.inr (.inr ((11, 0, 0), q)) :: st) σ
      | none => False)) : (am_X p l e R cl sl s m args below meth c Q M D cy ad sd A) pc lv st σ := by
  obtain ⟨hx, hb, hml, hown, hts, hr, hlk, ho, hE, hA, hm20, hR1, hR2, hR3, hR4⟩ := C
  intro hlv hst hk H locs ls hP hD hS hl
  obtain rfl := am_iok_n rfl hi
  split at h
  · rename_i v hv
    exact lv_ldc hx hb hown (hts _ (am_kc_ok ho hv)) hd (h hlv (am_okc trivial hst) hk H locs ls hP hD hS hl)
  · split at h
    · rename_i q hq
      unfold am_ks at hq
      split at hq
      · rename_i e4
        have hq2 := List.findIdx?_eq_some_iff_getElem.mp hq
        obtain ⟨hq3, hq4, -⟩ := hq2
        simp only [beq_iff_eq] at hq4
        have h16 : am_strs.length = 16 := rfl
        have hZ := hE.2.2.2.1 q am_strs[q] (List.getElem?_eq_getElem hq3)
        rw [hq4] at hZ
        have hok : am_okr (11, 0, 0) q := Or.inl (Or.inr (Or.inl ⟨rfl, by omega⟩))
        have hown' : s.vm.findClass RX4 = some m.cls := by rw [e4] at hown; exact hown
        exact va_ldcS hx hb hown' hZ hd (h hlv (am_okc hok hst) hk H locs ls hP hD hS hl)
      · cases hq
    · exact h.elim
theorem am_1_ldc_w (C : am_Cx p R cl sl d s m args meth c M D cy sd sv A) {n : Nat} {k : Nat} (hd : decode M.2.2.1 pc = .ok (.ldc_w k, n)) (hi : am_iok M.2.2.2.1 pc (.ldc_w k) n = true) (h : (match am_kc M.1 k with
    | some v => (am_X p l e R cl sl s m args below meth c Q M D cy ad sd A) (pc + 3) lv (.inl v :: st) σ
    | none => False)) : (am_X p l e R cl sl s m args below meth c Q M D cy ad sd A) pc lv st σ := by
  obtain ⟨hx, hb, hml, hown, hts, hr, hlk, ho, hE, hA, hm20, hR1, hR2, hR3, hR4⟩ := C
  intro hlv hst hk H locs ls hP hD hS hl
  obtain rfl := am_iok_n rfl hi
  split at h
  · rename_i v hv
    exact lv_ldcw hx hb hown (hts _ (am_kc_ok ho hv)) hd (h hlv (am_okc trivial hst) hk H locs ls hP hD hS hl)
  · exact h.elim
theorem am_1_ldc2_w (C : am_Cx p R cl sl d s m args meth c M D cy sd sv A) {n : Nat} {k : Nat} (hd : decode M.2.2.1 pc = .ok (.ldc2_w k, n)) (hi : am_iok M.2.2.2.1 pc (.ldc2_w k) n = true) (h : (match am_kl M.1 k with
    | some v => (am_X p l e R cl sl s m args below meth c Q M D cy ad sd A) (pc + 3) lv (.inr (.inl v) :: st) σ
    | none => False)) : (am_X p l e R cl sl s m args below meth c Q M D cy ad sd A) pc lv st σ := by
  obtain ⟨hx, hb, hml, hown, hts, hr, hlk, ho, hE, hA, hm20, hR1, hR2, hR3, hR4⟩ := C
  intro hlv hst hk H locs ls hP hD hS hl
  obtain rfl := am_iok_n rfl hi
  split at h
  · rename_i v hv
    exact lv_ldc2 hx hb hown (hts _ (am_kl_ok ho hv)) hd (h hlv (am_okc trivial hst) hk H locs ls hP hD hS hl)
  · exact h.elim
theorem am_1_dup (C : am_Cx p R cl sl d s m args meth c M D cy sd sv A) {n : Nat} (hd : decode M.2.2.1 pc = .ok (.dup, n)) (hi : am_iok M.2.2.2.1 pc (.dup) n = true) (h : (match st with
    | .inl x :: r => (am_X p l e R cl sl s m args below meth c Q M D cy ad sd A) (pc + 1) lv (.inl x :: .inl x :: r) σ
    | .inr (.inr q) :: r => (am_X p l e R cl sl s m args below meth c Q M D cy ad sd A) (pc + 1) lv (.inr (.inr q) :: .inr (.inr q) :: r) σ
    | _ => False)) : (am_X p l e R cl sl s m args below meth c Q M D cy ad sd A) pc lv st σ := by
  obtain ⟨hx, hb, hml, hown, hts, hr, hlk, ho, hE, hA, hm20, hR1, hR2, hR3, hR4⟩ := C
  intro hlv hst hk H locs ls hP hD hS hl
  obtain rfl := am_iok_n rfl hi
  split at h
  · exact lv_dup hx hb hd rfl (h hlv (am_okc trivial hst) hk H locs ls hP hD hS hl)
  · exact lv_dup hx hb hd (ac_cat ad sd _) (h hlv (am_okc (am_okh hst) hst) hk H locs ls hP hD hS hl)
  · exact h.elim
theorem am_1_dup2 (C : am_Cx p R cl sl d s m args meth c M D cy sd sv A) {n : Nat} (hd : decode M.2.2.1 pc = .ok (.dup2, n)) (hi : am_iok M.2.2.2.1 pc (.dup2) n = true) (h : (match st with
    | .inl x :: .inr (.inr q) :: r => (am_X p l e R cl sl s m args below meth c Q M D cy ad sd A) (pc + 1) lv (.inl x :: .inr (.inr q) :: .inl x :: .inr (.inr q) :: r) σ
    | _ => False)) : (am_X p l e R cl sl s m args below meth c Q M D cy ad sd A) pc lv st σ := by
  obtain ⟨hx, hb, hml, hown, hts, hr, hlk, ho, hE, hA, hm20, hR1, hR2, hR3, hR4⟩ := C
  intro hlv hst hk H locs ls hP hD hS hl
  obtain rfl := am_iok_n rfl hi
  split at h
  · exact lv_dup2_11 hx hb hd rfl (ac_cat ad sd _) (h hlv (am_okc trivial (am_okc (am_okh (am_okt hst)) hst)) hk H locs ls hP hD hS hl)
  · exact h.elim
theorem am_1_ifnull (C : am_Cx p R cl sl d s m args meth c M D cy sd sv A) {n : Nat} {off : Int} (hd : decode M.2.2.1 pc = .ok (.ifnull off, n)) (hi : am_iok M.2.2.2.1 pc (.ifnull off) n = true) (h : am_r1 st fun t i r => (match t.1 with
    | 12 => (i = 0 → (am_X p l e R cl sl s m args below meth c Q M D cy ad sd A) (am_tg pc off) lv r σ) ∧ (¬ i = 0 → (am_X p l e R cl sl s m args below meth c Q M D cy ad sd A) (pc + 3) lv r σ)
    | _ => False)) : (am_X p l e R cl sl s m args below meth c Q M D cy ad sd A) pc lv st σ := by
  obtain ⟨hx, hb, hml, hown, hts, hr, hlk, ho, hE, hA, hm20, hR1, hR2, hR3, hR4⟩ := C
  intro hlv hst hk H locs ls hP hD hS hl
  obtain rfl := am_iok_n rfl hi
  have h1 := am_iok_x hi
  simp only [am_ix, decide_eq_true_eq] at h1
  obtain ⟨t, i, r, e1, h9⟩ := am_r1_of h
  subst e1
  clear h
  split at h9
  · rename_i e12
    by_cases hz : i = 0
    · have hv : ac_v ad sd (.inr (.inr (t, i))) = .null := by simp only [ac_v, e12, if_neg (show ¬ (12 : Nat) = 0 by decide), if_neg (show ¬ (12 : Nat) = 11 by decide), if_pos, hz]
      rw [List.map_cons, hv]
      exact lv_ifnullN hx hb hd (am_tg_eq h1) (h9.1 hz hlv (am_okt hst) hk H locs ls hP hD hS hl)
    · have hv : ac_v ad sd (.inr (.inr (t, i))) = .ref (ad i) := by simp only [ac_v, e12, if_neg (show ¬ (12 : Nat) = 0 by decide), if_neg (show ¬ (12 : Nat) = 11 by decide), if_pos, if_neg hz]
      rw [List.map_cons, hv]
      exact lv_ifnull hx hb hd (h9.2 hz hlv (am_okt hst) hk H locs ls hP hD hS hl)
  · exact h9.elim
theorem am_1_getfield (C : am_Cx p R cl sl d s m args meth c M D cy sd sv A) {n : Nat} {k : Nat} (hd : decode M.2.2.1 pc = .ok (.getfield k, n)) (hi : am_iok M.2.2.2.1 pc (.getfield k) n = true) (h : am_r1 st fun t o r => (match am_fl M.1 k with
    | some (ci, f) => t.1 = ci + 1 ∧ am_gf (am_ft ci f) o f σ (fun v => (am_X p l e R cl sl s m args below meth c Q M D cy ad sd A) (pc + 3) lv (v :: r) σ)
    | none => match am_fs M.1 k with
      | some 0 => t = (11, 0, 0) ∧ (am_X p l e R cl sl s m args below meth c Q M D cy ad sd A) (pc + 3) lv (.inl 0 :: r) σ
      | some 1 => t = (11, 0, 0) ∧ (am_X p l e R cl sl s m args below meth c Q M D cy ad sd A) (pc + 3) lv (.inr (.inr ((11, 1, 0), o + 16)) :: r) σ
      | some _ => False
      | none => False)) : (am_X p l e R cl sl s m args below meth c Q M D cy ad sd A) pc lv st σ := by
  obtain ⟨hx, hb, hml, hown, hts, hr, hlk, ho, hE, hA, hm20, hR1, hR2, hR3, hR4⟩ := C
  intro hlv hst hk H locs ls hP hD hS hl
  obtain rfl := am_iok_n rfl hi
  obtain ⟨t, o, r, rfl, h⟩ := am_r1_of h
  split at h
  · rename_i ci f hf
    obtain ⟨ht, h⟩ := h
    obtain ⟨g1, g2, g3⟩ := am_fl_ok ho hf
    have hov : am_okr t o := am_okh hst
    obtain ⟨k1, k2, k3⟩ := am_okr_o hov ht g2 ad sd
    have hts' : ∀ w ∈ am_T, w.before args s = true := hts
    have hc := am_cell_o (cy := cy) (ad := ad) (σ := σ) k2 g2
    have he := am_w_get (cy := cy) (ad := ad) (σ := σ) k1
    rw [hc] at he
    have key : ∀ v : AV, am_okv v → am_fv ad σ o f (am_ft ci f) = ac_v ad sd v → am_X p l e R cl sl s m args below meth c Q M D cy ad sd A (pc + 3) lv (v :: r) σ → W p l e R s m args below meth c H locs cl sl Q (F0 m pc ls (((.inr (.inr (t, o)) : AV) :: r).map (ac_v ad sd))) := by
      intro v hv1 hv2 hX
      rw [List.map_cons, k3]
      refine va_get hx hb hts' (am_ws_T g2) hown hE.1 hP o he (am_cls_at ci g2) f g3 (hts _ g1) (fun _ h9 => h9) (am_flds_at g3) hd ?_
      rw [hv2]
      exact hX hlv (am_okc hv1 (am_okt hst)) hk H locs ls hP hD hS hl
    have hft := am_ft_ok ci g2 f g3
    have hlay := am_lay_f k1 (by omega)
    rw [k2, Nat.add_sub_cancel] at hlay
    have hlay2 := hlay.2 f g3
    have hho := hk o f k1 (by omega)
    rw [k2, Nat.add_sub_cancel] at hho
    unfold am_ftok at hft
    generalize am_ft ci f = e9 at h key hft hlay2 hho
    obtain ⟨e1, e2, e3⟩ := e9
    unfold am_gf at h
    split at hft
    · rename_i a9 b9 heq
      cases heq
      exact key (.inl (σ.1 o f)) trivial rfl h
    · rename_i a9 b9 heq
      cases heq
      exact key (.inl (σ.1 o f)) trivial rfl h
    · rename_i a9 b9 heq
      cases heq
      exact key (.inr (.inl (σ.2 o f))) trivial rfl h
    · rename_i off kk heq
      cases heq
      simp only [Bool.and_eq_true, bne_iff_ne, ne_eq] at hft
      obtain ⟨q1, q2⟩ := hlay2 rfl
      dsimp only at q1 q2
      refine key _ ?_ ?_ h
      · exact Or.inr (Or.inr ⟨hft.1.1, hft.1.2, hft.2, q1, q2⟩)
      · exact (ac_v_r hft.1.1 hft.1.2 hft.2).symm
    · rename_i heq
      cases heq
      refine key _ ?_ ?_ h
      · exact Or.inr (Or.inl ⟨rfl, hho rfl⟩)
      · simp only [am_fv, ac_v, if_neg (show ¬ (12 : Nat) = 0 by decide), if_neg (show ¬ (12 : Nat) = 11 by decide), if_pos]
    · cases hft
  · split at h
    · rename_i hs
      obtain ⟨p9, h9⟩ := am_fs_ok ho hs
      simp only [am_fsok, Bool.and_eq_true, decide_eq_true_eq] at h9
      obtain ⟨ht, h7⟩ := h
      subst ht
      have hov : am_okr (11, 0, 0) o := am_okh hst
      have ho16 : o < 16 := am_okr_s hov
      have hva : ac_v ad sd (.inr (.inr ((11, 0, 0), o))) = .ref (sd o) := rfl
      rw [List.map_cons, hva]
      rw [h9.1] at hown
      exact vk_getf hx hb (hE.2.2.1.1 o ho16).2.1 hS hown (hts _ (am_has_in h9.2)) (fun _ z => z) hd (h7 hlv (am_okc trivial (am_okt hst)) hk H locs ls hP hD hS hl)
    · rename_i hs
      obtain ⟨p9, h9⟩ := am_fs_ok ho hs
      simp only [am_fsok, Bool.and_eq_true, decide_eq_true_eq] at h9
      obtain ⟨ht, h7⟩ := h
      subst ht
      have hov : am_okr (11, 0, 0) o := am_okh hst
      have ho16 : o < 16 := am_okr_s hov
      have hva : ac_v ad sd (.inr (.inr ((11, 0, 0), o))) = .ref (sd o) := rfl
      rw [List.map_cons, hva]
      rw [h9.1] at hown
      have hX := h7 hlv (am_okc (Or.inl (Or.inr (Or.inr ⟨rfl, by omega, by omega⟩))) (am_okt hst)) hk H locs ls hP hD hS hl
      have hvb : ac_v ad sd (.inr (.inr ((11, 1, 0), o + 16))) = .ref (sd (16 + o)) := by rw [Nat.add_comm 16 o]; rfl
      rw [List.map_cons, hvb] at hX
      exact vk_getf hx hb (hE.2.2.1.1 o ho16).2.2.1 hS hown (hts _ (am_has_in h9.2)) (fun _ z => z) hd hX
    · exact h.elim
    · exact h.elim
theorem am_1_putfield (C : am_Cx p R cl sl d s m args meth c M D cy sd sv A) {n : Nat} {k : Nat} (hd : decode M.2.2.1 pc = .ok (.putfield k, n)) (hi : am_iok M.2.2.2.1 pc (.putfield k) n = true) (h : (match st with
    | v :: st' => am_r1 st' fun t o r => (match am_fl M.1 k with
      | some (ci, f) => t.1 = ci + 1 ∧ am_pf (am_ft ci f) v o f σ (fun σ' => (am_X p l e R cl sl s m args below meth c Q M D cy ad sd A) (pc + 3) lv r σ')
      | none => False)
    | [] => False)) : (am_X p l e R cl sl s m args below meth c Q M D cy ad sd A) pc lv st σ := by
  obtain ⟨hx, hb, hml, hown, hts, hr, hlk, ho, hE, hA, hm20, hR1, hR2, hR3, hR4⟩ := C
  intro hlv hst hk H locs ls hP hD hS hl
  obtain rfl := am_iok_n rfl hi
  split at h
  · rename_i v st'
    obtain ⟨t, o, r, e9, h9⟩ := am_r1_of h
    subst e9
    clear h
    split at h9
    · rename_i ci f hf
      obtain ⟨ht, h⟩ := h9
      obtain ⟨g1, g2, g3⟩ := am_fl_ok ho hf
      have hov : am_okr t o := am_okh (am_okt hst)
      obtain ⟨k1, k2, k3⟩ := am_okr_o hov ht g2 ad sd
      have hc := am_cell_o (cy := cy) (ad := ad) (σ := σ) k2 g2
      have he := am_w_get (cy := cy) (ad := ad) (σ := σ) k1
      rw [hc] at he
      have key : ∀ (w : Value) (σ' : AS), ac_v ad sd v = w → am_fv ad σ' o f (am_ft ci f) = w → (∀ j, j ≠ f → σ'.1 o j = σ.1 o j ∧ σ'.2 o j = σ.2 o j) → (∀ j, j ≠ o → σ'.1 j = σ.1 j ∧ σ'.2 j = σ.2 j) → am_hok σ' → (am_TT ci f).2.2.2 = false → (∃ ty, am_ty ci f = ty ∧ narrow ty w = w ∧ fits ty w = true) → am_X p l e R cl sl s m args below meth c Q M D cy ad sd A (pc + 3) lv r σ' → W p l e R s m args below meth c H locs cl sl Q (F0 m pc ls ((v :: (.inr (.inr (t, o)) : AV) :: r).map (ac_v ad sd))) := by
        intro w σ' hw hfv hj ho2 hhk hfin hty hX
        obtain ⟨ty, hty1, hty2, hty3⟩ := hty
        rw [List.map_cons, List.map_cons, k3, hw]
        refine va_put (ty := ty) hx hb hts (am_ws_T g2) (am_ty ci) (am_ty_ok ci g2) (am_nm_ok ci g2) hown hE.1 hP hD hS o he (am_cls_at ci g2) f g3 (hts _ g1) (fun _ h9 => h9) hfin (by rw [am_ty_ok ci g2 f g3, hty1]) hty2 hty3 (by rw [am_flds_len]; exact g3) hd ?_
        intro H1 locs1 hP1 hD1 hS1
        rw [am_flds_set g3 hfv hj, am_w_set (σ' := σ') k1 (am_cell_o k2 g2) (fun j _ e => am_cell_eq (ho2 j e).1 (ho2 j e).2)] at hP1 hD1
        exact hX hlv (am_okt (am_okt hst)) hhk H1 locs1 ls hP1 hD1 hS1 hl
      have hsi : ∀ x : Int32, (∀ j, j ≠ f → (am_si σ o f x).1 o j = σ.1 o j ∧ (am_si σ o f x).2 o j = σ.2 o j) ∧ (∀ j, j ≠ o → (am_si σ o f x).1 j = σ.1 j ∧ (am_si σ o f x).2 j = σ.2 j) ∧ (am_si σ o f x).1 o f = x := fun x => ⟨fun j hj => ⟨by simp [am_si, am_u2, upd, hj], rfl⟩, fun j hj => ⟨by simp [am_si, am_u2, hj], rfl⟩, by simp [am_si, am_u2, upd]⟩
      have hsj : ∀ x : Int64, (∀ j, j ≠ f → (am_sj σ o f x).1 o j = σ.1 o j ∧ (am_sj σ o f x).2 o j = σ.2 o j) ∧ (∀ j, j ≠ o → (am_sj σ o f x).1 j = σ.1 j ∧ (am_sj σ o f x).2 j = σ.2 j) ∧ (am_sj σ o f x).2 o f = x := fun x => ⟨fun j hj => ⟨rfl, by simp [am_sj, am_u2, vp_updL, hj]⟩, fun j hj => ⟨rfl, by simp [am_sj, am_u2, hj]⟩, by simp [am_sj, am_u2, vp_updL]⟩
      have hft := am_ft_ok ci g2 f g3
      have hho : ∀ x : Int32, ((am_ft ci f).1 = 3 → x.toNatClampNeg = 0 ∨ (x.toNatClampNeg < am_n ∧ am_kd x.toNatClampNeg = (8, 0, 0))) → am_hok (am_si σ o f x) := fun x hx3 => am_hok_si hk (fun _ _ h3 => hx3 (by rw [k2, Nat.add_sub_cancel] at h3; exact h3))
      unfold am_ftok at hft
      have hvok : am_okv v := am_okh hst
      generalize am_ft ci f = e9 at h key hft hho
      obtain ⟨e1, e2, e3⟩ := e9
      unfold am_pf at h
      split at h
      · rename_i x heq
        try dsimp only at heq
        subst heq
        simp only [Bool.and_eq_true, decide_eq_true_eq, beq_iff_eq] at hft
        exact key (.int x) _ rfl (by show Value.int _ = _; rw [(hsi x).2.2]) (hsi x).1 (hsi x).2.1 (hho x (fun z => by cases z)) hft.2 ⟨.int, hft.1, vp_nar_int x, rfl⟩ h
      · rename_i x heq
        try dsimp only at heq
        subst heq
        simp only [Bool.and_eq_true, decide_eq_true_eq, beq_iff_eq] at hft
        exact key (.int x) _ rfl (by show Value.int _ = _; rw [(hsi x).2.2]) (hsi x).1 (hsi x).2.1 (hho x (fun z => by cases z)) hft.2 ⟨.boolean, hft.1, by rcases h.1 with z | z <;> rw [z] <;> rfl, by rcases h.1 with z | z <;> rw [z] <;> rfl⟩ h.2
      · rename_i x heq
        try dsimp only at heq
        subst heq
        simp only [Bool.and_eq_true, decide_eq_true_eq, beq_iff_eq] at hft
        exact key (.long x) _ rfl (by show Value.long _ = _; rw [(hsj x).2.2]) (hsj x).1 (hsj x).2.1 (am_hok_j hk rfl) hft.2 ⟨.long, hft.1, rfl, rfl⟩ h
      · rename_i t2 i2 heq
        try dsimp only at heq
        subst heq
        simp only [Bool.and_eq_true, decide_eq_true_eq, beq_iff_eq] at hft
        have hi2 : i2 < am_n → (Int32.ofNat i2).toNatClampNeg = i2 := fun z => nI_clamp (by have : am_n = 237 := rfl; omega)
        have hv2 : am_okr t2 i2 := hvok
        split at h
        · rename_i e8
          rcases hv2 with (⟨q1, q2⟩ | ⟨q0, q2⟩ | ⟨q0, q2⟩) | ⟨q1, q2⟩ | ⟨q1, q2, q3, q4, q5⟩
          · omega
          · rw [q0] at e8; cases e8
          · rw [q0] at e8; cases e8
          · omega
          · have kd0 : am_kd 0 ≠ (8, 0, 0) := by decide +kernel
            have q6 : am_kd i2 = (8, 0, 0) := by
              have hq := am_k8 i2 q4 (by rw [q5]; exact e8)
              exact hq
            have hi0 : i2 ≠ 0 := fun z => by
              subst z
              exact kd0 q6
            refine key (.ref (ad i2)) _ (ac_v_r q1 q2 q3) ?_ (hsi _).1 (hsi _).2.1 (hho _ (fun _ => Or.inr ?_)) hft.2 ⟨_, hft.1, rfl, rfl⟩ h
            · simp only [am_fv]
              rw [(hsi _).2.2, hi2 q4, if_neg hi0]
            · rw [hi2 q4]
              exact ⟨q4, q6⟩
        · rename_i e12
          rcases hv2 with (⟨q1, q2⟩ | ⟨q0, q2⟩ | ⟨q0, q2⟩) | ⟨q1, q2⟩ | ⟨q1, q2, q3, q4, q5⟩
          · omega
          · rw [q0] at e12; cases e12
          · rw [q0] at e12; cases e12
          · by_cases hz : i2 = 0
            · subst hz
              refine key .null _ (by simp only [ac_v, e12, if_neg (show ¬ (12 : Nat) = 0 by decide), if_neg (show ¬ (12 : Nat) = 11 by decide), if_pos]) ?_ (hsi _).1 (hsi _).2.1 (hho _ (fun _ => Or.inl rfl)) hft.2 ⟨_, hft.1, rfl, rfl⟩ h
              simp only [am_fv]
              rw [(hsi _).2.2]
              rfl
            · have q3 := q2.resolve_left hz
              refine key (.ref (ad i2)) _ (by simp only [ac_v, e12, if_neg (show ¬ (12 : Nat) = 0 by decide), if_neg (show ¬ (12 : Nat) = 11 by decide), if_pos, if_neg hz]) ?_ (hsi _).1 (hsi _).2.1 (hho _ (fun _ => Or.inr ?_)) hft.2 ⟨_, hft.1, rfl, rfl⟩ h
              · simp only [am_fv]
                rw [(hsi _).2.2, hi2 q3.1, if_neg hz]
              · rw [hi2 q3.1]
                exact q3
          · exact absurd e12 q3
        · exact h.elim
      · exact h.elim
    · exact h9.elim
  · exact h.elim
theorem am_1_iaload (C : am_Cx p R cl sl d s m args meth c M D cy sd sv A) {n : Nat} (hd : decode M.2.2.1 pc = .ok (.iaload, n)) (hi : am_iok M.2.2.2.1 pc (.iaload) n = true) (h : am_i1 st fun i r => am_r1 r fun t a r => t.1 = 21 ∧ vp_in i t.2.1 ∧ (am_X p l e R cl sl s m args below meth c Q M D cy ad sd A) (pc + 1) lv (.inl (σ.1 a i.toNatClampNeg) :: r) σ) : (am_X p l e R cl sl s m args below meth c Q M D cy ad sd A) pc lv st σ := by
  obtain ⟨hx, hb, hml, hown, hts, hr, hlk, ho, hE, hA, hm20, hR1, hR2, hR3, hR4⟩ := C
  intro hlv hst hk H locs ls hP hD hS hl
  obtain rfl := am_iok_n rfl hi
  obtain ⟨i, r1, e1, h1⟩ := am_i1_of h
  subst e1
  obtain ⟨t, a, r, e1, h2⟩ := am_r1_of h1
  subst e1
  clear h h1
  obtain ⟨ht, hin, h⟩ := h2
  have hov : am_okr t a := am_okh (am_okt hst)
  obtain ⟨k1, k2, k3⟩ := am_okr_a hov ht (by decide) ad sd
  have he := am_w_get (cy := cy) (ad := ad) (σ := σ) k1
  rw [am_cell_i (by rw [k2]; exact ht) (Or.inr (Or.inl rfl)), k2] at he
  rw [List.map_cons, List.map_cons, k3]
  exact va_iald hx hb hE.1 hP a 1 he rfl hin hd (h hlv (am_okc trivial (am_okt (am_okt hst))) hk H locs ls hP hD hS hl)
theorem am_1_laload (C : am_Cx p R cl sl d s m args meth c M D cy sd sv A) {n : Nat} (hd : decode M.2.2.1 pc = .ok (.laload, n)) (hi : am_iok M.2.2.2.1 pc (.laload) n = true) (h : am_i1 st fun i r => am_r1 r fun t a r => t.1 = 22 ∧ vp_in i t.2.1 ∧ (am_X p l e R cl sl s m args below meth c Q M D cy ad sd A) (pc + 1) lv (.inr (.inl (σ.2 a i.toNatClampNeg)) :: r) σ) : (am_X p l e R cl sl s m args below meth c Q M D cy ad sd A) pc lv st σ := by
  obtain ⟨hx, hb, hml, hown, hts, hr, hlk, ho, hE, hA, hm20, hR1, hR2, hR3, hR4⟩ := C
  intro hlv hst hk H locs ls hP hD hS hl
  obtain rfl := am_iok_n rfl hi
  obtain ⟨i, r1, e1, h1⟩ := am_i1_of h
  subst e1
  obtain ⟨t, a, r, e1, h2⟩ := am_r1_of h1
  subst e1
  clear h h1
  obtain ⟨ht, hin, h⟩ := h2
  have hov : am_okr t a := am_okh (am_okt hst)
  obtain ⟨k1, k2, k3⟩ := am_okr_a hov ht (by decide) ad sd
  have he := am_w_get (cy := cy) (ad := ad) (σ := σ) k1
  rw [am_cell_j (by rw [k2]; exact ht), k2] at he
  rw [List.map_cons, List.map_cons, k3]
  exact va_lald hx hb hE.1 hP a 2 he rfl hin hd (h hlv (am_okc trivial (am_okt (am_okt hst))) hk H locs ls hP hD hS hl)
theorem am_1_baload (C : am_Cx p R cl sl d s m args meth c M D cy sd sv A) {n : Nat} (hd : decode M.2.2.1 pc = .ok (.baload, n)) (hi : am_iok M.2.2.2.1 pc (.baload) n = true) (h : am_i1 st fun i r => am_r1 r fun t a r => (match t.1 with
    | 11 => t = (11, 1, 0) ∧ vp_in i (am_len.getD (a - 16) 0) ∧ (am_X p l e R cl sl s m args below meth c Q M D cy ad sd A) (pc + 1) lv (.inl ((am_byt.getD (a - 16) []).getD i.toNatClampNeg 0) :: r) σ
    | _ => (t.1 = 20 ∨ t.1 = 23) ∧ vp_in i t.2.1 ∧ (am_X p l e R cl sl s m args below meth c Q M D cy ad sd A) (pc + 1) lv (.inl (σ.1 a i.toNatClampNeg) :: r) σ)) : (am_X p l e R cl sl s m args below meth c Q M D cy ad sd A) pc lv st σ := by
  obtain ⟨hx, hb, hml, hown, hts, hr, hlk, ho, hE, hA, hm20, hR1, hR2, hR3, hR4⟩ := C
  intro hlv hst hk H locs ls hP hD hS hl
  obtain rfl := am_iok_n rfl hi
  obtain ⟨i, r1, e1, h1⟩ := am_i1_of h
  subst e1
  obtain ⟨t, a, r, e1, h2⟩ := am_r1_of h1
  subst e1
  clear h h1
  have hov : am_okr t a := am_okh (am_okt hst)
  split at h2
  · obtain ⟨ht, hin, h⟩ := h2
    subst ht
    obtain ⟨q, hq, e16⟩ := am_okr_b hov
    subst e16
    rw [Nat.add_sub_cancel_left] at hin h
    have hva : ac_v ad sd (.inr (.inr ((11, 1, 0), 16 + q))) = .ref (sd (16 + q)) := rfl
    rw [List.map_cons, List.map_cons, hva]
    exact va_tb hx hb (hE.2.2.1.1 q hq).2.2.2 hS hin rfl hd (h hlv (am_okc trivial (am_okt (am_okt hst))) hk H locs ls hP hD hS hl)
  · obtain ⟨ht, hin, h⟩ := h2
    rcases ht with ht | ht
    · skip
      obtain ⟨k1, k2, k3⟩ := am_okr_a hov ht (by decide) ad sd
      have he := am_w_get (cy := cy) (ad := ad) (σ := σ) k1
      rw [am_cell_i (by rw [k2]; exact ht) (Or.inl rfl), k2] at he
      rw [List.map_cons, List.map_cons, k3]
      exact va_bald hx hb hE.1 hP a 0 he rfl hin hd (h hlv (am_okc trivial (am_okt (am_okt hst))) hk H locs ls hP hD hS hl)
    · skip
      obtain ⟨k1, k2, k3⟩ := am_okr_a hov ht (by decide) ad sd
      have he := am_w_get (cy := cy) (ad := ad) (σ := σ) k1
      rw [am_cell_i (by rw [k2]; exact ht) (Or.inr (Or.inr rfl)), k2] at he
      rw [List.map_cons, List.map_cons, k3]
      exact va_zald hx hb hE.1 hP a 3 he rfl hin hd (h hlv (am_okc trivial (am_okt (am_okt hst))) hk H locs ls hP hD hS hl)
theorem am_1_iastore (C : am_Cx p R cl sl d s m args meth c M D cy sd sv A) {n : Nat} (hd : decode M.2.2.1 pc = .ok (.iastore, n)) (hi : am_iok M.2.2.2.1 pc (.iastore) n = true) (h : am_i1 st fun x r => am_i1 r fun i r => am_r1 r fun t a r => t.1 = 21 ∧ vp_in i t.2.1 ∧ (am_X p l e R cl sl s m args below meth c Q M D cy ad sd A) (pc + 1) lv r (am_si σ a i.toNatClampNeg x)) : (am_X p l e R cl sl s m args below meth c Q M D cy ad sd A) pc lv st σ := by
  obtain ⟨hx, hb, hml, hown, hts, hr, hlk, ho, hE, hA, hm20, hR1, hR2, hR3, hR4⟩ := C
  intro hlv hst hk H locs ls hP hD hS hl
  obtain rfl := am_iok_n rfl hi
  obtain ⟨x, r0, e1, h1⟩ := am_i1_of h
  subst e1
  obtain ⟨i, r1, e1, h2⟩ := am_i1_of h1
  subst e1
  obtain ⟨t, a, r, e1, h3⟩ := am_r1_of h2
  subst e1
  clear h h1 h2
  have hov : am_okr t a := am_okh (am_okt (am_okt hst))
  obtain ⟨ht, hin, h⟩ := h3
  obtain ⟨k1, k2, k3⟩ := am_okr_a hov ht (by decide) ad sd
  have he := am_w_get (cy := cy) (ad := ad) (σ := σ) k1
  rw [am_cell_i (by rw [k2]; exact ht) (Or.inr (Or.inl rfl)), k2] at he
  rw [List.map_cons, List.map_cons, List.map_cons, k3]
  refine va_iast hx hb hE.1 hP hD hS a 1 he rfl hin hd (fun H1 locs1 hP1 hD1 hS1 => ?_)
  rw [am_w_set (σ' := am_si σ a i.toNatClampNeg x) k1 (by rw [am_cell_i (by rw [k2]; exact ht) (Or.inr (Or.inl rfl)), k2]; congr 4; simp [am_si, am_sj, am_u2]) (fun j _ e => am_cell_eq (by simp [am_si, am_sj, am_u2, e]) (by simp [am_si, am_sj, am_u2, e]))] at hP1 hD1
  exact h hlv (am_okt (am_okt (am_okt hst))) (am_hok_si hk (fun _ z _ => by rw [k2] at z; omega)) H1 locs1 ls hP1 hD1 hS1 hl
theorem am_1_lastore (C : am_Cx p R cl sl d s m args meth c M D cy sd sv A) {n : Nat} (hd : decode M.2.2.1 pc = .ok (.lastore, n)) (hi : am_iok M.2.2.2.1 pc (.lastore) n = true) (h : am_l1 st fun x r => am_i1 r fun i r => am_r1 r fun t a r => t.1 = 22 ∧ vp_in i t.2.1 ∧ (am_X p l e R cl sl s m args below meth c Q M D cy ad sd A) (pc + 1) lv r (am_sj σ a i.toNatClampNeg x)) : (am_X p l e R cl sl s m args below meth c Q M D cy ad sd A) pc lv st σ := by
  obtain ⟨hx, hb, hml, hown, hts, hr, hlk, ho, hE, hA, hm20, hR1, hR2, hR3, hR4⟩ := C
  intro hlv hst hk H locs ls hP hD hS hl
  obtain rfl := am_iok_n rfl hi
  obtain ⟨x, r0, e1, h1⟩ := am_l1_of h
  subst e1
  obtain ⟨i, r1, e1, h2⟩ := am_i1_of h1
  subst e1
  obtain ⟨t, a, r, e1, h3⟩ := am_r1_of h2
  subst e1
  clear h h1 h2
  have hov : am_okr t a := am_okh (am_okt (am_okt hst))
  obtain ⟨ht, hin, h⟩ := h3
  obtain ⟨k1, k2, k3⟩ := am_okr_a hov ht (by decide) ad sd
  have he := am_w_get (cy := cy) (ad := ad) (σ := σ) k1
  rw [am_cell_j (by rw [k2]; exact ht), k2] at he
  rw [List.map_cons, List.map_cons, List.map_cons, k3]
  refine va_last hx hb hE.1 hP hD hS a 2 he rfl hin hd (fun H1 locs1 hP1 hD1 hS1 => ?_)
  rw [am_w_set (σ' := am_sj σ a i.toNatClampNeg x) k1 (by rw [am_cell_j (by rw [k2]; exact ht), k2]; congr 4; simp [am_si, am_sj, am_u2]) (fun j _ e => am_cell_eq (by simp [am_si, am_sj, am_u2, e]) (by simp [am_si, am_sj, am_u2, e]))] at hP1 hD1
  exact h hlv (am_okt (am_okt (am_okt hst))) (am_hok_j hk rfl) H1 locs1 ls hP1 hD1 hS1 hl
theorem am_1_bastore (C : am_Cx p R cl sl d s m args meth c M D cy sd sv A) {n : Nat} (hd : decode M.2.2.1 pc = .ok (.bastore, n)) (hi : am_iok M.2.2.2.1 pc (.bastore) n = true) (h : am_i1 st fun x r => am_i1 r fun i r => am_r1 r fun t a r => (t.1 = 20 ∧ vp_in i t.2.1 ∧ (am_X p l e R cl sl s m args below meth c Q M D cy ad sd A) (pc + 1) lv r (am_si σ a i.toNatClampNeg (vp_nar .byte x))) ∨ (t.1 = 23 ∧ vp_in i t.2.1 ∧ (am_X p l e R cl sl s m args below meth c Q M D cy ad sd A) (pc + 1) lv r (am_si σ a i.toNatClampNeg (vp_nar .boolean x)))) : (am_X p l e R cl sl s m args below meth c Q M D cy ad sd A) pc lv st σ := by
  obtain ⟨hx, hb, hml, hown, hts, hr, hlk, ho, hE, hA, hm20, hR1, hR2, hR3, hR4⟩ := C
  intro hlv hst hk H locs ls hP hD hS hl
  obtain rfl := am_iok_n rfl hi
  obtain ⟨x, r0, e1, h1⟩ := am_i1_of h
  subst e1
  obtain ⟨i, r1, e1, h2⟩ := am_i1_of h1
  subst e1
  obtain ⟨t, a, r, e1, h3⟩ := am_r1_of h2
  subst e1
  clear h h1 h2
  have hov : am_okr t a := am_okh (am_okt (am_okt hst))
  rcases h3 with ⟨ht, hin, h⟩ | ⟨ht, hin, h⟩
  · skip
    obtain ⟨k1, k2, k3⟩ := am_okr_a hov ht (by decide) ad sd
    have he := am_w_get (cy := cy) (ad := ad) (σ := σ) k1
    rw [am_cell_i (by rw [k2]; exact ht) (Or.inl rfl), k2] at he
    rw [List.map_cons, List.map_cons, List.map_cons, k3]
    refine va_bast hx hb hE.1 hP hD hS a 0 he rfl hin hd (fun H1 locs1 hP1 hD1 hS1 => ?_)
    rw [am_w_set (σ' := am_si σ a i.toNatClampNeg (vp_nar .byte x)) k1 (by rw [am_cell_i (by rw [k2]; exact ht) (Or.inl rfl), k2]; congr 4; simp [am_si, am_sj, am_u2]) (fun j _ e => am_cell_eq (by simp [am_si, am_sj, am_u2, e]) (by simp [am_si, am_sj, am_u2, e]))] at hP1 hD1
    exact h hlv (am_okt (am_okt (am_okt hst))) (am_hok_si hk (fun _ z _ => by rw [k2] at z; omega)) H1 locs1 ls hP1 hD1 hS1 hl
  · skip
    obtain ⟨k1, k2, k3⟩ := am_okr_a hov ht (by decide) ad sd
    have he := am_w_get (cy := cy) (ad := ad) (σ := σ) k1
    rw [am_cell_i (by rw [k2]; exact ht) (Or.inr (Or.inr rfl)), k2] at he
    rw [List.map_cons, List.map_cons, List.map_cons, k3]
    refine va_zast hx hb hE.1 hP hD hS a 3 he rfl hin hd (fun H1 locs1 hP1 hD1 hS1 => ?_)
    rw [am_w_set (σ' := am_si σ a i.toNatClampNeg (vp_nar .boolean x)) k1 (by rw [am_cell_i (by rw [k2]; exact ht) (Or.inr (Or.inr rfl)), k2]; congr 4; simp [am_si, am_sj, am_u2]) (fun j _ e => am_cell_eq (by simp [am_si, am_sj, am_u2, e]) (by simp [am_si, am_sj, am_u2, e]))] at hP1 hD1
    exact h hlv (am_okt (am_okt (am_okt hst))) (am_hok_si hk (fun _ z _ => by rw [k2] at z; omega)) H1 locs1 ls hP1 hD1 hS1 hl
theorem am_1_aaload (C : am_Cx p R cl sl d s m args meth c M D cy sd sv A) {n : Nat} (hd : decode M.2.2.1 pc = .ok (.aaload, n)) (hi : am_iok M.2.2.2.1 pc (.aaload) n = true) (h : am_i1 st fun i r => am_r1 r fun t a r => vp_in i t.2.1 ∧ am_aa t a i (fun v => (am_X p l e R cl sl s m args below meth c Q M D cy ad sd A) (pc + 1) lv (v :: r) σ)) : (am_X p l e R cl sl s m args below meth c Q M D cy ad sd A) pc lv st σ := by
  obtain ⟨hx, hb, hml, hown, hts, hr, hlk, ho, hE, hA, hm20, hR1, hR2, hR3, hR4⟩ := C
  intro hlv hst hk H locs ls hP hD hS hl
  obtain rfl := am_iok_n rfl hi
  obtain ⟨i, r1, e1, h1⟩ := am_i1_of h
  subst e1
  obtain ⟨t, a, r, e1, h2⟩ := am_r1_of h1
  subst e1
  clear h h1
  obtain ⟨hin, h⟩ := h2
  have hov : am_okr t a := am_okh (am_okt hst)
  have hlt : i.toNatClampNeg < t.2.1 := Nat.not_le.mp fun q => hin (Or.inr q)
  unfold am_aa at h
  split at h
  · rename_i ht
    obtain ⟨k1, k2, k3⟩ := am_okr_a hov ht (by decide) ad sd
    have he := am_w_get (cy := cy) (ad := ad) (σ := σ) k1
    rw [am_cell_q (t := 24) (by rw [k2]; exact ht) (by decide), k2] at he
    have hn := (am_lay_n a k1).2.2.1 (by rw [k2]; omega)
    rw [k2] at hn
    have hl2 := am_lay_a k1 (j := i.toNatClampNeg) (by omega)
    unfold am_laya at hl2
    obtain ⟨t1, t2, t3⟩ := t
    dsimp only at ht hlt
    subst ht
    rw [k2] at hl2
    simp only [hlt, decide_true, Bool.not_true, Bool.false_or, Bool.and_eq_true, decide_eq_true_eq] at hl2
    rw [List.map_cons, List.map_cons, k3]
    refine va_ald2 hx hb hE.1 hP a 4 he rfl hin hd ?_
    have hX := h hlv (am_okc (Or.inr (Or.inr ⟨(show (21 : Nat) ≠ 0 by decide), (show (21 : Nat) ≠ 11 by decide), (show (21 : Nat) ≠ 12 by decide), hl2.1, hl2.2⟩)) (am_okt (am_okt hst))) hk H locs ls hP hD hS hl
    rw [List.map_cons, ac_v_r (show (21 : Nat) ≠ 0 by decide) (show (21 : Nat) ≠ 11 by decide) (show (21 : Nat) ≠ 12 by decide)] at hX
    exact hX
  · rename_i ht
    obtain ⟨k1, k2, k3⟩ := am_okr_a hov ht (by decide) ad sd
    have he := am_w_get (cy := cy) (ad := ad) (σ := σ) k1
    rw [am_cell_q (t := 25) (by rw [k2]; exact ht) (by decide), k2] at he
    have hn := (am_lay_n a k1).2.2.1 (by rw [k2]; omega)
    rw [k2] at hn
    have hl2 := am_lay_a k1 (j := i.toNatClampNeg) (by omega)
    unfold am_laya at hl2
    obtain ⟨t1, t2, t3⟩ := t
    dsimp only at ht hlt
    subst ht
    rw [k2] at hl2
    simp only [hlt, decide_true, Bool.not_true, Bool.false_or, Bool.and_eq_true, decide_eq_true_eq] at hl2
    rw [List.map_cons, List.map_cons, k3]
    refine va_aldq hx hb hE.1 hP a 5 he rfl hin hd ?_
    have hX := h hlv (am_okc (Or.inr (Or.inr ⟨(show (3 : Nat) ≠ 0 by decide), (show (3 : Nat) ≠ 11 by decide), (show (3 : Nat) ≠ 12 by decide), hl2.1, hl2.2⟩)) (am_okt (am_okt hst))) hk H locs ls hP hD hS hl
    rw [List.map_cons, ac_v_r (show (3 : Nat) ≠ 0 by decide) (show (3 : Nat) ≠ 11 by decide) (show (3 : Nat) ≠ 12 by decide)] at hX
    exact hX
  · rename_i ht
    obtain ⟨k1, k2, k3⟩ := am_okr_a hov ht (by decide) ad sd
    have he := am_w_get (cy := cy) (ad := ad) (σ := σ) k1
    rw [am_cell_q (t := 26) (by rw [k2]; exact ht) (by decide), k2] at he
    have hn := (am_lay_n a k1).2.2.1 (by rw [k2]; omega)
    rw [k2] at hn
    have hl2 := am_lay_a k1 (j := i.toNatClampNeg) (by omega)
    unfold am_laya at hl2
    obtain ⟨t1, t2, t3⟩ := t
    dsimp only at ht hlt
    subst ht
    rw [k2] at hl2
    simp only [hlt, decide_true, Bool.not_true, Bool.false_or, Bool.and_eq_true, decide_eq_true_eq] at hl2
    rw [List.map_cons, List.map_cons, k3]
    refine va_aldq hx hb hE.1 hP a 6 he rfl hin hd ?_
    have hX := h hlv (am_okc (Or.inr (Or.inr ⟨(show (6 : Nat) ≠ 0 by decide), (show (6 : Nat) ≠ 11 by decide), (show (6 : Nat) ≠ 12 by decide), hl2.1, hl2.2⟩)) (am_okt (am_okt hst))) hk H locs ls hP hD hS hl
    rw [List.map_cons, ac_v_r (show (6 : Nat) ≠ 0 by decide) (show (6 : Nat) ≠ 11 by decide) (show (6 : Nat) ≠ 12 by decide)] at hX
    exact hX
  · exact h.elim
theorem am_1_arraylength (C : am_Cx p R cl sl d s m args meth c M D cy sd sv A) {n : Nat} (hd : decode M.2.2.1 pc = .ok (.arraylength, n)) (hi : am_iok M.2.2.2.1 pc (.arraylength) n = true) (h : am_r1 st fun t a r => (match t.1 with
    | 11 => t = (11, 1, 0) ∧ (am_X p l e R cl sl s m args below meth c Q M D cy ad sd A) (pc + 1) lv (.inl (Int32.ofNat (am_len.getD (a - 16) 0)) :: r) σ
    | _ => (t.1 = 20 ∨ t.1 = 21 ∨ t.1 = 22) ∧ (am_X p l e R cl sl s m args below meth c Q M D cy ad sd A) (pc + 1) lv (.inl (Int32.ofNat t.2.1) :: r) σ)) : (am_X p l e R cl sl s m args below meth c Q M D cy ad sd A) pc lv st σ := by
  obtain ⟨hx, hb, hml, hown, hts, hr, hlk, ho, hE, hA, hm20, hR1, hR2, hR3, hR4⟩ := C
  intro hlv hst hk H locs ls hP hD hS hl
  obtain rfl := am_iok_n rfl hi
  obtain ⟨t, a, r, e1, h1⟩ := am_r1_of h
  subst e1
  clear h
  have hov : am_okr t a := am_okh hst
  split at h1
  · obtain ⟨ht, h⟩ := h1
    subst ht
    obtain ⟨q, hq, e16⟩ := am_okr_b hov
    subst e16
    rw [Nat.add_sub_cancel_left] at h
    have hva : ac_v ad sd (.inr (.inr ((11, 1, 0), 16 + q))) = .ref (sd (16 + q)) := rfl
    rw [List.map_cons, hva]
    exact va_tlen hx hb (hE.2.2.1.1 q hq).2.2.2 hS rfl hd (h hlv (am_okc trivial (am_okt hst)) hk H locs ls hP hD hS hl)
  · obtain ⟨ht, h⟩ := h1
    rcases ht with ht | ht | ht
    · obtain ⟨k1, k2, k3⟩ := am_okr_a hov ht (by decide) ad sd
      have he := am_w_get (cy := cy) (ad := ad) (σ := σ) k1
      rw [am_cell_i (by rw [k2]; exact ht) (Or.inl rfl), k2] at he
      rw [List.map_cons, k3]
      exact va_alen hx hb hE.1 hP a 0 he rfl rfl hd (h hlv (am_okc trivial (am_okt hst)) hk H locs ls hP hD hS hl)
    · obtain ⟨k1, k2, k3⟩ := am_okr_a hov ht (by decide) ad sd
      have he := am_w_get (cy := cy) (ad := ad) (σ := σ) k1
      rw [am_cell_i (by rw [k2]; exact ht) (Or.inr (Or.inl rfl)), k2] at he
      rw [List.map_cons, k3]
      exact va_alen hx hb hE.1 hP a 1 he rfl rfl hd (h hlv (am_okc trivial (am_okt hst)) hk H locs ls hP hD hS hl)
    · obtain ⟨k1, k2, k3⟩ := am_okr_a hov ht (by decide) ad sd
      have he := am_w_get (cy := cy) (ad := ad) (σ := σ) k1
      rw [am_cell_j (by rw [k2]; exact ht), k2] at he
      rw [List.map_cons, k3]
      exact va_alen hx hb hE.1 hP a 2 he rfl rfl hd (h hlv (am_okc trivial (am_okt hst)) hk H locs ls hP hD hS hl)
theorem am_1_getstatic (C : am_Cx p R cl sl d s m args meth c M D cy sd sv A) {n : Nat} {k : Nat} (hd : decode M.2.2.1 pc = .ok (.getstatic k, n)) (hi : am_iok M.2.2.2.1 pc (.getstatic k) n = true) (h : am_gs M.1 k = true ∧ (am_X p l e R cl sl s m args below meth c Q M D cy ad sd A) (pc + 3) lv (.inl 1 :: st) σ) : (am_X p l e R cl sl s m args below meth c Q M D cy ad sd A) pc lv st σ := by
  obtain ⟨hx, hb, hml, hown, hts, hr, hlk, ho, hE, hA, hm20, hR1, hR2, hR3, hR4⟩ := C
  intro hlv hst hk H locs ls hP hD hS hl
  obtain rfl := am_iok_n rfl hi
  obtain ⟨e10, hT⟩ := am_gs_ok h.1
  rw [e10] at hown
  exact va_gets hx hb hE.2.2.2.2.1 hS hown (hts _ hT) (fun _ z => z) hd (h.2 hlv (am_okc trivial hst) hk H locs ls hP hD hS hl)
end AMP
