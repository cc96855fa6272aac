/-! WHAT IS KNOWN AT THE START: the classes, the arrays' classes, the Strings. -/
theorem kn_arrP {args : Array Value} {s : State} {t : FieldType} (h9 : ∀ c, s.vm.findClass ("[" ++ t.toString) = some c → va_RA s c t) (h : (Cond.arrayClass t).before args s = true) : ∃ c, ArrOfT s c t ∧ va_RA s c t := by
  obtain ⟨c, k, comp, h1, h2, h3⟩ := Cond.arrayClass_spec h
  exact ⟨c, fun N z => ⟨(fun q hq => by cases hq), k, h2, comp, h3⟩, h9 c h1⟩
theorem kn_arrA {args : Array Value} {s : State} {t : FieldType} (h : (Cond.arrayOver (.array t)).before args s = true) : ∃ c, ArrOfT s c (.array t) ∧ va_RA s c (.array t) := by
  obtain ⟨comp, c, k, h1, h2, h3, h4⟩ := kn_overA h
  exact ⟨c, fun N z => ⟨(fun q hq => by cases hq), k, h2, comp, h3⟩, h4⟩
theorem kn_arrO {args : Array Value} {s : State} {C : String} (h : (Cond.arrayOver (.object C)).before args s = true) : ∃ c, ArrOfT s c (.object C) ∧ va_RA s c (.object C) := by
  obtain ⟨comp, c, k, h1, -, h2, h3, h4⟩ := Cond.arrayOver_spec h
  exact ⟨c, fun N z => ⟨(fun q hq => by cases hq), k, h2, comp, h3⟩, k, comp, h2, h3, h1, h4⟩
theorem kn_ins : ∀ ci, ci < 10 → lw_tbl[([250, 358, 418, 184, 156, 439, 299, 279, 148, 1290] : List Nat).getD ci 0]? = some (.instantiable (am_nm ci) (am_nf ci)) := by decide +kernel
theorem kn_srf : ∀ e ∈ am_strs, lw_tbl[e.2.2]? = some (.stringRef RX4 e.1 e.2.1) := by decide +kernel
theorem kn_wnest : ∀ q ∈ kn_nest, Cond.methodLinkNest q.1 q.2.1 q.2.2 RX8 ∈ lw_tbl := by decide +kernel
theorem kn_wnw : ∀ w ∈ am_nw, w ∈ lw_tbl ∧ w.onTables = true := by decide +kernel
theorem kn_at {w : Cond} {p : Nat} (h : lw_tbl[p]? = some w) : w ∈ lw_tbl := List.mem_of_getElem? h
theorem kn_cls_end {c : Nat} {q : vw_C} (h : am_cls[c]? = some q) : c < 10 ∧ q = (am_nm c, am_TT c, am_nf c) := by
  have hc : c < 10 := (List.getElem?_eq_some_iff.mp h).1
  rw [am_cls_at c hc] at h
  exact ⟨hc, (Option.some.inj h).symm⟩
theorem kn_known {p : Program} {s : State} {m : MethodId} {meth : Method} {c : Code} {b L : Nat} {xs : Nat → Int32} (C0 : lw_At p s m meth c b L xs) : ∃ (D : va_G) (cy : Nat → ClassId) (sd sv : Nat → Nat), am_E D cy sd sv (fun q : Nat => s.heap.size ≤ q) s s.heap ∧ kn_E D cy s := by
  obtain ⟨hx, hb, hr, hml, hown, hts, hX, hbl, hlocks, hgv⟩ := C0
  have hf : ∀ w ∈ kn_fl, w.before #[Value.ref b] s = true := flat_of_before _ hgv
  have hg : ∀ (k : Nat) (w : Cond), kn_fl[k]? = some w → w.before #[Value.ref b] s = true := fun k w h => hf w (List.mem_of_getElem? h)
  have ht : ∀ (k : Nat) (w : Cond), lw_tbl[k]? = some w → w.before #[Value.ref b] s = true := fun k w h => hts w (List.mem_of_getElem? h)
  have hA : ∀ a : Nat, a < s.heap.size → ¬ (fun q : Nat => s.heap.size ≤ q) a := fun a h => Nat.not_le.mpr h
  -- classes
  have k0 : ∀ ci : Nat, ∃ q : ClassId × (Nat → Nat), ci < 10 → u_Kn s (am_nm ci) (am_TT ci) (am_nf ci) q.1 q.2 := by
    intro ci
    by_cases hci : ci < 10
    · obtain ⟨cC, iS, hK⟩ := u_known (ws := lw_tbl) (C := am_nm ci) (T := am_TT ci) (N := am_nf ci) (n := am_nf ci) hts (fun w hw => (am_ws_in ci hci w hw).1) (ht _ _ (kn_ins ci hci))
      exact ⟨(cC, iS), fun _ => hK⟩
    · exact ⟨(0, fun _ => 0), fun h => absurd h hci⟩
  obtain ⟨dq, hdq⟩ := Classical.axiomOfChoice k0
  -- arrays
  obtain ⟨c20, a20⟩ := kn_arrP (t := .byte) (fun _ h => h) (ht 182 _ (by decide +kernel))
  obtain ⟨c21, a21⟩ := kn_arrP (t := .int) (fun _ h => h) (ht 248 _ (by decide +kernel))
  obtain ⟨c22, a22⟩ := kn_arrP (t := .long) (fun _ h => h) (ht 461 _ (by decide +kernel))
  obtain ⟨c23, a23⟩ := kn_arrP (t := .boolean) (fun _ h => h) (ht 1443 _ (by decide +kernel))
  obtain ⟨c24, a24⟩ := kn_arrA (t := .int) (ht 190 _ (by decide +kernel))
  obtain ⟨c25, a25⟩ := kn_arrO (C := RX2) (ht 275 _ (by decide +kernel))
  obtain ⟨c26, a26⟩ := kn_arrO (C := RX5) (ht 277 _ (by decide +kernel))
  -- Strings
  obtain ⟨adK, adV, hS, hev⟩ := vk_Sof (tm := kt) (len := am_len) (byt := am_byt) (A := fun q : Nat => s.heap.size ≤ q) kt_N (fun i hi => hg _ _ (kt_ex i hi)) (fun i hi => hg _ _ (kt_co i hi)) (fun i hi => hg _ _ (kt_ar i hi)) (fun i hi => hg _ _ (kt_le i hi)) (fun i hi j hj => hg _ _ (kt_el i hi j hj)) (fun i j hi hj hij => by
    rcases Nat.lt_or_gt_of_ne hij with h | h
    · exact Or.inl (hg _ _ (kt_ne j hj i h))
    · exact Or.inr (hg _ _ (kt_ne i hi j h))) hA
  let cy : Nat → ClassId := fun k => if k = 20 then c20 else if k = 21 then c21 else if k = 22 then c22 else if k = 23 then c23 else if k = 24 then c24 else if k = 25 then c25 else c26
  let sd : Nat → Nat := fun i => if i < 16 then adK i else adV (i - 16)
  have hK : va_K (fun k => (dq k).1, fun k => (dq k).2) am_cls (am_tys cy) s := by
    refine ⟨fun ci q hq => ?_, fun k q hq => ?_⟩
    · obtain ⟨h1, rfl⟩ := kn_cls_end hq
      exact hdq ci h1
    · match k, hq with
      | 0, hq => cases hq; exact a20
      | 1, hq => cases hq; exact a21
      | 2, hq => cases hq; exact a22
      | 3, hq => cases hq; exact a23
      | 4, hq => cases hq; exact a24
      | 5, hq => cases hq; exact a25
      | 6, hq => cases hq; exact a26
      | k + 7, hq => cases hq
  refine ⟨(fun k => (dq k).1, fun k => (dq k).2), cy, sd, fun _ => 0, ⟨hK, fun w hw => va_Nw.of (kn_wnw w hw).2 (hts w (kn_wnw w hw).1), ?_, ?_, ?_, ?_⟩, hK, fun q hq => va_Nw.of rfl (hts _ (kn_wnest q hq)), ?_, ?_, ?_⟩
  · refine ⟨fun i hi => ?_, fun i j hi hj e => ?_⟩
    · have e1 : sd i = adK i := if_pos hi
      have e2 : sd (16 + i) = adV i := (if_neg (by omega)).trans (by rw [show 16 + i - 16 = i by omega])
      show va_O _ (sd i) _ _ _ ∧ va_OF _ _ _ _ (sd i) _ _ _ ∧ va_OF _ _ _ (.ref (sd (16 + i))) (sd i) _ _ _ ∧ va_T _ (sd (16 + i)) _ _ _ _ _
      rw [e1, e2]
      exact hS.1 i hi
    · have e1 : sd i = adK i := if_pos hi
      have e2 : sd j = adK j := if_pos hj
      rw [e1, e2] at e
      exact hS.2 i j hi hj e
  · intro i e he
    have hi : i < 16 := (List.getElem?_eq_some_iff.mp he).1
    have e1 : sd i = adK i := if_pos hi
    rw [e1]
    have h2 := hev i hi
    have e2 : am_strs.getD i (0, "", 0) = e := by rw [List.getD_eq_getElem?_getD, he]; rfl
    have e3 : kt i = .string RX4 e.1 := by unfold kt; rw [e2]
    rw [e3] at h2
    exact vk_R.of (ht _ _ (kn_srf e (List.mem_of_getElem? he))) h2
  · exact va_Zof (ht 569 _ (by decide +kernel)) (ht 140 _ (by decide +kernel)) (va_eqi (hg _ _ kt_cs)) hA
  · exact va_Zqof (ht 585 _ (by decide +kernel)) (ht 142 _ (by decide +kernel)) (hg _ _ kt_sf) hA
  · exact ht 275 (.arrayOver (.object RX2)) (by decide +kernel)
  · exact ht 277 (.arrayOver (.object RX5)) (by decide +kernel)
  · exact ht 190 (.arrayOver (.array .int)) (by decide +kernel)
