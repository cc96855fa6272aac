/-! THE SIMULATION: what the abstract machine does, the machine does. -/
def am_Str (sd sv : Nat → Nat) (A : Nat → Prop) (U : State) (H : Heap) : Prop := vk_S 16 am_len am_byt sd (fun i => sd (16 + i)) A U H ∧ (∀ (i : Nat) (e : Nat × String × Nat), am_strs[i]? = some e → vk_R RX4 e.1 e.2.1 (sd i) U) ∧ va_Z "java/lang/String" "COMPACT_STRINGS" "Z" (.int 1) A U H ∧ va_Zq "jdk/internal/util/Preconditions" "SIOOBE_FORMATTER" "Ljava/util/function/BiFunction;" A U H
def am_E (D : va_G) (cy : Nat → ClassId) (sd sv : Nat → Nat) (A : Nat → Prop) (U : State) (H : Heap) : Prop := va_K D am_cls (am_tys cy) U ∧ (∀ w ∈ am_nw, va_Nw w U) ∧ am_Str sd sv A U H
theorem am_E.call {D : va_G} {cy : Nat → ClassId} {sd sv : Nat → Nat} {A A1 : Nat → Prop} {s U : State} {H : Heap} {locs : List Loc} (h : am_E D cy sd sv A s s.heap) (hS : va_S A s.heap H locs) (hA : ∀ q, A1 q → A q) (hU : U.heap = H) (hW : s.WarmedH U.vm) : am_E D cy sd sv A1 U U.heap := by
  obtain ⟨h1, h2, h3, h4, h5, h6⟩ := h
  rw [hU]
  refine ⟨va_K.moved hW.alike h1, fun w hw => ?_, vk_S.narrow (vk_S.moved hW.alike (h3.kept hS.2.1)) hA, fun i e he => (h4 i e he).warm hW, va_Z.narrow (va_Z.moved hW.alike (h5.kept hS.2.1)) hA, va_Zq.narrow (va_Zq.moved hW.alike (h6.kept hS.2.1)) hA⟩
  have h9 := h2 w hw
  simp only [am_nw, List.mem_cons, List.not_mem_nil, or_false] at hw
  rcases hw with rfl | rfl | rfl
  · exact va_Nw.warmM hW h9
  · exact va_Nw.warmM hW h9
  · exact va_Nw.warmM hW h9
theorem am_E.blind {D : va_G} {cy : Nat → ClassId} {sd sv : Nat → Nat} {A : Nat → Prop} {U : State} {g : JFrame} {mk : MethodId} {a : Array Value} (h : am_E D cy sd sv A U U.heap) : am_E D cy sd sv A (U.calling g mk a) (U.calling g mk a).heap := by
  obtain ⟨h1, h2, h3, h4, h5, h6⟩ := h
  have hv : U.vm.Alike (U.calling g mk a).vm := Vm.Alike.refl U.vm
  refine ⟨va_K.moved hv h1, fun w hw => ?_, vk_S.moved hv h3, fun i e he => vk_R.same (u := U) rfl (h4 i e he), va_Z.moved hv h5, va_Zq.moved hv h6⟩
  have h9 := h2 w hw
  simp only [am_nw, List.mem_cons, List.not_mem_nil, or_false] at hw
  rcases hw with rfl | rfl | rfl
  · exact va_Nw.same (u := U) rfl rfl h9
  · exact va_Nw.same (u := U) rfl rfl h9
  · exact va_Nw.same (u := U) rfl rfl h9
def am_rm (d : Nat) : Room := { frames := d, cells := 0, slots := 0, locals := 60 * d }
def am_ws (M : AM) : List Cond := .code M.2.1 M.2.2.1 M.2.2.2.1 M.2.2.2.2.1 :: am_T
def am_In (D : va_G) (cy : Nat → ClassId) (ad sd sv : Nat → Nat) (σ : AS) (sz : Nat) : State → Prop := fun U => U.heap.size = sz ∧ va_P D am_cls (am_w cy ad σ) U.heap ∧ va_D (fun _ => True) (am_w cy ad σ) ∧ am_E D cy sd sv (va_A (am_w cy ad σ) sz) U U.heap
def am_Q (D : va_G) (cy : Nat → ClassId) (ad sd : Nat → Nat) (σ' : AS) (r : Option AV) (A : Nat → Prop) : Array Value → State → Outcome → State → Prop := fun _ st oc t => (oc = .returned (r.map (ac_v ad sd)) ∧ am_hok σ' ∧ (∀ v, r = some v → am_okv v) ∧ va_P D am_cls (am_w cy ad σ') t.heap) ∧ va_F A st t
def am_Ct (l : Launch) (d : Nat) : AP := fun M as σ σ' r => Cond.code M.2.1 M.2.2.1 M.2.2.2.1 M.2.2.2.2.1 ∈ am_T ∧ ∀ (D : va_G) (cy : Nat → ClassId) (ad sd sv : Nat → Nat) (sz : Nat), (∀ v ∈ as, am_okv v) → am_hok σ → Met l M.2.1 (am_ws M) (am_rm d) (va_Pc (as.map (ac_v ad sd)) (am_In D cy ad sd sv σ sz)) (am_Q D cy ad sd σ' r (va_A (am_w cy ad σ) sz)) 0 0 (va_A (am_w cy ad σ) sz)
theorem am_ws_in2 {M m : AM} (h : Cond.code m.2.1 m.2.2.1 m.2.2.2.1 m.2.2.2.2.1 ∈ am_T) : GoodIn (am_ws M) (am_ws m) := by
  intro w hw
  have hT : w ∈ am_T := by
    rcases List.mem_cons.mp hw with h1 | h1
    · rw [h1]; exact h
    · exact h1
  exact ⟨List.mem_cons_of_mem _ hT, good_of_word (am_T_good w hT)⟩
def am_ilen : Instr → Nat
  | .bipush _ => 2
  | .iload _ => 2
  | .lload _ => 2
  | .aload _ => 2
  | .istore _ => 2
  | .lstore _ => 2
  | .astore _ => 2
  | .ldc _ => 2
  | .sipush _ => 3
  | .ldc_w _ => 3
  | .ldc2_w _ => 3
  | .iinc _ _ => 3
  | .ifCond _ _ => 3
  | .if_icmp _ _ => 3
  | .goto _ => 3
  | .ifnull _ => 3
  | .getfield _ => 3
  | .getstatic _ => 3
  | .putfield _ => 3
  | .invokestatic _ => 3
  | .invokevirtual _ => 3
  | _ => 1
def am_ix (nL pc : Nat) : Instr → Bool
  | .bipush n => decide (-128 ≤ n) && decide (n < 128)
  | .sipush n => decide (-32768 ≤ n) && decide (n < 32768)
  | .istore_n n => decide ((n : Nat) < nL)
  | .istore n => decide (n < nL)
  | .astore_n n => decide ((n : Nat) < nL)
  | .astore n => decide (n < nL)
  | .lstore_n n => decide ((n : Nat) + 1 < nL)
  | .lstore n => decide (n + 1 < nL)
  | .iinc n _ => decide (n < nL)
  | .ifCond _ off => decide (0 ≤ (pc : Int) + off)
  | .if_icmp _ off => decide (0 ≤ (pc : Int) + off)
  | .goto off => decide (0 ≤ (pc : Int) + off)
  | .ifnull off => decide (0 ≤ (pc : Int) + off)
  | .tableswitch d lo hi offs => decide (0 ≤ (pc : Int) + d) && offs.toList.all (fun o => decide (0 ≤ (pc : Int) + o)) && decide (lo + offs.toList.length = hi + 1) && decide (-1000000 < lo) && decide (hi < 1000000)
  | .lookupswitch d ps => decide (0 ≤ (pc : Int) + d) && ps.toList.all (fun q => decide (0 ≤ (pc : Int) + q.2) && decide (-1000000 < q.1) && decide (q.1 < 1000000)) && (ps.toList.zip (ps.toList.drop 1)).all (fun (a, next) => a.1 < next.1)
  | _ => true
def am_sw : Instr → Bool
  | .tableswitch _ _ _ _ => true
  | .lookupswitch _ _ => true
  | _ => false
def am_iok (nL pc : Nat) (i : Instr) (n : Nat) : Bool := (am_sw i || n == am_ilen i) && am_ix nL pc i
theorem am_tg_eq {pc : Nat} {off : Int} (h : 0 ≤ (pc : Int) + off) : (pc : Int) + off = (am_tg pc off : Nat) := by
  unfold am_tg
  omega
theorem am_bip {n : Int} (h1 : -128 ≤ n) (h2 : n < 128) : (Int8.ofInt n).toInt32 = am_ic n := by
  rw [← am_ic_eq]
  apply Int32.toInt_inj.mp
  rw [Int8.toInt_toInt32, Int8.toInt_ofInt, Int32.toInt_ofInt, show Int8.size = 256 from rfl, show Int32.size = 4294967296 from rfl]
  rw [Int.bmod_eq_of_le (by omega) (by omega), Int.bmod_eq_of_le (by omega) (by omega)]
theorem am_sip {n : Int} (h1 : -32768 ≤ n) (h2 : n < 32768) : (Int16.ofInt n).toInt32 = am_ic n := by
  rw [← am_ic_eq]
  apply Int32.toInt_inj.mp
  rw [Int16.toInt_toInt32, Int16.toInt_ofInt, Int32.toInt_ofInt, show Int16.size = 65536 from rfl, show Int32.size = 4294967296 from rfl]
  rw [Int.bmod_eq_of_le (by omega) (by omega), Int.bmod_eq_of_le (by omega) (by omega)]
theorem am_ic_toInt {n : Int} (h1 : -1000000 < n) (h2 : n < 1000001) : (am_ic n).toInt = n := by
  rw [← am_ic_eq, Int32.toInt_ofInt, show Int32.size = 4294967296 from rfl]
  exact Int.bmod_eq_of_le (by omega) (by omega)
section AMS
variable {p : Program} {l : Launch} {e : Env} {R : Room} {s : State} {m : MethodId} {args : Array Value} {below : List Frame} {meth : Method} {c : Code} {H : Heap} {locs : List Loc} {Q : State → Prop}
variable {D : va_G} {cy : Nat → ClassId} {ad sd sv : Nat → Nat} {A : Nat → Prop} {cl sl : Nat} {M : AM} {pc : Nat} {ls : Array Slot} {lv : AL} {st : List AV} {σ : AS} {d : Nat}
def am_W (p : Program) (l : Launch) (e : Env) (R : Room) (cl sl : Nat) (s : State) (m : MethodId) (args : Array Value) (below : List Frame) (meth : Method) (c : Code) (Q : State → Prop) (D : va_G) (cy : Nat → ClassId) (ad sd : Nat → Nat) (A : Nat → Prop) (nL : Nat) (pc : Nat) (lv : AL) (st : List AV) (σ : AS) : Prop :=
  (∀ q ∈ lv, am_okv q.2) → (∀ v ∈ st, am_okv v) → am_hok σ → ∀ (H : Heap) (locs : List Loc) (ls : Array Slot), va_P D am_cls (am_w cy ad σ) H → va_D A (am_w cy ad σ) → va_S A s.heap H locs → lv_has ls nL (ac_l ad sd lv) → W p l e R s m args below meth c H locs cl sl Q (F0 m pc ls (st.map (ac_v ad sd)))
theorem am_go {σ1 : AS} {v : Option AV} {rest st0 : List Value} {a : Array Value} {A1 : Nat → Prop} (hr : va_Run p l e R s m args below meth c H locs cl sl 0 0 (F0 m pc ls st0) rest (am_Q D cy ad sd σ1 v A1 a) A1) (hS : va_S A s.heap H locs) (hA : ∀ q, A1 q → A q)
    (kk : ∀ (H1 : Heap) (locs1 : List Loc), am_hok σ1 → (∀ x, v = some x → am_okv x) → va_P D am_cls (am_w cy ad σ1) H1 → va_S A s.heap H1 locs1 → W p l e R s m args below meth c H1 locs1 cl sl Q (F0 m (pc + 3) ls ((v.map (ac_v ad sd)).toList ++ rest))) : W p l e R s m args below meth c H locs cl sl Q (F0 m pc ls st0) := by
  intro T hT X
  obtain ⟨v', st₀, t, T', L, h0, X', hL, e1, e2, ⟨⟨hv, hk, ho, hp⟩, hz, hq⟩, st⟩ := hr T hT X
  cases hv
  rw [h0] at hz hq
  obtain ⟨t2, a1, b1⟩ := kk T'.heap (locs ++ L) hk ho (by rw [e1]; exact hp)
    ⟨Nat.le_trans hS.1 (by rw [e1]; exact hz), fun q h1 h2 => by rw [e1, hq q (Nat.lt_of_lt_of_le h1 hS.1) (fun z => h2 (hA q z))]; exact hS.2.1 q h1 h2, fun q hq2 => by
      rcases List.mem_append.mp hq2 with h | h
      · exact hS.2.2 q h
      · exact hA _ (hL q h)⟩ T' rfl X'
  exact ⟨t2, st t2 a1, b1⟩
theorem am_sub (hD : va_D A (am_w cy ad σ)) (hS : va_S A s.heap H locs) (hA : ∀ q, s.heap.size ≤ q → A q) : ∀ q, va_A (am_w cy ad σ) H.size q → A q := by
  intro q h
  rcases h with ⟨k, e, h⟩ | h
  · exact hD.2 k (q, e) h
  · exact hA q (Nat.le_trans hS.1 h)
theorem am_pre {as : List AV} (hE : am_E D cy sd sv A s s.heap) (hP : va_P D am_cls (am_w cy ad σ) H) (hD : va_D A (am_w cy ad σ)) (hS : va_S A s.heap H locs) (hA : ∀ q, s.heap.size ≤ q → A q) : FrameBlind (va_Pc (as.map (ac_v ad sd)) (am_In D cy ad sd sv σ H.size)) ∧ ∀ U : State, U.heap = H → s.WarmedH U.vm → va_Pc (as.map (ac_v ad sd)) (am_In D cy ad sd sv σ H.size) (as.map (ac_v ad sd)).toArray U := by
  refine ⟨fun a U g mk q => ?_, fun U hU hW => ⟨rfl, by rw [hU], by rw [hU]; exact hP, hD.weaken (fun _ _ _ _ => trivial), hE.call hS (am_sub hD hS hA) hU hW⟩⟩
  obtain ⟨q0, q1, q2, q3, q4⟩ := q
  exact ⟨q0, q1, q2, q3, q4.blind⟩
end AMS
