/-! BLOCKS: how a method's walk is written. -/
def am_L (M : AM) (P : AP) (fin : Option AV → AS → Prop) (X : Nat → AL → List AV → AS → Prop) : List (Nat × Instr × Nat) → Nat → AL → List AV → AS → Prop
  | [], pc, lv, st, σ => X pc lv st σ
  | (q, i, _) :: is, pc, lv, st, σ => match Nat.beq pc q with
    | true => am_1 M P fin (am_L M P fin X is) i pc lv st σ
    | false => False
theorem am_gi_mono {lv : AL} {n : Nat} {k k' : Int32 → Prop} (h : am_gi lv n k) (hk : ∀ x, k x → k' x) : am_gi lv n k' := by
  unfold am_gi at h ⊢
  split at h
  · exact hk _ h
  · exact h
theorem am_gl_mono {lv : AL} {n : Nat} {k k' : Int64 → Prop} (h : am_gl lv n k) (hk : ∀ x, k x → k' x) : am_gl lv n k' := by
  unfold am_gl at h ⊢
  split at h
  · exact hk _ h
  · exact h
theorem am_gr_mono {lv : AL} {n : Nat} {k k' : AK → Nat → Prop} (h : am_gr lv n k) (hk : ∀ x y, k x y → k' x y) : am_gr lv n k' := by
  unfold am_gr at h ⊢
  split at h
  · exact hk _ _ h
  · exact h
theorem am_i1_mono {st : List AV} {k k' : Int32 → List AV → Prop} (h : am_i1 st k) (hk : ∀ x r, k x r → k' x r) : am_i1 st k' := by
  unfold am_i1 at h ⊢
  split at h
  · exact hk _ _ h
  · exact h
theorem am_l1_mono {st : List AV} {k k' : Int64 → List AV → Prop} (h : am_l1 st k) (hk : ∀ x r, k x r → k' x r) : am_l1 st k' := by
  unfold am_l1 at h ⊢
  split at h
  · exact hk _ _ h
  · exact h
theorem am_r1_mono {st : List AV} {k k' : AK → Nat → List AV → Prop} (h : am_r1 st k) (hk : ∀ x y r, k x y r → k' x y r) : am_r1 st k' := by
  unfold am_r1 at h ⊢
  split at h
  · exact hk _ _ _ h
  · exact h
theorem am_i2_mono {st : List AV} {k k' : Int32 → Int32 → List AV → Prop} (h : am_i2 st k) (hk : ∀ x y r, k x y r → k' x y r) : am_i2 st k' :=
  am_i1_mono h fun _ _ h => am_i1_mono h fun _ _ h => hk _ _ _ h
theorem am_l2_mono {st : List AV} {k k' : Int64 → Int64 → List AV → Prop} (h : am_l2 st k) (hk : ∀ x y r, k x y r → k' x y r) : am_l2 st k' :=
  am_l1_mono h fun _ _ h => am_l1_mono h fun _ _ h => hk _ _ _ h
theorem am_nn_mono {t : AK} {i : Nat} {B B' : Prop} (h : am_nn t i B) (hk : B → B') : am_nn t i B' := by
  unfold am_nn at h ⊢
  split at h
  · exact h
  · exact ⟨h.1, hk h.2⟩
  · exact hk h
theorem am_cz_mono {c : ClassFile.Cond} {x : Int32} {B B' C C' : Prop} (h : am_cz c x B C) (h1 : B → B') (h2 : C → C') : am_cz c x B' C' := by
  cases c <;> exact ⟨fun z => h1 (h.1 z), fun z => h2 (h.2 z)⟩
theorem am_cc_mono {c : ClassFile.Cond} {x y : Int32} {B B' C C' : Prop} (h : am_cc c x y B C) (h1 : B → B') (h2 : C → C') : am_cc c x y B' C' := by
  cases c <;> exact ⟨fun z => h1 (h.1 z), fun z => h2 (h.2 z)⟩
theorem am_tw_mono {x : Int32} {Y Y' : Int → Prop} {d : Int} (hk : ∀ o, Y o → Y' o) : ∀ (os : List Int) (k : Int), am_tw x Y d k os → am_tw x Y' d k os
  | [], _, h => hk _ h
  | _ :: os, k, h => ⟨fun z => hk _ (h.1 z), fun z => am_tw_mono hk os (k + 1) (h.2 z)⟩
theorem am_lw_mono {x : Int32} {Y Y' : Int → Prop} {d : Int} (hk : ∀ o, Y o → Y' o) : ∀ (ps : List (Int × Int)), am_lw x Y d ps → am_lw x Y' d ps
  | [], h => hk _ h
  | _ :: os, h => ⟨fun z => hk _ (h.1 z), fun z => am_lw_mono hk os (h.2 z)⟩
theorem am_gf_mono {e : Nat × Nat × AK} {o f : Nat} {σ : AS} {k k' : AV → Prop} (h : am_gf e o f σ k) (hk : ∀ v, k v → k' v) : am_gf e o f σ k' := by
  unfold am_gf at h ⊢
  split at h <;> exact hk _ h
theorem am_pf_mono {e : Nat × Nat × AK} {v : AV} {o f : Nat} {σ : AS} {k k' : AS → Prop} (h : am_pf e v o f σ k) (hk : ∀ σ, k σ → k' σ) : am_pf e v o f σ k' := by
  unfold am_pf at h ⊢
  split at h
  · exact hk _ h
  · exact ⟨h.1, hk _ h.2⟩
  · exact hk _ h
  · split at h
    · exact hk _ h
    · exact hk _ h
    · exact h
  · exact h
theorem am_aa_mono {t : AK} {a : Nat} {i : Int32} {k k' : AV → Prop} (h : am_aa t a i k) (hk : ∀ v, k v → k' v) : am_aa t a i k' := by
  unfold am_aa at h ⊢
  split at h
  · exact hk _ h
  · exact hk _ h
  · exact hk _ h
  · exact h
theorem am_cp_mono {t u : AK} {a b : Nat} {sp dp n : Int32} {σ : AS} {k k' : AS → Prop} (h : am_cp t u a b sp dp n σ k) (hk : ∀ σ, k σ → k' σ) : am_cp t u a b sp dp n σ k' := by
  refine ⟨h.1, ?_⟩
  have h2 := h.2
  split at h2
  · exact hk _ h2
  · exact hk _ h2
  · exact h2
theorem am_cl1_mono {P : AP} {m : AM} {as : List AV} {σ : AS} {k k' : Option AV → AS → Prop} (h : am_cl1 P m as σ k) (hk : ∀ v σ, k v σ → k' v σ) : am_cl1 P m as σ k' := by
  obtain ⟨σ', v, h1, h2⟩ := h
  exact ⟨σ', v, h1, hk _ _ h2⟩
theorem am_ivs_mono {M : AM} {P : AP} {X Y : Nat → AL → List AV → AS → Prop} {ix pc : Nat} {lv : AL} {st : List AV} {σ : AS} (hk : ∀ pc lv st σ, X pc lv st σ → Y pc lv st σ) (h : am_ivs M P X ix pc lv st σ) : am_ivs M P Y ix pc lv st σ := by
  unfold am_ivs at h ⊢
  split at h
  · split at h
    · exact ⟨h.1, am_cl1_mono h.2 fun _ _ h => hk _ _ _ _ h⟩
    · exact h
  · split at h
    · exact ⟨h.1, am_cl1_mono h.2 fun _ _ h => hk _ _ _ _ h⟩
    · exact h
  · exact h
  · split at h
    · exact am_i2_mono h fun _ _ _ h => ⟨h.1, hk _ _ _ _ h.2⟩
    · exact am_i2_mono h fun _ _ _ h => ⟨h.1, hk _ _ _ _ h.2⟩
    · exact h
    · exact ⟨h.1, am_i1_mono h.2 fun _ _ h => am_i1_mono h fun _ _ h => am_r1_mono h fun _ _ _ h => am_i1_mono h fun _ _ h => am_r1_mono h fun _ _ _ h => ⟨h.1, am_cp_mono h.2 fun _ h => hk _ _ _ _ h⟩⟩
theorem am_ivv_mono {M : AM} {P : AP} {X Y : Nat → AL → List AV → AS → Prop} {ix pc : Nat} {lv : AL} {st : List AV} {σ : AS} (hk : ∀ pc lv st σ, X pc lv st σ → Y pc lv st σ) (h : am_ivv M P X ix pc lv st σ) : am_ivv M P Y ix pc lv st σ := by
  unfold am_ivv at h ⊢
  split at h
  · split at h
    · exact ⟨h.1, h.2.1, am_nn_mono h.2.2 fun h => am_cl1_mono h fun _ _ h => hk _ _ _ _ h⟩
    · exact h
  · exact h
set_option maxHeartbeats 4000000 in
theorem am_1_mono {M : AM} {P : AP} {fin : Option AV → AS → Prop} {X Y : Nat → AL → List AV → AS → Prop} {i : Instr} {pc : Nat} {lv : AL} {st : List AV} {σ : AS} (hk : ∀ pc lv st σ, X pc lv st σ → Y pc lv st σ) (h : am_1 M P fin X i pc lv st σ) : am_1 M P fin Y i pc lv st σ := by
  cases i with
  | iconst _ => exact hk _ _ _ _ h
  | bipush _ => exact hk _ _ _ _ h
  | sipush _ => exact hk _ _ _ _ h
  | lconst _ => exact hk _ _ _ _ h
  | ldc k =>
    have h : (match am_kc M.1 k with
      | some v => X (pc + 2) lv (.inl v :: st) σ
      | none => match am_ks M.1 k with
        | some q => X (pc + 2) lv (.inr (.inr ((11, 0, 0), q)) :: st) σ
        | none => False) := h
    show (match am_kc M.1 k with
      | some v => Y (pc + 2) lv (.inl v :: st) σ
      | none => match am_ks M.1 k with
        | some q => Y (pc + 2) lv (.inr (.inr ((11, 0, 0), q)) :: st) σ
        | none => False)
    split at h
    · exact hk _ _ _ _ h
    · split at h
      · exact hk _ _ _ _ h
      · exact h
  | ldc_w k =>
    have h : (match am_kc M.1 k with
      | some v => X (pc + 3) lv (.inl v :: st) σ
      | none => False) := h
    show (match am_kc M.1 k with
      | some v => Y (pc + 3) lv (.inl v :: st) σ
      | none => False)
    split at h
    · exact hk _ _ _ _ h
    · exact h
  | ldc2_w k =>
    have h : (match am_kl M.1 k with
      | some v => X (pc + 3) lv (.inr (.inl v) :: st) σ
      | none => False) := h
    show (match am_kl M.1 k with
      | some v => Y (pc + 3) lv (.inr (.inl v) :: st) σ
      | none => False)
    split at h
    · exact hk _ _ _ _ h
    · exact h
  | iload_n _ => exact am_gi_mono h fun _ h => hk _ _ _ _ h
  | iload _ => exact am_gi_mono h fun _ h => hk _ _ _ _ h
  | lload_n _ => exact am_gl_mono h fun _ h => hk _ _ _ _ h
  | lload _ => exact am_gl_mono h fun _ h => hk _ _ _ _ h
  | aload_n _ => exact am_gr_mono h fun _ _ h => am_nn_mono h fun h => hk _ _ _ _ h
  | aload _ => exact am_gr_mono h fun _ _ h => am_nn_mono h fun h => hk _ _ _ _ h
  | istore_n _ => exact am_i1_mono h fun _ _ h => hk _ _ _ _ h
  | istore _ => exact am_i1_mono h fun _ _ h => hk _ _ _ _ h
  | lstore_n _ => exact am_l1_mono h fun _ _ h => hk _ _ _ _ h
  | lstore _ => exact am_l1_mono h fun _ _ h => hk _ _ _ _ h
  | astore_n _ => exact am_r1_mono h fun _ _ _ h => am_nn_mono h fun h => hk _ _ _ _ h
  | astore _ => exact am_r1_mono h fun _ _ _ h => am_nn_mono h fun h => hk _ _ _ _ h
  | iinc _ _ => exact am_gi_mono h fun _ h => hk _ _ _ _ h
  | dup =>
    rcases st with _ | ⟨x | x | q, r⟩
    · exact h
    · exact hk _ _ _ _ h
    · exact h
    · exact hk _ _ _ _ h
  | dup2 =>
    rcases st with _ | ⟨x | x | q, _ | ⟨y | y | u, r⟩⟩
    · exact h
    · exact h
    · exact h
    · exact h
    · exact hk _ _ _ _ h
    · exact h
    · exact h
    · exact h
    · exact h
    · exact h
    · exact h
    · exact h
    · exact h
  | pop => exact am_i1_mono h fun _ _ h => hk _ _ _ _ h
  | iadd => exact am_i2_mono h fun _ _ _ h => hk _ _ _ _ h
  | isub => exact am_i2_mono h fun _ _ _ h => hk _ _ _ _ h
  | imul => exact am_i2_mono h fun _ _ _ h => hk _ _ _ _ h
  | idiv => exact am_i2_mono h fun _ _ _ h => ⟨h.1, hk _ _ _ _ h.2⟩
  | irem => exact am_i2_mono h fun _ _ _ h => ⟨h.1, hk _ _ _ _ h.2⟩
  | ishl => exact am_i2_mono h fun _ _ _ h => hk _ _ _ _ h
  | ishr => exact am_i2_mono h fun _ _ _ h => hk _ _ _ _ h
  | iushr => exact am_i2_mono h fun _ _ _ h => hk _ _ _ _ h
  | iand => exact am_i2_mono h fun _ _ _ h => hk _ _ _ _ h
  | ior => exact am_i2_mono h fun _ _ _ h => hk _ _ _ _ h
  | ixor => exact am_i2_mono h fun _ _ _ h => hk _ _ _ _ h
  | ladd => exact am_l2_mono h fun _ _ _ h => hk _ _ _ _ h
  | lsub => exact am_l2_mono h fun _ _ _ h => hk _ _ _ _ h
  | lmul => exact am_l2_mono h fun _ _ _ h => hk _ _ _ _ h
  | ldiv => exact am_l2_mono h fun _ _ _ h => ⟨h.1, hk _ _ _ _ h.2⟩
  | lrem => exact am_l2_mono h fun _ _ _ h => ⟨h.1, hk _ _ _ _ h.2⟩
  | land => exact am_l2_mono h fun _ _ _ h => hk _ _ _ _ h
  | lor => exact am_l2_mono h fun _ _ _ h => hk _ _ _ _ h
  | lshl => exact am_i1_mono h fun _ _ h => am_l1_mono h fun _ _ h => hk _ _ _ _ h
  | lshr => exact am_i1_mono h fun _ _ h => am_l1_mono h fun _ _ h => hk _ _ _ _ h
  | i2l => exact am_i1_mono h fun _ _ h => hk _ _ _ _ h
  | l2i => exact am_l1_mono h fun _ _ h => hk _ _ _ _ h
  | i2b => exact am_i1_mono h fun _ _ h => hk _ _ _ _ h
  | i2s => exact am_i1_mono h fun _ _ h => hk _ _ _ _ h
  | lcmp => exact am_l2_mono h fun _ _ _ h => hk _ _ _ _ h
  | ifCond _ _ => exact am_i1_mono h fun _ _ h => am_cz_mono h (fun h => hk _ _ _ _ h) (fun h => hk _ _ _ _ h)
  | if_icmp _ _ => exact am_i2_mono h fun _ _ _ h => am_cc_mono h (fun h => hk _ _ _ _ h) (fun h => hk _ _ _ _ h)
  | goto _ => exact hk _ _ _ _ h
  | tableswitch _ _ _ _ => exact am_i1_mono h fun _ _ h => am_tw_mono (fun _ h => hk _ _ _ _ h) _ _ h
  | lookupswitch _ _ => exact am_i1_mono h fun _ _ h => am_lw_mono (fun _ h => hk _ _ _ _ h) _ h
  | ifnull _ =>
    refine am_r1_mono h fun t i r h => ?_
    split at h
    · exact ⟨fun z => hk _ _ _ _ (h.1 z), fun z => hk _ _ _ _ (h.2 z)⟩
    · exact h
  | getstatic k => exact ⟨h.1, hk _ _ _ _ h.2⟩
  | i2c => exact am_i1_mono h fun _ _ h => hk _ _ _ _ h
  | getfield k =>
    refine am_r1_mono h fun t o r h => ?_
    split at h
    · exact ⟨h.1, am_gf_mono h.2 fun _ h => hk _ _ _ _ h⟩
    · split at h
      · exact ⟨h.1, hk _ _ _ _ h.2⟩
      · exact ⟨h.1, hk _ _ _ _ h.2⟩
      · exact h
      · exact h
  | putfield k =>
    rcases st with _ | ⟨v, st'⟩
    · exact h
    · refine am_r1_mono h fun t o r h => ?_
      split at h
      · exact ⟨h.1, am_pf_mono h.2 fun _ h => hk _ _ _ _ h⟩
      · exact h
  | iaload => exact am_i1_mono h fun _ _ h => am_r1_mono h fun _ _ _ h => ⟨h.1, h.2.1, hk _ _ _ _ h.2.2⟩
  | baload =>
    refine am_i1_mono h fun _ _ h => am_r1_mono h fun _ _ _ h => ?_
    split at h
    · exact ⟨h.1, h.2.1, hk _ _ _ _ h.2.2⟩
    · exact ⟨h.1, h.2.1, hk _ _ _ _ h.2.2⟩
  | laload => exact am_i1_mono h fun _ _ h => am_r1_mono h fun _ _ _ h => ⟨h.1, h.2.1, hk _ _ _ _ h.2.2⟩
  | aaload => exact am_i1_mono h fun _ _ h => am_r1_mono h fun _ _ _ h => ⟨h.1, am_aa_mono h.2 fun _ h => hk _ _ _ _ h⟩
  | iastore => exact am_i1_mono h fun _ _ h => am_i1_mono h fun _ _ h => am_r1_mono h fun _ _ _ h => ⟨h.1, h.2.1, hk _ _ _ _ h.2.2⟩
  | bastore => exact am_i1_mono h fun _ _ h => am_i1_mono h fun _ _ h => am_r1_mono h fun _ _ _ h => h.imp (fun h => ⟨h.1, h.2.1, hk _ _ _ _ h.2.2⟩) (fun h => ⟨h.1, h.2.1, hk _ _ _ _ h.2.2⟩)
  | lastore => exact am_l1_mono h fun _ _ h => am_i1_mono h fun _ _ h => am_r1_mono h fun _ _ _ h => ⟨h.1, h.2.1, hk _ _ _ _ h.2.2⟩
  | arraylength =>
    refine am_r1_mono h fun _ _ _ h => ?_
    split at h
    · exact ⟨h.1, hk _ _ _ _ h.2⟩
    · exact ⟨h.1, hk _ _ _ _ h.2⟩
  | invokestatic _ => exact am_ivs_mono hk h
  | invokevirtual _ => exact am_ivv_mono hk h
  | ireturn => exact h
  | lreturn => exact h
  | areturn => exact h
  | return_ => exact h
  | _ => exact h
theorem am_L_run {M : AM} {code : List (Nat × Instr × Nat)} {P : AP} {fin : Option AV → AS → Prop} {X : Nat → AL → List AV → AS → Prop} (hX : am_clo M code P fin X) : ∀ (is : List (Nat × Instr × Nat)), (∀ q ∈ is, q ∈ code) → ∀ pc lv st σ, am_L M P fin X is pc lv st σ → X pc lv st σ
  | [], _, _, _, _, _, h => h
  | (q, i, n) :: is, hin, pc, lv, st, σ, h => by
    unfold am_L at h
    split at h
    · rename_i e
      have e2 : pc = q := Nat.eq_of_beq_eq_true e
      subst e2
      exact hX.1 pc i n lv st σ (hin _ List.mem_cons_self) (am_1_mono (am_L_run hX is (fun q hq => hin q (List.mem_cons_of_mem _ hq))) h)
    · exact h.elim
theorem am_blk {M : AM} {code : List (Nat × Instr × Nat)} {P : AP} {fin : Option AV → AS → Prop} {X : Nat → AL → List AV → AS → Prop} (hX : am_clo M code P fin X) (a n : Nat) {pc : Nat} {lv : AL} {st : List AV} {σ : AS} (h : am_L M P fin X ((code.drop a).take n) pc lv st σ) : X pc lv st σ :=
  am_L_run hX _ (fun q hq => List.mem_of_mem_drop (List.mem_of_mem_take hq)) pc lv st σ h
theorem am_wk {M : AM} {code : List (Nat × Instr × Nat)} {P : AP} {fin : Option AV → AS → Prop} {X : Nat → AL → List AV → AS → Prop} (hX : am_clo M code P fin X) (ks : List Nat) {pc : Nat} {lv : AL} {st : List AV} {σ : AS} (h : X pc (ks.filterMap (fun i => lv[i]?)) st σ) : X pc lv st σ :=
  hX.2 pc lv _ st σ h (fun q hq => by
    obtain ⟨i, -, hi⟩ := List.mem_filterMap.mp hq
    exact List.mem_of_getElem? hi)
-- the pure functions' words
def am_fu : Nat := 1000000
def am_g {α : Type} (p : Prop) [Decidable p] (k : Option α) : Option α := if p then k else none
def am_let {α β : Type} (e : α) (k : α → β) : β := k e
/-- a call that may write -/
def am_c {α β : Type} (x : Option (AS × α)) (k : AS → α → Option β) : Option β := match x with
  | some (s, v) => k s v
  | none => none
/-- a call that only reads -/
def am_r {α β : Type} (x : Option α) (k : α → Option β) : Option β := match x with
  | some v => k v
  | none => none
theorem am_g_of {α : Type} {p : Prop} [Decidable p] {k : Option α} {r : α} (h : am_g p k = some r) : p ∧ k = some r := by
  unfold am_g at h
  split at h
  · rename_i hp; exact ⟨hp, h⟩
  · cases h
theorem am_c_of {α β : Type} {x : Option (AS × α)} {k : AS → α → Option β} {r : β} (h : am_c x k = some r) : ∃ s v, x = some (s, v) ∧ k s v = some r := by
  unfold am_c at h
  split at h
  · rename_i s v; exact ⟨s, v, rfl, h⟩
  · cases h
theorem am_r_of {α β : Type} {x : Option α} {k : α → Option β} {r : β} (h : am_r x k = some r) : ∃ v, x = some v ∧ k v = some r := by
  unfold am_r at h
  split at h
  · rename_i v; exact ⟨v, rfl, h⟩
  · cases h
theorem am_nl {α β : Type} {e : α} {B : α → Option β} {r : β} {Z : α → Prop} (h : am_let e B = some r) (k : ∀ x, B x = some r → Z x) : Z e := k e h
theorem am_jn {γ β : Type} {F : γ} {C : γ → Option β} {r : β} {G : Prop} (hf : am_let F C = some r) (Kp : γ → Prop) (hA : Kp F) (k : ∀ J, Kp J → C J = some r → G) : G := k F hA hf
theorem am_it {α : Type} {c : Prop} [Decidable c] {a b : Option α} {r : Option α} (h : (if c then a else b) = r) (hc : c) : a = r := by rw [if_pos hc] at h; exact h
theorem am_if {α : Type} {c : Prop} [Decidable c] {a b : Option α} {r : Option α} (h : (if c then a else b) = r) (hc : ¬ c) : b = r := by rw [if_neg hc] at h; exact h
theorem am_ri {σ σ' : AS} {v r : Int32} (h : some (σ, v) = some (σ', r)) : (some (Sum.inl v) : Option AV) = some (.inl r) ∧ σ = σ' := by cases h; exact ⟨rfl, rfl⟩
theorem am_rl {σ σ' : AS} {v r : Int64} (h : some (σ, v) = some (σ', r)) : (some (Sum.inr (Sum.inl v)) : Option AV) = some (.inr (.inl r)) ∧ σ = σ' := by cases h; exact ⟨rfl, rfl⟩
theorem am_rv {σ σ' : AS} {u : Unit} (h : some (σ, ()) = some (σ', u)) : (none : Option AV) = none ∧ σ = σ' := by cases h; exact ⟨rfl, rfl⟩
theorem am_rpi {σ : AS} {v r : Int32} (h : some v = some r) : (some (Sum.inl v) : Option AV) = some (.inl r) ∧ σ = σ := by cases h; exact ⟨rfl, rfl⟩
theorem am_rpl {σ : AS} {v r : Int64} (h : some v = some r) : (some (Sum.inr (Sum.inl v)) : Option AV) = some (.inr (.inl r)) ∧ σ = σ := by cases h; exact ⟨rfl, rfl⟩
theorem am_rpv {σ : AS} {u : Unit} (_ : some () = some u) : (none : Option AV) = none ∧ σ = σ := ⟨rfl, rfl⟩
theorem am_rpw {σ : AS} {v r : Nat} (h : some v = some r) : (some (Sum.inr (Sum.inr ((12, 0, 0), v))) : Option AV) = some (.inr (.inr ((12, 0, 0), r))) ∧ σ = σ := by cases h; exact ⟨rfl, rfl⟩
theorem am_no {α : Type} {r : α} {G : Prop} (h : (none : Option α) = some r) : G := by cases h
