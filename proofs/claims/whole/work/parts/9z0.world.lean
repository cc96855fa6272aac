/-! THE START: what the Statement says of it; the world of zeros is the world of an empty march. -/
def kn_M0 : m_M := ((0, fun _ => 0), (0, none), (a_D0, 0, a_g0), (fun _ => (false, (a_D0, 0, a_g0))), fun _ => (none, 0, fun _ => 0))
theorem kn_V0 : m_MV kn_M0 := ⟨Nat.zero_le _, Nat.zero_le _, (fun k h => by cases h), a_PV a_D0_V, (fun _ _ => a_PV a_D0_V), fun j _ => ⟨Nat.zero_le _, fun w h => by cases h⟩⟩
theorem kn_z {c : Nat} (k : Nat) (h1 : c ≠ 1) (h2 : c ≠ 215) (h3 : c ≠ 216) : kn_s0.1 c k = nI 0 := (congrFun (kn_s0_z h1 h2 h3) k).trans rfl
theorem kn_PL0 {o : Nat} (h1 : 1 < o) (h2 : o < 180) : c_PL o a_D0 kn_s0 := ⟨fun j _ => kn_z _ (by omega) (by omega) (by omega), fun r j hr => absurd hr (Nat.not_lt_zero _), fun p j hp => absurd hp (Nat.not_lt_zero _), fun k _ => kn_z _ (by omega) (by omega) (by omega), kn_z _ (by omega) (by omega) (by omega)⟩
theorem kn_PA0 {o a : Nat} (h1 : 1 < o) (h2 : o < 180) (h3 : 1 < a) (h4 : a < 180) : c_PA o a (a_D0, 0, a_g0) kn_s0 := ⟨kn_PL0 h1 h2, kn_z _ (by omega) (by omega) (by omega), kn_z _ (by omega) (by omega) (by omega), kn_z _ (by omega) (by omega) (by omega), fun k hk => absurd hk (Nat.not_lt_zero _)⟩
theorem kn_rPA0 (b : Nat) : r_PA b (a_D0, 0, a_g0) kn_s0 := ⟨fun j _ => kn_z _ (by omega) (by omega) (by omega), fun r j hr => absurd hr (Nat.not_lt_zero _), fun p j hp => absurd hp (Nat.not_lt_zero _), fun k _ => kn_z _ (by omega) (by omega) (by omega), kn_z _ (by omega) (by omega) (by omega), kn_z _ (by omega) (by omega) (by omega), fun k hk => absurd hk (Nat.not_lt_zero _)⟩
theorem kn_cI0 : c_I kn_M0 kn_s0 := by
  refine ⟨⟨⟨?_, fun i => ?_⟩, ⟨?_, ?_⟩, kn_PA0 (by omega) (by omega) (by omega) (by omega), fun k hk => ⟨?_, kn_PA0 (by omega) (by omega) (by omega) (by omega)⟩, fun j hj => ⟨?_, fun w h => by cases h⟩⟩, Or.inl ?_⟩
  · exact kn_z _ (by omega) (by omega) (by omega)
  · exact kn_z _ (by omega) (by omega) (by omega)
  · rfl
  · rfl
  · exact kn_z _ (by omega) (by omega) (by omega)
  · exact kn_z _ (by omega) (by omega) (by omega)
  · exact kn_z _ (by omega) (by omega) (by omega)
theorem kn_rI0 : r_I kn_M0 kn_s0 := by
  refine ⟨⟨?_, fun i => ?_⟩, ⟨?_, ?_⟩, kn_rPA0 0, fun k hk => ⟨?_, kn_rPA0 (1 + k)⟩, fun j hj => ⟨?_, fun w h => by cases h⟩⟩
  · rfl
  · exact kn_z _ (by omega) (by omega) (by omega)
  · rfl
  · rfl
  · exact kn_z _ (by omega) (by omega) (by omega)
  · show (if j < 4 then (-1 : Int32) else 0) = _
    rw [if_pos hj]
    rfl
theorem kn_law {L : Nat} {xs : Nat → Int32} (hL : L ≤ 3072) : ∃ (n : Nat) (σ : AS), fLaw xs L n kn_s0 0 = some (σ, 1) := by
  obtain ⟨σ, h⟩ := ll_run (xs := xs) hL 600 0 kn_M0 kn_s0 (by omega) (Nat.zero_le _) kn_V0 kn_cI0 kn_rI0
  exact ⟨601, σ, h⟩
-- the Statement's flat conditions
def kn_fl : List Cond := flatC (Jvm.Cond.and given_1 narrow_1)
def kt (i : Nat) : Term := .string RX4 ((am_strs.getD i (0, "", 0)).1)
def kt_v (i : Nat) : Term := .field (kt i) "java/lang/String" "value" "[B"
theorem kt_N : ∀ i : Nat, i < 16 → am_len.getD i 0 < 2 ^ 31 := by decide +kernel
/-- where the words of the i-th String begin -/
def kt_b : List Nat := [29, 38, 49, 60, 71, 83, 96, 108, 123, 141, 156, 175, 196, 217, 239, 262]
theorem kt_ex : ∀ i : Nat, i < 16 → kn_fl[kt_b.getD i 0]? = some (.exactly (kt i) "java/lang/String") := by decide +kernel
theorem kt_co : ∀ i : Nat, i < 16 → kn_fl[kt_b.getD i 0 + 1]? = some (.eq (.field (kt i) "java/lang/String" "coder" "B") (.int 0)) := by decide +kernel
theorem kt_ar : ∀ i : Nat, i < 16 → kn_fl[kt_b.getD i 0 + 2]? = some (.arrayOf (kt_v i) .byte) := by decide +kernel
theorem kt_le : ∀ i : Nat, i < 16 → kn_fl[kt_b.getD i 0 + 3]? = some (.eq (.length (kt_v i)) (.int (Int32.ofNat (am_len.getD i 0)))) := by decide +kernel
theorem kt_el : ∀ i : Nat, i < 16 → ∀ j : Nat, j < am_len.getD i 0 → kn_fl[kt_b.getD i 0 + 4 + j]? = some (.eq (.elem (kt_v i) (.int (Int32.ofNat j))) (.int ((am_byt.getD i []).getD j 0))) := by decide +kernel
theorem kt_ne : ∀ i : Nat, i < 16 → ∀ j : Nat, j < i → kn_fl[kt_b.getD i 0 + 4 + am_len.getD i 0 + j]? = some (.not (.eq (kt j) (kt i))) := by decide +kernel
theorem kt_cs : kn_fl[4]? = some (.eq (.static "java/lang/String" "COMPACT_STRINGS" "Z") (.int 1)) := by decide +kernel
theorem kt_sf : kn_fl[5]? = some (.isRef (.static "jdk/internal/util/Preconditions" "SIOOBE_FORMATTER" "Ljava/util/function/BiFunction;")) := by decide +kernel
