/-! THE LAW'S LOOP, as numbers: each call answers alike, so the law answers 1. Printed by wip/gen/genrun.py. -/
section LR
variable {xs : Nat → Int32} {L i : Nat} {s : AS} {M : m_M} {J : AS → Option (AS × Int32)}
/-- what is wanted of the rest -/
def ll_J (J : AS → Option (AS × Int32)) : Prop := ∀ (M : m_M) (s : AS), m_MV M → c_I M s → r_I M s → ∃ σ, J s = some (σ, (1 : Int32))
theorem ll_g (k : Nat) (hk : k < 6) (h : i + 6 ≤ L) (hL : L ≤ 3072) : ¬ (nI i + nI k < nI 0 ∨ L ≤ (nI i + nI k).toNatClampNeg) := by
  rw [b_add]
  exact b_ok2 (by omega) (by omega)
theorem ll_ok {f8 f9 : AS → Option (AS × Int32)} (h : m_OK f8 f9) (hV : m_MV M) (hC : c_I M s) (hR : r_I M s) (hJ : ll_J J) : ∃ σ, am_c (f8 s) (fun s1 v => am_c (f9 s1) (fun s2 w => if v = w then J s2 else some (s2, nI 0))) = some (σ, (1 : Int32)) := by
  obtain ⟨M', s1, v, s2, a1, a2, a3, a4, a5⟩ := h M s hV hC hR
  obtain ⟨σ, hσ⟩ := hJ M' s2 a1 a4 a5
  exact ⟨σ, by rw [a2, am_cq, a3, am_cq, if_pos rfl, hσ]⟩
theorem ll_okr {f8 : AS → Option Int32} {f9 : AS → Option (AS × Int32)} (h : m_OKr f8 f9) (hV : m_MV M) (hC : c_I M s) (hR : r_I M s) (hJ : ll_J J) : ∃ σ, am_r (f8 s) (fun v => am_c (f9 s) (fun s2 w => if v = w then J s2 else some (s2, nI 0))) = some (σ, (1 : Int32)) := by
  obtain ⟨M', v, s2, a1, a2, a3, a4, a5⟩ := h M s hV hC hR
  obtain ⟨σ, hσ⟩ := hJ M' s2 a1 a4 a5
  exact ⟨σ, by rw [a2, am_rq, a3, am_cq, if_pos rfl, hσ]⟩
theorem ll_okj {f8 f9 : AS → Option (AS × Int64)} (h : m_OKj f8 f9) (hV : m_MV M) (hC : c_I M s) (hR : r_I M s) (hJ : ll_J J) : ∃ σ, am_c (f8 s) (fun s1 v => am_c (f9 s1) (fun s2 w => if lg_cmp v w = nI 0 then J s2 else some (s2, nI 0))) = some (σ, (1 : Int32)) := by
  obtain ⟨M', s1, v, s2, a1, a2, a3, a4, a5⟩ := h M s hV hC hR
  obtain ⟨σ, hσ⟩ := hJ M' s2 a1 a4 a5
  exact ⟨σ, by rw [a2, am_cq, a3, am_cq, if_pos (by rw [j_eq]), hσ]⟩
theorem ll_if {p : Prop} [Decidable p] {A B : Option (AS × Int32)} (h1 : ∃ σ, A = some (σ, (1 : Int32))) (h2 : ∃ σ, B = some (σ, (1 : Int32))) : ∃ σ, (if p then A else B) = some (σ, (1 : Int32)) := by
  by_cases c : p
  · rw [if_pos c]; exact h1
  · rw [if_neg c]; exact h2
theorem ll_0 (h : i + 6 ≤ L) (hL : L ≤ 3072) (hV : m_MV M) (hC : c_I M s) (hR : r_I M s) (hJ : ll_J J) : ∃ σ, fLc0 xs L J s (nI i) = some (σ, (1 : Int32)) := by
  unfold fLc0
  simp only [b_lq, am_g_t (ll_g (i := i) (L := L) 1 (by omega) h hL), am_g_t (ll_g (i := i) (L := L) 2 (by omega) h hL), am_g_t (ll_g (i := i) (L := L) 3 (by omega) h hL), am_g_t (ll_g (i := i) (L := L) 4 (by omega) h hL), am_g_t (ll_g (i := i) (L := L) 5 (by omega) h hL)]
  exact ll_ok (Q_feed _ _ _ _ _) hV hC hR hJ
theorem ll_1 (h : i + 6 ≤ L) (hL : L ≤ 3072) (hV : m_MV M) (hC : c_I M s) (hR : r_I M s) (hJ : ll_J J) : ∃ σ, fLc1 xs L J s (nI i) = some (σ, (1 : Int32)) := by
  unfold fLc1
  simp only [b_lq, am_g_t (ll_g (i := i) (L := L) 1 (by omega) h hL)]
  exact ll_ok (Q_end _) hV hC hR hJ
theorem ll_2 (h : i + 6 ≤ L) (hL : L ≤ 3072) (hV : m_MV M) (hC : c_I M s) (hR : r_I M s) (hJ : ll_J J) : ∃ σ, fLc2 xs L J s (nI i) = some (σ, (1 : Int32)) := by
  unfold fLc2
  simp only [b_lq]
  exact ll_ok (Q_march) hV hC hR hJ
theorem ll_3 (h : i + 6 ≤ L) (hL : L ≤ 3072) (hV : m_MV M) (hC : c_I M s) (hR : r_I M s) (hJ : ll_J J) : ∃ σ, fLc3 xs L J s (nI i) = some (σ, (1 : Int32)) := by
  unfold fLc3
  simp only [b_lq, am_g_t (ll_g (i := i) (L := L) 1 (by omega) h hL)]
  exact ll_okr (Q_fault _) hV hC hR hJ
theorem ll_4 (h : i + 6 ≤ L) (hL : L ≤ 3072) (hV : m_MV M) (hC : c_I M s) (hR : r_I M s) (hJ : ll_J J) : ∃ σ, fLc4 xs L J s (nI i) = some (σ, (1 : Int32)) := by
  unfold fLc4
  simp only [b_lq, am_g_t (ll_g (i := i) (L := L) 1 (by omega) h hL), am_g_t (ll_g (i := i) (L := L) 2 (by omega) h hL)]
  exact ll_okr (Q_road _ _) hV hC hR hJ
theorem ll_5 (h : i + 6 ≤ L) (hL : L ≤ 3072) (hV : m_MV M) (hC : c_I M s) (hR : r_I M s) (hJ : ll_J J) : ∃ σ, fLc5 xs L J s (nI i) = some (σ, (1 : Int32)) := by
  unfold fLc5
  simp only [b_lq, am_g_t (ll_g (i := i) (L := L) 1 (by omega) h hL), am_g_t (ll_g (i := i) (L := L) 2 (by omega) h hL)]
  exact ll_okr (Q_person _ _) hV hC hR hJ
theorem ll_6 (h : i + 6 ≤ L) (hL : L ≤ 3072) (hV : m_MV M) (hC : c_I M s) (hR : r_I M s) (hJ : ll_J J) : ∃ σ, fLc6 xs L J s (nI i) = some (σ, (1 : Int32)) := by
  unfold fLc6
  simp only [b_lq, am_g_t (ll_g (i := i) (L := L) 1 (by omega) h hL), am_g_t (ll_g (i := i) (L := L) 2 (by omega) h hL)]
  exact ll_ok (Q_way _ _) hV hC hR hJ
theorem ll_7 (h : i + 6 ≤ L) (hL : L ≤ 3072) (hV : m_MV M) (hC : c_I M s) (hR : r_I M s) (hJ : ll_J J) : ∃ σ, fLc7 xs L J s (nI i) = some (σ, (1 : Int32)) := by
  unfold fLc7
  simp only [b_lq, am_g_t (ll_g (i := i) (L := L) 1 (by omega) h hL), am_g_t (ll_g (i := i) (L := L) 2 (by omega) h hL)]
  exact ll_ok (Q_next _ _) hV hC hR hJ
theorem ll_8 (h : i + 6 ≤ L) (hL : L ≤ 3072) (hV : m_MV M) (hC : c_I M s) (hR : r_I M s) (hJ : ll_J J) : ∃ σ, fLc8 xs L J s (nI i) = some (σ, (1 : Int32)) := by
  unfold fLc8
  simp only [b_lq, am_g_t (ll_g (i := i) (L := L) 1 (by omega) h hL)]
  exact ll_ok (Q_reach _) hV hC hR hJ
theorem ll_9 (h : i + 6 ≤ L) (hL : L ≤ 3072) (hV : m_MV M) (hC : c_I M s) (hR : r_I M s) (hJ : ll_J J) : ∃ σ, fLc9 xs L J s (nI i) = some (σ, (1 : Int32)) := by
  unfold fLc9
  simp only [b_lq, am_g_t (ll_g (i := i) (L := L) 1 (by omega) h hL)]
  exact ll_ok (Q_at _) hV hC hR hJ
theorem ll_10 (h : i + 6 ≤ L) (hL : L ≤ 3072) (hV : m_MV M) (hC : c_I M s) (hR : r_I M s) (hJ : ll_J J) : ∃ σ, fLc10 xs L J s (nI i) = some (σ, (1 : Int32)) := by
  unfold fLc10
  simp only [b_lq, am_g_t (ll_g (i := i) (L := L) 1 (by omega) h hL)]
  exact ll_ok (Q_crowd _) hV hC hR hJ
theorem ll_11 (h : i + 6 ≤ L) (hL : L ≤ 3072) (hV : m_MV M) (hC : c_I M s) (hR : r_I M s) (hJ : ll_J J) : ∃ σ, fLc11 xs L J s (nI i) = some (σ, (1 : Int32)) := by
  unfold fLc11
  simp only [b_lq, am_g_t (ll_g (i := i) (L := L) 1 (by omega) h hL), am_g_t (ll_g (i := i) (L := L) 2 (by omega) h hL)]
  exact ll_ok (Q_votes _ _) hV hC hR hJ
theorem ll_12 (h : i + 6 ≤ L) (hL : L ≤ 3072) (hV : m_MV M) (hC : c_I M s) (hR : r_I M s) (hJ : ll_J J) : ∃ σ, fLc12 xs L J s (nI i) = some (σ, (1 : Int32)) := by
  unfold fLc12
  simp only [b_lq, am_g_t (ll_g (i := i) (L := L) 1 (by omega) h hL)]
  exact ll_ok (Q_joins _) hV hC hR hJ
theorem ll_13 (h : i + 6 ≤ L) (hL : L ≤ 3072) (hV : m_MV M) (hC : c_I M s) (hR : r_I M s) (hJ : ll_J J) : ∃ σ, fLc13 xs L J s (nI i) = some (σ, (1 : Int32)) := by
  unfold fLc13
  simp only [b_lq, am_g_t (ll_g (i := i) (L := L) 1 (by omega) h hL)]
  exact ll_ok (Q_leaves _) hV hC hR hJ
theorem ll_14 (h : i + 6 ≤ L) (hL : L ≤ 3072) (hV : m_MV M) (hC : c_I M s) (hR : r_I M s) (hJ : ll_J J) : ∃ σ, fLc14 xs L J s (nI i) = some (σ, (1 : Int32)) := by
  unfold fLc14
  simp only [b_lq]
  exact ll_ok (Q_over) hV hC hR hJ
theorem ll_15 (h : i + 6 ≤ L) (hL : L ≤ 3072) (hV : m_MV M) (hC : c_I M s) (hR : r_I M s) (hJ : ll_J J) : ∃ σ, fLc15 xs L J s (nI i) = some (σ, (1 : Int32)) := by
  unfold fLc15
  simp only [b_lq]
  exact ll_ok (Q_why) hV hC hR hJ
theorem ll_16 (h : i + 6 ≤ L) (hL : L ≤ 3072) (hV : m_MV M) (hC : c_I M s) (hR : r_I M s) (hJ : ll_J J) : ∃ σ, fLc16 xs L J s (nI i) = some (σ, (1 : Int32)) := by
  unfold fLc16
  simp only [b_lq, am_g_t (ll_g (i := i) (L := L) 1 (by omega) h hL)]
  exact ll_ok (Q_comes _) hV hC hR hJ
theorem ll_17 (h : i + 6 ≤ L) (hL : L ≤ 3072) (hV : m_MV M) (hC : c_I M s) (hR : r_I M s) (hJ : ll_J J) : ∃ σ, fLc17 xs L J s (nI i) = some (σ, (1 : Int32)) := by
  unfold fLc17
  simp only [b_lq, am_g_t (ll_g (i := i) (L := L) 1 (by omega) h hL)]
  exact ll_ok (Q_often _) hV hC hR hJ
theorem ll_18 (h : i + 6 ≤ L) (hL : L ≤ 3072) (hV : m_MV M) (hC : c_I M s) (hR : r_I M s) (hJ : ll_J J) : ∃ σ, fLc18 xs L J s (nI i) = some (σ, (1 : Int32)) := by
  unfold fLc18
  simp only [b_lq, am_g_t (ll_g (i := i) (L := L) 1 (by omega) h hL)]
  exact ll_ok (Q_paces _) hV hC hR hJ
theorem ll_19 (h : i + 6 ≤ L) (hL : L ≤ 3072) (hV : m_MV M) (hC : c_I M s) (hR : r_I M s) (hJ : ll_J J) : ∃ σ, fLc19 xs L J s (nI i) = some (σ, (1 : Int32)) := by
  unfold fLc19
  simp only [b_lq]
  exact ll_ok (Q_most) hV hC hR hJ
theorem ll_20 (h : i + 6 ≤ L) (hL : L ≤ 3072) (hV : m_MV M) (hC : c_I M s) (hR : r_I M s) (hJ : ll_J J) : ∃ σ, fLc20 xs L J s (nI i) = some (σ, (1 : Int32)) := by
  unfold fLc20
  simp only [b_lq]
  exact ll_ok (Q_peak) hV hC hR hJ
theorem ll_21 (h : i + 6 ≤ L) (hL : L ≤ 3072) (hV : m_MV M) (hC : c_I M s) (hR : r_I M s) (hJ : ll_J J) : ∃ σ, fLc21 xs L J s (nI i) = some (σ, (1 : Int32)) := by
  unfold fLc21
  simp only [b_lq, am_g_t (ll_g (i := i) (L := L) 1 (by omega) h hL)]
  exact ll_ok (Q_boards _) hV hC hR hJ
theorem ll_22 (h : i + 6 ≤ L) (hL : L ≤ 3072) (hV : m_MV M) (hC : c_I M s) (hR : r_I M s) (hJ : ll_J J) : ∃ σ, fLc22 xs L J s (nI i) = some (σ, (1 : Int32)) := by
  unfold fLc22
  simp only [b_lq, am_g_t (ll_g (i := i) (L := L) 1 (by omega) h hL)]
  exact ll_ok (Q_cause _) hV hC hR hJ
theorem ll_23 (h : i + 6 ≤ L) (hL : L ≤ 3072) (hV : m_MV M) (hC : c_I M s) (hR : r_I M s) (hJ : ll_J J) : ∃ σ, fLc23 xs L J s (nI i) = some (σ, (1 : Int32)) := by
  unfold fLc23
  simp only [b_lq, am_g_t (ll_g (i := i) (L := L) 1 (by omega) h hL)]
  exact ll_ok (Q_weighs _) hV hC hR hJ
theorem ll_24 (h : i + 6 ≤ L) (hL : L ≤ 3072) (hV : m_MV M) (hC : c_I M s) (hR : r_I M s) (hJ : ll_J J) : ∃ σ, fLc24 xs L J s (nI i) = some (σ, (1 : Int32)) := by
  unfold fLc24
  simp only [b_lq, am_g_t (ll_g (i := i) (L := L) 1 (by omega) h hL)]
  exact ll_ok (Q_splits _) hV hC hR hJ
theorem ll_25 (h : i + 6 ≤ L) (hL : L ≤ 3072) (hV : m_MV M) (hC : c_I M s) (hR : r_I M s) (hJ : ll_J J) : ∃ σ, fLc25 xs L J s (nI i) = some (σ, (1 : Int32)) := by
  unfold fLc25
  simp only [b_lq, am_g_t (ll_g (i := i) (L := L) 1 (by omega) h hL)]
  exact ll_ok (Q_carries _) hV hC hR hJ
theorem ll_26 (h : i + 6 ≤ L) (hL : L ≤ 3072) (hV : m_MV M) (hC : c_I M s) (hR : r_I M s) (hJ : ll_J J) : ∃ σ, fLc26 xs L J s (nI i) = some (σ, (1 : Int32)) := by
  unfold fLc26
  simp only [b_lq, am_g_t (ll_g (i := i) (L := L) 1 (by omega) h hL)]
  exact ll_ok (Q_parties _) hV hC hR hJ
theorem ll_27 (h : i + 6 ≤ L) (hL : L ≤ 3072) (hV : m_MV M) (hC : c_I M s) (hR : r_I M s) (hJ : ll_J J) : ∃ σ, fLc27 xs L J s (nI i) = some (σ, (1 : Int32)) := by
  unfold fLc27
  simp only [b_lq, am_g_t (ll_g (i := i) (L := L) 1 (by omega) h hL), am_g_t (ll_g (i := i) (L := L) 2 (by omega) h hL)]
  exact ll_ok (Q_together _ _) hV hC hR hJ
theorem ll_28 (h : i + 6 ≤ L) (hL : L ≤ 3072) (hV : m_MV M) (hC : c_I M s) (hR : r_I M s) (hJ : ll_J J) : ∃ σ, fLc28 xs L J s (nI i) = some (σ, (1 : Int32)) := by
  unfold fLc28
  simp only [b_lq, am_g_t (ll_g (i := i) (L := L) 1 (by omega) h hL)]
  exact ll_ok (Q_walks _) hV hC hR hJ
theorem ll_29 (h : i + 6 ≤ L) (hL : L ≤ 3072) (hV : m_MV M) (hC : c_I M s) (hR : r_I M s) (hJ : ll_J J) : ∃ σ, fLc29 xs L J s (nI i) = some (σ, (1 : Int32)) := by
  unfold fLc29
  simp only [b_lq, am_g_t (ll_g (i := i) (L := L) 1 (by omega) h hL)]
  exact ll_ok (Q_turned _) hV hC hR hJ
theorem ll_30 (h : i + 6 ≤ L) (hL : L ≤ 3072) (hV : m_MV M) (hC : c_I M s) (hR : r_I M s) (hJ : ll_J J) : ∃ σ, fLc30 xs L J s (nI i) = some (σ, (1 : Int32)) := by
  unfold fLc30
  simp only [b_lq]
  exact ll_ok (Q_loop) hV hC hR hJ
theorem ll_31 (h : i + 6 ≤ L) (hL : L ≤ 3072) (hV : m_MV M) (hC : c_I M s) (hR : r_I M s) (hJ : ll_J J) : ∃ σ, fLc31 xs L J s (nI i) = some (σ, (1 : Int32)) := by
  unfold fLc31
  simp only [b_lq]
  exact ll_ok (Q_farthest) hV hC hR hJ
theorem ll_32 (h : i + 6 ≤ L) (hL : L ≤ 3072) (hV : m_MV M) (hC : c_I M s) (hR : r_I M s) (hJ : ll_J J) : ∃ σ, fLc32 xs L J s (nI i) = some (σ, (1 : Int32)) := by
  unfold fLc32
  simp only [b_lq, am_g_t (ll_g (i := i) (L := L) 1 (by omega) h hL)]
  exact ll_okr (Q_crew _) hV hC hR hJ
theorem ll_33 (h : i + 6 ≤ L) (hL : L ≤ 3072) (hV : m_MV M) (hC : c_I M s) (hR : r_I M s) (hJ : ll_J J) : ∃ σ, fLc33 xs L J s (nI i) = some (σ, (1 : Int32)) := by
  unfold fLc33
  simp only [b_lq, am_g_t (ll_g (i := i) (L := L) 1 (by omega) h hL)]
  exact ll_ok (Q_eldest _) hV hC hR hJ
theorem ll_34 (h : i + 6 ≤ L) (hL : L ≤ 3072) (hV : m_MV M) (hC : c_I M s) (hR : r_I M s) (hJ : ll_J J) : ∃ σ, fLc34 xs L J s (nI i) = some (σ, (1 : Int32)) := by
  unfold fLc34
  simp only [b_lq, am_g_t (ll_g (i := i) (L := L) 1 (by omega) h hL)]
  exact ll_ok (Q_waits _) hV hC hR hJ
theorem ll_35 (h : i + 6 ≤ L) (hL : L ≤ 3072) (hV : m_MV M) (hC : c_I M s) (hR : r_I M s) (hJ : ll_J J) : ∃ σ, fLc35 xs L J s (nI i) = some (σ, (1 : Int32)) := by
  unfold fLc35
  simp only [b_lq]
  exact ll_ok (Q_missed) hV hC hR hJ
theorem ll_36 (h : i + 6 ≤ L) (hL : L ≤ 3072) (hV : m_MV M) (hC : c_I M s) (hR : r_I M s) (hJ : ll_J J) : ∃ σ, fLc36 xs L J s (nI i) = some (σ, (1 : Int32)) := by
  unfold fLc36
  simp only [b_lq, am_g_t (ll_g (i := i) (L := L) 1 (by omega) h hL)]
  exact ll_ok (Q_needed _) hV hC hR hJ
theorem ll_37 (h : i + 6 ≤ L) (hL : L ≤ 3072) (hV : m_MV M) (hC : c_I M s) (hR : r_I M s) (hJ : ll_J J) : ∃ σ, fLc37 xs L J s (nI i) = some (σ, (1 : Int32)) := by
  unfold fLc37
  simp only [b_lq, am_g_t (ll_g (i := i) (L := L) 1 (by omega) h hL), am_g_t (ll_g (i := i) (L := L) 2 (by omega) h hL)]
  exact ll_ok (Q_trap _ _) hV hC hR hJ
theorem ll_38 (h : i + 6 ≤ L) (hL : L ≤ 3072) (hV : m_MV M) (hC : c_I M s) (hR : r_I M s) (hJ : ll_J J) : ∃ σ, fLc38 xs L J s (nI i) = some (σ, (1 : Int32)) := by
  unfold fLc38
  simp only [b_lq, am_g_t (ll_g (i := i) (L := L) 1 (by omega) h hL)]
  exact ll_ok (Q_stop _) hV hC hR hJ
theorem ll_39 (h : i + 6 ≤ L) (hL : L ≤ 3072) (hV : m_MV M) (hC : c_I M s) (hR : r_I M s) (hJ : ll_J J) : ∃ σ, fLc39 xs L J s (nI i) = some (σ, (1 : Int32)) := by
  unfold fLc39
  simp only [b_lq, am_g_t (ll_g (i := i) (L := L) 1 (by omega) h hL)]
  exact ll_ok (Q_stops _) hV hC hR hJ
theorem ll_40 (h : i + 6 ≤ L) (hL : L ≤ 3072) (hV : m_MV M) (hC : c_I M s) (hR : r_I M s) (hJ : ll_J J) : ∃ σ, fLc40 xs L J s (nI i) = some (σ, (1 : Int32)) := by
  unfold fLc40
  simp only [b_lq]
  exact ll_ok (Q_soonest) hV hC hR hJ
theorem ll_41 (h : i + 6 ≤ L) (hL : L ≤ 3072) (hV : m_MV M) (hC : c_I M s) (hR : r_I M s) (hJ : ll_J J) : ∃ σ, fLc41 xs L J s (nI i) = some (σ, (1 : Int32)) := by
  unfold fLc41
  simp only [b_lq]
  exact ll_ok (Q_ends) hV hC hR hJ
theorem ll_42 (h : i + 6 ≤ L) (hL : L ≤ 3072) (hV : m_MV M) (hC : c_I M s) (hR : r_I M s) (hJ : ll_J J) : ∃ σ, fLc42 xs L J s (nI i) = some (σ, (1 : Int32)) := by
  unfold fLc42
  simp only [b_lq, am_g_t (ll_g (i := i) (L := L) 1 (by omega) h hL)]
  exact ll_okr (Q_content _) hV hC hR hJ
theorem ll_43 (h : i + 6 ≤ L) (hL : L ≤ 3072) (hV : m_MV M) (hC : c_I M s) (hR : r_I M s) (hJ : ll_J J) : ∃ σ, fLc43 xs L J s (nI i) = some (σ, (1 : Int32)) := by
  unfold fLc43
  simp only [b_lq, am_g_t (ll_g (i := i) (L := L) 1 (by omega) h hL)]
  exact ll_okr (Q_buys _) hV hC hR hJ
theorem ll_44 (h : i + 6 ≤ L) (hL : L ≤ 3072) (hV : m_MV M) (hC : c_I M s) (hR : r_I M s) (hJ : ll_J J) : ∃ σ, fLc44 xs L J s (nI i) = some (σ, (1 : Int32)) := by
  unfold fLc44
  simp only [b_lq, am_g_t (ll_g (i := i) (L := L) 1 (by omega) h hL)]
  exact ll_ok (Q_shut _) hV hC hR hJ
theorem ll_45 (h : i + 6 ≤ L) (hL : L ≤ 3072) (hV : m_MV M) (hC : c_I M s) (hR : r_I M s) (hJ : ll_J J) : ∃ σ, fLc45 xs L J s (nI i) = some (σ, (1 : Int32)) := by
  unfold fLc45
  simp only [b_lq, am_g_t (ll_g (i := i) (L := L) 1 (by omega) h hL)]
  exact ll_ok (Q_shuts _) hV hC hR hJ
theorem ll_46 (h : i + 6 ≤ L) (hL : L ≤ 3072) (hV : m_MV M) (hC : c_I M s) (hR : r_I M s) (hJ : ll_J J) : ∃ σ, fLc46 xs L J s (nI i) = some (σ, (1 : Int32)) := by
  unfold fLc46
  simp only [b_lq, am_g_t (ll_g (i := i) (L := L) 1 (by omega) h hL), am_g_t (ll_g (i := i) (L := L) 2 (by omega) h hL)]
  exact ll_okr (Q_cut _ _) hV hC hR hJ
theorem ll_47 (h : i + 6 ≤ L) (hL : L ≤ 3072) (hV : m_MV M) (hC : c_I M s) (hR : r_I M s) (hJ : ll_J J) : ∃ σ, fLc47 xs L J s (nI i) = some (σ, (1 : Int32)) := by
  unfold fLc47
  simp only [b_lq, am_g_t (ll_g (i := i) (L := L) 1 (by omega) h hL)]
  exact ll_ok (Q_starts _) hV hC hR hJ
theorem ll_48 (h : i + 6 ≤ L) (hL : L ≤ 3072) (hV : m_MV M) (hC : c_I M s) (hR : r_I M s) (hJ : ll_J J) : ∃ σ, fLc48 xs L J s (nI i) = some (σ, (1 : Int32)) := by
  unfold fLc48
  simp only [b_lq, am_g_t (ll_g (i := i) (L := L) 1 (by omega) h hL)]
  exact ll_ok (Q_ask _) hV hC hR hJ
theorem ll_49 (h : i + 6 ≤ L) (hL : L ≤ 3072) (hV : m_MV M) (hC : c_I M s) (hR : r_I M s) (hJ : ll_J J) : ∃ σ, fLc49 xs L J s (nI i) = some (σ, (1 : Int32)) := by
  unfold fLc49
  simp only [b_lq, am_g_t (ll_g (i := i) (L := L) 1 (by omega) h hL)]
  exact ll_ok (Q_rules _) hV hC hR hJ
theorem ll_50 (h : i + 6 ≤ L) (hL : L ≤ 3072) (hV : m_MV M) (hC : c_I M s) (hR : r_I M s) (hJ : ll_J J) : ∃ σ, fLc50 xs L J s (nI i) = some (σ, (1 : Int32)) := by
  unfold fLc50
  simp only [b_lq, am_g_t (ll_g (i := i) (L := L) 1 (by omega) h hL), am_g_t (ll_g (i := i) (L := L) 2 (by omega) h hL)]
  exact ll_ok (Q_shams _ _) hV hC hR hJ
theorem ll_51 (h : i + 6 ≤ L) (hL : L ≤ 3072) (hV : m_MV M) (hC : c_I M s) (hR : r_I M s) (hJ : ll_J J) : ∃ σ, fLc51 xs L J s (nI i) = some (σ, (1 : Int32)) := by
  unfold fLc51
  simp only [b_lq, am_g_t (ll_g (i := i) (L := L) 1 (by omega) h hL)]
  exact ll_ok (Q_shammers _) hV hC hR hJ
theorem ll_52 (h : i + 6 ≤ L) (hL : L ≤ 3072) (hV : m_MV M) (hC : c_I M s) (hR : r_I M s) (hJ : ll_J J) : ∃ σ, fLc52 xs L J s (nI i) = some (σ, (1 : Int32)) := by
  unfold fLc52
  simp only [b_lq, am_g_t (ll_g (i := i) (L := L) 1 (by omega) h hL), am_g_t (ll_g (i := i) (L := L) 2 (by omega) h hL), am_g_t (ll_g (i := i) (L := L) 3 (by omega) h hL)]
  exact ll_okj (Q_chance _ _ _) hV hC hR hJ
theorem ll_53 (h : i + 6 ≤ L) (hL : L ≤ 3072) (hV : m_MV M) (hC : c_I M s) (hR : r_I M s) (hJ : ll_J J) : ∃ σ, fLc53 xs L J s (nI i) = some (σ, (1 : Int32)) := by
  unfold fLc53
  simp only [b_lq, am_g_t (ll_g (i := i) (L := L) 1 (by omega) h hL), am_g_t (ll_g (i := i) (L := L) 2 (by omega) h hL)]
  exact ll_okj (Q_mean _ _) hV hC hR hJ
theorem ll_54 (h : i + 6 ≤ L) (hL : L ≤ 3072) (hV : m_MV M) (hC : c_I M s) (hR : r_I M s) (hJ : ll_J J) : ∃ σ, fLc54 xs L J s (nI i) = some (σ, (1 : Int32)) := by
  unfold fLc54
  simp only [b_lq, am_g_t (ll_g (i := i) (L := L) 1 (by omega) h hL), am_g_t (ll_g (i := i) (L := L) 2 (by omega) h hL)]
  exact ll_ok (Q_answer _ _) hV hC hR hJ
theorem ll_55 (h : i + 6 ≤ L) (hL : L ≤ 3072) (hV : m_MV M) (hC : c_I M s) (hR : r_I M s) (hJ : ll_J J) : ∃ σ, fLc55 xs L J s (nI i) = some (σ, (1 : Int32)) := by
  unfold fLc55
  simp only [b_lq, am_g_t (ll_g (i := i) (L := L) 1 (by omega) h hL), am_g_t (ll_g (i := i) (L := L) 2 (by omega) h hL)]
  exact ll_ok (Q_bar _ _) hV hC hR hJ
theorem ll_56 (h : i + 6 ≤ L) (hL : L ≤ 3072) (hV : m_MV M) (hC : c_I M s) (hR : r_I M s) (hJ : ll_J J) : ∃ σ, fLc56 xs L J s (nI i) = some (σ, (1 : Int32)) := by
  unfold fLc56
  simp only [b_lq]
  exact ll_okr (Q_answered) hV hC hR hJ
theorem ll_57 (h : i + 6 ≤ L) (hL : L ≤ 3072) (hV : m_MV M) (hC : c_I M s) (hR : r_I M s) (hJ : ll_J J) : ∃ σ, fLc57 xs L J s (nI i) = some (σ, (1 : Int32)) := by
  unfold fLc57
  simp only [b_lq]
  exact ll_okr (Q_barred) hV hC hR hJ
theorem ll_58 (h : i + 6 ≤ L) (hL : L ≤ 3072) (hV : m_MV M) (hC : c_I M s) (hR : r_I M s) (hJ : ll_J J) : ∃ σ, fLc58 xs L J s (nI i) = some (σ, (1 : Int32)) := by
  unfold fLc58
  simp only [b_lq]
  exact ll_okr (Q_costs) hV hC hR hJ
theorem ll_59 (h : i + 6 ≤ L) (hL : L ≤ 3072) (hV : m_MV M) (hC : c_I M s) (hR : r_I M s) (hJ : ll_J J) : ∃ σ, fLc59 xs L J s (nI i) = some (σ, (1 : Int32)) := by
  unfold fLc59
  simp only [b_lq]
  exact ll_ok (Q_undo) hV hC hR hJ
theorem ll_60 (h : i + 6 ≤ L) (hL : L ≤ 3072) (hV : m_MV M) (hC : c_I M s) (hR : r_I M s) (hJ : ll_J J) : ∃ σ, fLc60 xs L J s (nI i) = some (σ, (1 : Int32)) := by
  unfold fLc60
  simp only [b_lq]
  exact ll_ok (Q_anew) hV hC hR hJ
theorem ll_61 (h : i + 6 ≤ L) (hL : L ≤ 3072) (hV : m_MV M) (hC : c_I M s) (hR : r_I M s) (hJ : ll_J J) : ∃ σ, fLc61 xs L J s (nI i) = some (σ, (1 : Int32)) := by
  unfold fLc61
  simp only [b_lq, am_g_t (ll_g (i := i) (L := L) 1 (by omega) h hL), am_g_t (ll_g (i := i) (L := L) 2 (by omega) h hL)]
  exact ll_ok (Q_drawn _ _) hV hC hR hJ
theorem ll_62 (h : i + 6 ≤ L) (hL : L ≤ 3072) (hV : m_MV M) (hC : c_I M s) (hR : r_I M s) (hJ : ll_J J) : ∃ σ, fLc62 xs L J s (nI i) = some (σ, (1 : Int32)) := by
  unfold fLc62
  simp only [b_lq, am_g_t (ll_g (i := i) (L := L) 1 (by omega) h hL), am_g_t (ll_g (i := i) (L := L) 2 (by omega) h hL), am_g_t (ll_g (i := i) (L := L) 3 (by omega) h hL)]
  exact ll_ok (Q_luck _ _ _) hV hC hR hJ
theorem ll_63 (h : i + 6 ≤ L) (hL : L ≤ 3072) (hV : m_MV M) (hC : c_I M s) (hR : r_I M s) (hJ : ll_J J) : ∃ σ, fLc63 xs L J s (nI i) = some (σ, (1 : Int32)) := by
  unfold fLc63
  simp only [b_lq, am_g_t (ll_g (i := i) (L := L) 1 (by omega) h hL), am_g_t (ll_g (i := i) (L := L) 2 (by omega) h hL)]
  exact ll_ok (Q_need _ _) hV hC hR hJ
theorem ll_64 (h : i + 6 ≤ L) (hL : L ≤ 3072) (hV : m_MV M) (hC : c_I M s) (hR : r_I M s) (hJ : ll_J J) : ∃ σ, fLc64 xs L J s (nI i) = some (σ, (1 : Int32)) := by
  unfold fLc64
  simp only [b_lq, am_g_t (ll_g (i := i) (L := L) 1 (by omega) h hL)]
  exact ll_okr (Q_count _) hV hC hR hJ
theorem ll_65 (h : i + 6 ≤ L) (hL : L ≤ 3072) (hV : m_MV M) (hC : c_I M s) (hR : r_I M s) (hJ : ll_J J) : ∃ σ, fLc65 xs L J s (nI i) = some (σ, (1 : Int32)) := by
  unfold fLc65
  simp only [b_lq, am_g_t (ll_g (i := i) (L := L) 1 (by omega) h hL)]
  exact ll_ok (Q_image _) hV hC hR hJ
theorem ll_66 (h : i + 6 ≤ L) (hL : L ≤ 3072) (hV : m_MV M) (hC : c_I M s) (hR : r_I M s) (hJ : ll_J J) : ∃ σ, fLc66 xs L J s (nI i) = some (σ, (1 : Int32)) := by
  unfold fLc66
  simp only [b_lq, am_g_t (ll_g (i := i) (L := L) 1 (by omega) h hL)]
  exact ll_ok (Q_back _) hV hC hR hJ
theorem ll_67 (h : i + 6 ≤ L) (hL : L ≤ 3072) (hV : m_MV M) (hC : c_I M s) (hR : r_I M s) (hJ : ll_J J) : ∃ σ, fLc67 xs L J s (nI i) = some (σ, (1 : Int32)) := by
  unfold fLc67
  simp only [b_lq, am_g_t (ll_g (i := i) (L := L) 1 (by omega) h hL), am_g_t (ll_g (i := i) (L := L) 2 (by omega) h hL), am_g_t (ll_g (i := i) (L := L) 3 (by omega) h hL)]
  exact ll_ok (Q_row _ _ _) hV hC hR hJ
theorem ll_68 (h : i + 6 ≤ L) (hL : L ≤ 3072) (hV : m_MV M) (hC : c_I M s) (hR : r_I M s) (hJ : ll_J J) : ∃ σ, fLc68 xs L J s (nI i) = some (σ, (1 : Int32)) := by
  unfold fLc68
  simp only [b_lq, am_g_t (ll_g (i := i) (L := L) 1 (by omega) h hL), am_g_t (ll_g (i := i) (L := L) 2 (by omega) h hL), am_g_t (ll_g (i := i) (L := L) 3 (by omega) h hL), am_g_t (ll_g (i := i) (L := L) 4 (by omega) h hL)]
  exact ll_ok (Q_write _ _ _) hV hC hR hJ
theorem ll_69 (h : i + 6 ≤ L) (hL : L ≤ 3072) (hV : m_MV M) (hC : c_I M s) (hR : r_I M s) (hJ : ll_J J) : ∃ σ, fLc69 xs L J s (nI i) = some (σ, (1 : Int32)) := by
  unfold fLc69
  simp only [b_lq, am_g_t (ll_g (i := i) (L := L) 1 (by omega) h hL), am_g_t (ll_g (i := i) (L := L) 2 (by omega) h hL), am_g_t (ll_g (i := i) (L := L) 3 (by omega) h hL), am_g_t (ll_g (i := i) (L := L) 4 (by omega) h hL), am_g_t (ll_g (i := i) (L := L) 5 (by omega) h hL)]
  exact ll_ok (Q_paste _ _ _ _ _) hV hC hR hJ
set_option maxRecDepth 100000 in
set_option maxHeartbeats 4000000 in
theorem ll_run (hL : L ≤ 3072) : ∀ (n i : Nat) (M : m_M) (s : AS), L < i + 6 * n → i ≤ L → m_MV M → c_I M s → r_I M s → ∃ σ, fLaw xs L (n + 1) s (nI i) = some (σ, (1 : Int32))
  | 0, i, M, s, h0, h1, hV, hC, hR => by omega
  | n + 1, i, M, s, h0, h1, hV, hC, hR => by
    rw [fLaw]
    have e : (Int32.ofNat L - (6 : Int32) < nI i) = (L < i + 6) := by
      have e1 : (Int32.ofNat L - (6 : Int32)).toInt = (L : Int) - 6 := by
        have k1 : (Int32.ofNat L).toInt = L := Int32.toInt_ofNat_of_lt (by omega)
        have k2 : (6 : Int32).toInt = 6 := by decide
        rw [Int32.toInt_sub, k1, k2]
        exact Int.bmod_eq_of_le (by simp; omega) (by simp; omega)
      rw [Int32.lt_iff_toInt_lt, e1, b_toI (by omega)]
      exact propext ⟨fun h => by omega, fun h => by omega⟩
    by_cases c : L < i + 6
    · exact ⟨s, by rw [if_pos (by rw [e]; exact c)]⟩
    · have h : i + 6 ≤ L := by omega
      have hJ : ll_J (fun s1 => am_let (nI i + (6 : Int32)) (fun x5 => fLaw xs L (n + 1) s1 x5)) := fun M' s' hV' hC' hR' => by
        obtain ⟨σ, hσ⟩ := ll_run hL n (i + 6) M' s' (by omega) h hV' hC' hR'
        refine ⟨σ, ?_⟩
        show fLaw xs L (n + 1) s' (nI i + nI 6) = _
        rw [b_add]
        exact hσ
      rw [if_neg (by rw [e]; exact c), am_g_t (by
        show ¬ (nI i < nI 0 ∨ L ≤ (nI i).toNatClampNeg)
        exact b_ok2 (by omega) (by omega)), am_lq, am_lq]
      exact ll_if (ll_0 h hL hV hC hR hJ) (ll_if (ll_1 h hL hV hC hR hJ) (ll_if (ll_2 h hL hV hC hR hJ) (ll_if (ll_3 h hL hV hC hR hJ) (ll_if (ll_4 h hL hV hC hR hJ) (ll_if (ll_5 h hL hV hC hR hJ) (ll_if (ll_6 h hL hV hC hR hJ) (ll_if (ll_7 h hL hV hC hR hJ) (ll_if (ll_8 h hL hV hC hR hJ) (ll_if (ll_9 h hL hV hC hR hJ) (ll_if (ll_10 h hL hV hC hR hJ) (ll_if (ll_11 h hL hV hC hR hJ) (ll_if (ll_12 h hL hV hC hR hJ) (ll_if (ll_13 h hL hV hC hR hJ) (ll_if (ll_14 h hL hV hC hR hJ) (ll_if (ll_15 h hL hV hC hR hJ) (ll_if (ll_16 h hL hV hC hR hJ) (ll_if (ll_17 h hL hV hC hR hJ) (ll_if (ll_18 h hL hV hC hR hJ) (ll_if (ll_19 h hL hV hC hR hJ) (ll_if (ll_20 h hL hV hC hR hJ) (ll_if (ll_21 h hL hV hC hR hJ) (ll_if (ll_22 h hL hV hC hR hJ) (ll_if (ll_23 h hL hV hC hR hJ) (ll_if (ll_24 h hL hV hC hR hJ) (ll_if (ll_25 h hL hV hC hR hJ) (ll_if (ll_26 h hL hV hC hR hJ) (ll_if (ll_27 h hL hV hC hR hJ) (ll_if (ll_28 h hL hV hC hR hJ) (ll_if (ll_29 h hL hV hC hR hJ) (ll_if (ll_30 h hL hV hC hR hJ) (ll_if (ll_31 h hL hV hC hR hJ) (ll_if (ll_32 h hL hV hC hR hJ) (ll_if (ll_33 h hL hV hC hR hJ) (ll_if (ll_34 h hL hV hC hR hJ) (ll_if (ll_35 h hL hV hC hR hJ) (ll_if (ll_36 h hL hV hC hR hJ) (ll_if (ll_37 h hL hV hC hR hJ) (ll_if (ll_38 h hL hV hC hR hJ) (ll_if (ll_39 h hL hV hC hR hJ) (ll_if (ll_40 h hL hV hC hR hJ) (ll_if (ll_41 h hL hV hC hR hJ) (ll_if (ll_42 h hL hV hC hR hJ) (ll_if (ll_43 h hL hV hC hR hJ) (ll_if (ll_44 h hL hV hC hR hJ) (ll_if (ll_45 h hL hV hC hR hJ) (ll_if (ll_46 h hL hV hC hR hJ) (ll_if (ll_47 h hL hV hC hR hJ) (ll_if (ll_48 h hL hV hC hR hJ) (ll_if (ll_49 h hL hV hC hR hJ) (ll_if (ll_50 h hL hV hC hR hJ) (ll_if (ll_51 h hL hV hC hR hJ) (ll_if (ll_52 h hL hV hC hR hJ) (ll_if (ll_53 h hL hV hC hR hJ) (ll_if (ll_54 h hL hV hC hR hJ) (ll_if (ll_55 h hL hV hC hR hJ) (ll_if (ll_56 h hL hV hC hR hJ) (ll_if (ll_57 h hL hV hC hR hJ) (ll_if (ll_58 h hL hV hC hR hJ) (ll_if (ll_59 h hL hV hC hR hJ) (ll_if (ll_60 h hL hV hC hR hJ) (ll_if (ll_61 h hL hV hC hR hJ) (ll_if (ll_62 h hL hV hC hR hJ) (ll_if (ll_63 h hL hV hC hR hJ) (ll_if (ll_64 h hL hV hC hR hJ) (ll_if (ll_65 h hL hV hC hR hJ) (ll_if (ll_66 h hL hV hC hR hJ) (ll_if (ll_67 h hL hV hC hR hJ) (ll_if (ll_68 h hL hV hC hR hJ) (ll_if (ll_69 h hL hV hC hR hJ) (hJ M s hV hC hR))))))))))))))))))))))))))))))))))))))))))))))))))))))))))))))))))))))
end LR
