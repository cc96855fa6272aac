/-! THE TEXT, as numbers: bytes, words, runs. -/
def s00 : AS := (fun _ _ => 0, fun _ _ => 0)
def a_len (q : Nat) : Nat := am_len.getD q 0
def a_ch (q i : Nat) : Nat := ((am_byt.getD q []).getD i 0).toNatClampNeg
theorem a_len_d : ∀ q, q < 16 → fJ0_length_8abf5 s00 q = some (nI (a_len q)) ∧ 2 ≤ a_len q ∧ a_len q ≤ 6 := by decide +kernel
theorem a_ch_d : ∀ q, q < 16 → ∀ i, i < a_len q → fJ0_charAt_5068e s00 q (nI i) = some (nI (a_ch q i)) ∧ 97 ≤ a_ch q i ∧ a_ch q i ≤ 122 := by decide +kernel
theorem a_len_s {q : Nat} (hq : q < 16) (s : AS) : fJ0_length_8abf5 s q = some (nI (a_len q)) := (a_len_d q hq).1
theorem a_ch_s {q i : Nat} (hq : q < 16) (hi : i < a_len q) (s : AS) : fJ0_charAt_5068e s q (nI i) = some (nI (a_ch q i)) := (a_ch_d q hq i hi).1
/-- a word as a number -/
def a_hv (c : Nat → Nat) : Nat → Nat
  | 0 => 0
  | k + 1 => 27 * a_hv c k + (c k - 96)
theorem a_hv_s (c : Nat → Nat) (k : Nat) : a_hv c (k + 1) = 27 * a_hv c k + (c k - 96) := Eq.trans rfl rfl
def a_lit (q : Nat) : Nat := [6941627, 235981828, 10492274, 369932, 298288, 365260, 555, 247516, 232608281, 47, 12253591, 260971484, 7542361, 1359346, 4075508, 1903978].getD q 0
theorem a_lit_d : ∀ q, q < 16 → a_hv (a_ch q) (a_len q) = a_lit q ∧ a_lit q < 1000000000 := by decide +kernel
theorem a_hv_le {c : Nat → Nat} : ∀ {k : Nat}, (∀ i, i < k → c i ≤ 122) → a_hv c k < 27 ^ k
  | 0, _ => by show 0 < 1; omega
  | k + 1, h => by
    have ih := a_hv_le (c := c) (k := k) (fun i hi => h i (by omega))
    have := h k (by omega)
    rw [a_hv_s, Nat.pow_succ]
    omega
theorem a_hv_inj {c d : Nat → Nat} : ∀ {k l : Nat}, (∀ i, i < k → 97 ≤ c i ∧ c i ≤ 122) → (∀ i, i < l → 97 ≤ d i ∧ d i ≤ 122) → a_hv c k = a_hv d l → k = l ∧ ∀ i, i < k → c i = d i
  | 0, 0, _, _, _ => ⟨rfl, fun i hi => by omega⟩
  | 0, l + 1, _, hd, h => by
    have := hd l (by omega)
    rw [a_hv_s] at h
    have : a_hv c 0 = 0 := rfl
    omega
  | k + 1, 0, hc, _, h => by
    have := hc k (by omega)
    rw [a_hv_s] at h
    have : a_hv d 0 = 0 := rfl
    omega
  | k + 1, l + 1, hc, hd, h => by
    have h1 := hc k (by omega)
    have h2 := hd l (by omega)
    rw [a_hv_s, a_hv_s] at h
    obtain ⟨e1, e2⟩ := a_hv_inj (c := c) (d := d) (k := k) (l := l) (fun i hi => hc i (by omega)) (fun i hi => hd i (by omega)) (by omega)
    subst e1
    refine ⟨rfl, fun i hi => ?_⟩
    by_cases e : i = k
    · subst e; omega
    · exact e2 i (by omega)
/-- bytes: letters, digits, blanks -/
def a_le (f : Nat → Int32) (n i : Nat) : Bool := decide (i < n) && (decide (nI 97 ≤ f i) && decide (f i ≤ nI 122))
def a_dg (f : Nat → Int32) (n i : Nat) : Bool := decide (i < n) && (decide (nI 48 ≤ f i) && decide (f i ≤ nI 57))
def a_bk (f : Nat → Int32) (n i : Nat) : Bool := decide (i < n) && (decide (f i = nI 32) || decide (f i = nI 10))
def a_by (f : Nat → Int32) (n i : Nat) : Int32 := if i < n then f i else oI none
/-- to the end of a run -/
def a_run (ok : Nat → Bool) : Nat → Nat → Nat
  | 0, p => p
  | k + 1, p => if ok p then a_run ok k (p + 1) else p
theorem a_run_s (ok : Nat → Bool) (k p : Nat) : a_run ok (k + 1) p = if ok p then a_run ok k (p + 1) else p := Eq.trans rfl rfl
theorem a_run_p {ok : Nat → Bool} {n : Nat} (h : ∀ i, ok i = true → i < n) : ∀ {k p : Nat}, n < p + k → p ≤ a_run ok k p ∧ (p ≤ n → a_run ok k p ≤ n) ∧ ok (a_run ok k p) = false ∧ ∀ i, p ≤ i → i < a_run ok k p → ok i = true
  | 0, p, hk => by
    refine ⟨Nat.le_refl _, fun _ => by show p ≤ n; omega, ?_, fun i h1 h2 => ?_⟩
    · cases e : ok p with
      | false => exact e
      | true => have := h p e; omega
    · have : i < p := h2
      omega
  | k + 1, p, hk => by
    rw [a_run_s]
    cases e : ok p with
    | false =>
      rw [if_neg (by simp)]
      exact ⟨Nat.le_refl _, fun z => z, e, fun i h1 h2 => by omega⟩
    | true =>
      rw [if_pos rfl]
      have hp := h p e
      obtain ⟨a1, a2, a3, a4⟩ := a_run_p h (k := k) (p := p + 1) (by omega)
      refine ⟨by omega, fun _ => a2 (by omega), a3, fun i h1 h2 => ?_⟩
      by_cases c : i = p
      · rw [c]; exact e
      · exact a4 i (by omega) h2
theorem a_run_e {ok : Nat → Bool} {n : Nat} (h : ∀ i, ok i = true → i < n) {k p e : Nat} (hk : n < p + k) (h1 : p ≤ e) (h2 : ok e = false) (h3 : ∀ i, p ≤ i → i < e → ok i = true) : a_run ok k p = e := by
  obtain ⟨a1, a2, a3, a4⟩ := a_run_p h hk
  rcases Nat.lt_trichotomy (a_run ok k p) e with c | c | c
  · have := h3 _ a1 c
    rw [a3] at this; cases this
  · exact c
  · have := a4 e h1 c
    rw [h2] at this; cases this
section TX
variable {f : Nat → Int32} {n : Nat}
theorem a_le_n {i : Nat} (h : a_le f n i = true) : i < n := by
  unfold a_le at h
  rw [Bool.and_eq_true] at h
  exact of_decide_eq_true h.1
theorem a_dg_n {i : Nat} (h : a_dg f n i = true) : i < n := by
  unfold a_dg at h
  rw [Bool.and_eq_true] at h
  exact of_decide_eq_true h.1
theorem a_bk_n {i : Nat} (h : a_bk f n i = true) : i < n := by
  unfold a_bk at h
  rw [Bool.and_eq_true] at h
  exact of_decide_eq_true h.1
/-- ends: of blanks, of letters, of digits -/
def a_eb (f : Nat → Int32) (n p : Nat) : Nat := a_run (a_bk f n) 801 p
def a_el (f : Nat → Int32) (n p : Nat) : Nat := a_run (a_le f n) 801 p
def a_ed (f : Nat → Int32) (n p : Nat) : Nat := a_run (a_dg f n) 801 p
theorem a_eb_p (hn : n ≤ 800) (p : Nat) : p ≤ a_eb f n p ∧ (p ≤ n → a_eb f n p ≤ n) ∧ a_bk f n (a_eb f n p) = false ∧ ∀ i, p ≤ i → i < a_eb f n p → a_bk f n i = true := by
  unfold a_eb
  exact a_run_p (fun _ h => a_bk_n h) (by omega)
theorem a_el_p (hn : n ≤ 800) (p : Nat) : p ≤ a_el f n p ∧ (p ≤ n → a_el f n p ≤ n) ∧ a_le f n (a_el f n p) = false ∧ ∀ i, p ≤ i → i < a_el f n p → a_le f n i = true := by
  unfold a_el
  exact a_run_p (fun _ h => a_le_n h) (by omega)
theorem a_ed_p (hn : n ≤ 800) (p : Nat) : p ≤ a_ed f n p ∧ (p ≤ n → a_ed f n p ≤ n) ∧ a_dg f n (a_ed f n p) = false ∧ ∀ i, p ≤ i → i < a_ed f n p → a_dg f n i = true := by
  unfold a_ed
  exact a_run_p (fun _ h => a_dg_n h) (by omega)
theorem a_eb_i (hn : n ≤ 800) {p : Nat} (h : a_bk f n p = false) : a_eb f n p = p := by
  unfold a_eb
  exact a_run_e (n := n) (fun _ h => a_bk_n h) (by omega) (Nat.le_refl p) h (fun i h1 h2 => by omega)
/-- what letters and digits are -/
theorem a_le_c {i : Nat} (h : a_le f n i = true) : ∃ c, 97 ≤ c ∧ c ≤ 122 ∧ f i = nI c := by
  unfold a_le at h
  rw [Bool.and_eq_true, Bool.and_eq_true] at h
  have h1 := Int32.le_iff_toInt_le.mp (of_decide_eq_true h.2.1)
  have h2 := Int32.le_iff_toInt_le.mp (of_decide_eq_true h.2.2)
  rw [b_toI (by omega)] at h1 h2
  refine ⟨(f i).toInt.toNat, by omega, by omega, ?_⟩
  apply Int32.toInt_inj.mp
  rw [b_toI (by omega)]
  omega
theorem a_dg_c {i : Nat} (h : a_dg f n i = true) : ∃ c, 48 ≤ c ∧ c ≤ 57 ∧ f i = nI c := by
  unfold a_dg at h
  rw [Bool.and_eq_true, Bool.and_eq_true] at h
  have h1 := Int32.le_iff_toInt_le.mp (of_decide_eq_true h.2.1)
  have h2 := Int32.le_iff_toInt_le.mp (of_decide_eq_true h.2.2)
  rw [b_toI (by omega)] at h1 h2
  refine ⟨(f i).toInt.toNat, by omega, by omega, ?_⟩
  apply Int32.toInt_inj.mp
  rw [b_toI (by omega)]
  omega
theorem a_le_i {i c : Nat} (hi : i < n) (h1 : 97 ≤ c) (h2 : c ≤ 122) (h : f i = nI c) : a_le f n i = true := by
  unfold a_le
  rw [h, decide_eq_true hi, decide_eq_true (by rw [b_le (by omega) (by omega)]; exact h1), decide_eq_true (by rw [b_le (by omega) (by omega)]; exact h2)]
  rfl
/-- the word q stands at p -/
def a_mt (f : Nat → Int32) (n q p : Nat) : Bool := m_al (fun i => decide (a_by f n (p + i) = nI (a_ch q i))) (a_len q) && !a_le f n (p + a_len q)
/-- letters as codes -/
abbrev a_cd (f : Nat → Int32) (p i : Nat) : Nat := (f (p + i)).toNatClampNeg
theorem a_cd_c (hn : n ≤ 800) {p i : Nat} (h : i < a_el f n p - p) : 97 ≤ a_cd f p i ∧ a_cd f p i ≤ 122 ∧ f (p + i) = nI (a_cd f p i) := by
  obtain ⟨c, h1, h2, h3⟩ := a_le_c ((a_el_p (f := f) hn p).2.2.2 (p + i) (by omega) (by omega))
  have e : a_cd f p i = c := by
    show (f (p + i)).toNatClampNeg = c
    rw [h3, b_t (by omega)]
  rw [e]
  exact ⟨h1, h2, h3⟩
/-- the word is told by its number -/
theorem a_hv_c {c d : Nat → Nat} : ∀ {k : Nat}, (∀ i, i < k → c i = d i) → a_hv c k = a_hv d k
  | 0, _ => rfl
  | k + 1, h => by rw [a_hv_s, a_hv_s, a_hv_c (fun i hi => h i (by omega)), h k (by omega)]
theorem a_mt_b {q p : Nat} (h : a_mt f n q p = true) : (∀ i, i < a_len q → a_by f n (p + i) = nI (a_ch q i)) ∧ a_le f n (p + a_len q) = false := by
  unfold a_mt at h
  rw [Bool.and_eq_true, Bool.not_eq_true'] at h
  exact ⟨fun i hi => of_decide_eq_true (m_al_t.mp h.1 i hi), h.2⟩
theorem a_mt_1 {q p : Nat} (hq : q < 16) (h : a_mt f n q p = true) : ∀ i, i < a_len q → p + i < n ∧ f (p + i) = nI (a_ch q i) := by
  intro i hi
  have h1 := (a_mt_b h).1 i hi
  have hc := (a_ch_d q hq i hi).2
  generalize a_ch q i = c at h1 hc
  unfold a_by at h1
  by_cases d : p + i < n
  · rw [if_pos d] at h1
    exact ⟨d, h1⟩
  · rw [if_neg d, b_nn2 (by omega)] at h1
    exact h1.elim
theorem a_mt_2 (hn : n ≤ 800) {q p : Nat} (hq : q < 16) (h : a_mt f n q p = true) : a_el f n p = p + a_len q := by
  have h2 := (a_mt_b h).2
  have hb := a_mt_1 hq h
  have hl := (a_len_d q hq).2
  have hc := fun i hi => (a_ch_d q hq i hi).2
  generalize a_ch q = c at hb hc
  generalize a_len q = l at h2 hb hl hc
  unfold a_el
  exact a_run_e (n := n) (fun _ h => a_le_n h) (by omega) (by omega) h2 (fun i i1 i2 => by
    obtain ⟨c1, c2⟩ := hb (i - p) (by omega)
    have hc := hc (i - p) (by omega)
    rw [show p + (i - p) = i by omega] at c1 c2
    exact a_le_i c1 hc.1 hc.2 c2)
theorem a_mt_3 (hn : n ≤ 800) {q p : Nat} (hq : q < 16) (h : a_mt f n q p = true) : a_el f n p - p = a_len q ∧ a_hv (a_cd f p) (a_el f n p - p) = a_lit q := by
  have hk : a_el f n p - p = a_len q := by rw [a_mt_2 hn hq h, Nat.add_sub_cancel_left]
  refine ⟨hk, ?_⟩
  rw [hk]
  refine (a_hv_c (fun i hi => ?_)).trans (a_lit_d q hq).1
  have hb := (a_mt_1 hq h i hi).2
  have hc := (a_ch_d q hq i hi).2
  generalize a_ch q i = c at hb hc
  show (f (p + i)).toNatClampNeg = c
  rw [hb, b_t (by omega)]
theorem a_mt_4 (hn : n ≤ 800) {q p : Nat} (hq : q < 16) (h1 : a_el f n p - p = a_len q) (h2 : a_hv (a_cd f p) (a_el f n p - p) = a_lit q) : a_mt f n q p = true := by
  obtain ⟨e1, e2, e3, e4⟩ := a_el_p (f := f) hn p
  have inj := a_hv_inj (c := a_cd f p) (d := a_ch q) (k := a_el f n p - p) (l := a_len q) (fun i hi => ⟨(a_cd_c hn hi).1, (a_cd_c hn hi).2.1⟩) (fun i hi => (a_ch_d q hq i hi).2) (h2.trans (a_lit_d q hq).1.symm)
  unfold a_mt
  rw [Bool.and_eq_true, m_al_t, Bool.not_eq_true']
  refine ⟨fun i hi => ?_, ?_⟩
  · apply decide_eq_true
    rw [← h1] at hi
    have hj := inj.2 i hi
    have := (a_cd_c hn (f := f) (p := p) (i := i) hi).2.2
    have k := a_le_n (e4 (p + i) (by omega) (by omega))
    unfold a_by
    rw [if_pos k, this, hj]
  · rw [← h1, show p + (a_el f n p - p) = a_el f n p by omega]
    exact e3
theorem a_mt_h (hn : n ≤ 800) {q p : Nat} (hq : q < 16) : a_mt f n q p = true ↔ a_el f n p - p = a_len q ∧ a_hv (a_cd f p) (a_el f n p - p) = a_lit q := ⟨a_mt_3 hn hq, fun h => a_mt_4 hn hq h.1 h.2⟩
/-- the number, of the first k digits; held small -/
def a_vl (f : Nat → Int32) (p : Nat) : Nat → Nat
  | 0 => 0
  | k + 1 => 10 * a_vl f p k + ((f (p + k)).toNatClampNeg - 48)
theorem a_vl_s (f : Nat → Int32) (p k : Nat) : a_vl f p (k + 1) = 10 * a_vl f p k + ((f (p + k)).toNatClampNeg - 48) := Eq.trans rfl rfl
end TX
/-- a run of steps -/
theorem sp_g {S R : Type} (F : Nat → S → R) (p e : Nat) (I : Nat → S → Prop) (Q : R → Prop)
    (hs : ∀ n i s, p ≤ i → i < e → I i s → ∃ s', I (i + 1) s' ∧ F (n + 1) s = F n s')
    (h0 : ∀ n s, I e s → Q (F (n + 1) s)) (hpe : p ≤ e) (s : S) (h : I p s) (fuel : Nat) (hf : e - p < fuel) : Q (F fuel s) := by
  have key : ∀ (j i : Nat) (s : S), p ≤ i → i + j = e → I i s → ∀ fuel, j < fuel → Q (F fuel s) := by
    intro j
    induction j with
    | zero =>
      intro i s hp hi h fuel hf
      obtain ⟨f, rfl⟩ : ∃ f, fuel = f + 1 := ⟨fuel - 1, by omega⟩
      have : i = e := by omega
      subst this
      exact h0 f s h
    | succ j ih =>
      intro i s hp hi h fuel hf
      obtain ⟨f, rfl⟩ : ∃ f, fuel = f + 1 := ⟨fuel - 1, by omega⟩
      obtain ⟨s', h1, h2⟩ := hs f i s hp (by omega) h
      rw [h2]
      exact ih (i + 1) s' (by omega) (by omega) h1 f (by omega)
  exact key (e - p) p s (Nat.le_refl _) (by omega) h fuel hf
