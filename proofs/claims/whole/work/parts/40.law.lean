/-! THE LAW'S LOOP, printed by genlaw.py. -/
abbrev am_lawM : AM := (16, x, code, 4, ret, 1, true)
/-- one step of the law: the script is an array that nobody writes -/
def am_1L (xs : Nat → Int32) (L : Nat) (P : AP) (X : Nat → AL → List AV → AS → Prop) (i : Instr) (pc : Nat) (lv : AL) (st : List AV) (σ : AS) : Prop := match i with
  | .iaload => am_i1 st fun i r => am_r1 r fun t a r => t.1 = 28 ∧ a = am_n ∧ vp_in i L ∧ X (pc + 1) lv (.inl (xs i.toNatClampNeg) :: r) σ
  | .arraylength => am_r1 st fun t a r => t.1 = 28 ∧ a = am_n ∧ X (pc + 1) lv (.inl (Int32.ofNat L) :: r) σ
  | .ireturn => st = [.inl 1]
  | .lreturn => False
  | .areturn => False
  | .return_ => False
  | i => am_1 am_lawM P (fun _ _ => False) X i pc lv st σ
def am_LL (xs : Nat → Int32) (L : Nat) (P : AP) (X : Nat → AL → List AV → AS → Prop) : List (Nat × Instr × Nat) → Nat → AL → List AV → AS → Prop
  | [], pc, lv, st, σ => X pc lv st σ
  | (q, i, _) :: is, pc, lv, st, σ => match Nat.beq pc q with
    | true => am_1L xs L P (am_LL xs L P X is) i pc lv st σ
    | false => False
def am_isS : Instr → Bool
  | .iaload => true
  | .arraylength => true
  | .ireturn => true
  | .lreturn => true
  | .areturn => true
  | .return_ => true
  | _ => false
theorem am_1L_eq {xs : Nat → Int32} {L : Nat} {P : AP} {X : Nat → AL → List AV → AS → Prop} {i : Instr} {pc : Nat} {lv : AL} {st : List AV} {σ : AS} (h : am_isS i = false) : am_1L xs L P X i pc lv st σ = am_1 am_lawM P (fun _ _ => False) X i pc lv st σ := by
  cases i <;> first | rfl | cases h
theorem am_1L_mono {xs : Nat → Int32} {L : Nat} {P : AP} {X Y : Nat → AL → List AV → AS → Prop} {i : Instr} {pc : Nat} {lv : AL} {st : List AV} {σ : AS} (hk : ∀ pc lv st σ, X pc lv st σ → Y pc lv st σ) (h : am_1L xs L P X i pc lv st σ) : am_1L xs L P Y i pc lv st σ := by
  cases hs : am_isS i with
  | false =>
    rw [am_1L_eq hs] at h ⊢
    exact am_1_mono hk h
  | true =>
    cases i with
    | iaload => exact am_i1_mono h fun _ _ h => am_r1_mono h fun _ _ _ h => ⟨h.1, h.2.1, h.2.2.1, hk _ _ _ _ h.2.2.2⟩
    | arraylength => exact am_r1_mono h fun _ _ _ h => ⟨h.1, h.2.1, hk _ _ _ _ h.2.2⟩
    | ireturn => exact h
    | lreturn => exact h
    | areturn => exact h
    | return_ => exact h
    | _ => cases hs
def am_cloL (code : List (Nat × Instr × Nat)) (xs : Nat → Int32) (L : Nat) (P : AP) (X : Nat → AL → List AV → AS → Prop) : Prop :=
  (∀ pc i n lv st σ, (pc, i, n) ∈ code → am_1L xs L P X i pc lv st σ → X pc lv st σ) ∧ ∀ pc lv lv' st σ, X pc lv' st σ → (∀ q ∈ lv', q ∈ lv) → X pc lv st σ
theorem am_LL_run {code : List (Nat × Instr × Nat)} {xs : Nat → Int32} {L : Nat} {P : AP} {X : Nat → AL → List AV → AS → Prop} (hX : am_cloL code xs L P X) : ∀ (is : List (Nat × Instr × Nat)), (∀ q ∈ is, q ∈ code) → ∀ pc lv st σ, am_LL xs L P X is pc lv st σ → X pc lv st σ
  | [], _, _, _, _, _, h => h
  | (q, i, n) :: is, hin, pc, lv, st, σ, h => by
    unfold am_LL at h
    split at h
    · rename_i e
      have e2 : pc = q := Nat.eq_of_beq_eq_true e
      subst e2
      exact hX.1 pc i n lv st σ (hin _ List.mem_cons_self) (am_1L_mono (am_LL_run hX is (fun q hq => hin q (List.mem_cons_of_mem _ hq))) h)
    · exact h.elim
theorem am_blkL {code ks : List (Nat × Instr × Nat)} {xs : Nat → Int32} {L : Nat} {P : AP} {X : Nat → AL → List AV → AS → Prop} (hX : am_cloL code xs L P X) (hks : ∀ q ∈ ks, q ∈ code) (a n : Nat) {pc : Nat} {lv : AL} {st : List AV} {σ : AS} (h : am_LL xs L P X ((ks.drop a).take n) pc lv st σ) : X pc lv st σ :=
  am_LL_run hX _ (fun q hq => hks q (List.mem_of_mem_drop (List.mem_of_mem_take hq))) pc lv st σ h
theorem am_wkL {code : List (Nat × Instr × Nat)} {xs : Nat → Int32} {L : Nat} {P : AP} {X : Nat → AL → List AV → AS → Prop} (hX : am_cloL code xs L P X) (ks : List Nat) {pc : Nat} {lv : AL} {st : List AV} {σ : AS} (h : X pc (ks.filterMap (fun i => lv[i]?)) st σ) : X pc lv st σ :=
  hX.2 pc lv _ st σ h (fun q hq => by
    obtain ⟨i, -, hi⟩ := List.mem_filterMap.mp hq
    exact List.mem_of_getElem? hi)
theorem am_l0 {σ σ' : AS} {G : Prop} (h : some (σ, (0 : Int32)) = some (σ', (1 : Int32))) : G := by
  have := congrArg (fun z => z.map (fun q => q.2)) h
  simp at this
def kLh : List (Nat × Instr × Nat) := [(18, .iload_n 3, 1), (19, .aload_n 0, 1), (20, .arraylength, 1), (21, .bipush 6, 2), (23, .isub, 1), (24, .if_icmp .gt 2102, 3), (27, .aload_n 0, 1), (28, .iload_n 3, 1), (29, .iaload, 1), (30, .bipush 127, 2), (32, .iand, 1), (33, .tableswitch 2087 0 69 #[295, 358, 381, 394, 417, 450, 483, 516, 549, 572, 595, 618, 651, 674, 697, 710, 723, 746, 769, 792, 805, 818, 841, 864, 887, 910, 933, 956, 989, 1012, 1035, 1048, 1061, 1084, 1107, 1130, 1143, 1166, 1199, 1222, 1245, 1258, 1271, 1294, 1317, 1340, 1363, 1396, 1419, 1442, 1465, 1498, 1521, 1565, 1599, 1632, 1665, 1678, 1691, 1704, 1717, 1730, 1763, 1806, 1839, 1862, 1885, 1908, 1951, 2024], 295)]
theorem qkLh : ∀ q ∈ kLh, decode code q.1 = .ok (q.2.1, q.2.2) ∧ am_iok 4 q.1 q.2.1 q.2.2 = true := by decide +kernel
def kLc0 : List (Nat × Instr × Nat) := [(328, .aload_n 1, 1), (329, .aload_n 0, 1), (330, .iload_n 3, 1), (331, .iconst 1, 1), (332, .iadd, 1), (333, .iaload, 1), (334, .aload_n 0, 1), (335, .iload_n 3, 1), (336, .iconst 2, 1), (337, .iadd, 1), (338, .iaload, 1), (339, .aload_n 0, 1), (340, .iload_n 3, 1), (341, .iconst 3, 1), (342, .iadd, 1), (343, .iaload, 1), (344, .aload_n 0, 1), (345, .iload_n 3, 1), (346, .iconst 4, 1), (347, .iadd, 1), (348, .iaload, 1), (349, .aload_n 0, 1), (350, .iload_n 3, 1), (351, .iconst 5, 1), (352, .iadd, 1), (353, .iaload, 1), (354, .invokevirtual 13, 3), (357, .aload_n 2, 1), (358, .aload_n 0, 1), (359, .iload_n 3, 1), (360, .iconst 1, 1), (361, .iadd, 1), (362, .iaload, 1), (363, .aload_n 0, 1), (364, .iload_n 3, 1), (365, .iconst 2, 1), (366, .iadd, 1), (367, .iaload, 1), (368, .aload_n 0, 1), (369, .iload_n 3, 1), (370, .iconst 3, 1), (371, .iadd, 1), (372, .iaload, 1), (373, .aload_n 0, 1), (374, .iload_n 3, 1), (375, .iconst 4, 1), (376, .iadd, 1), (377, .iaload, 1), (378, .aload_n 0, 1), (379, .iload_n 3, 1), (380, .iconst 5, 1), (381, .iadd, 1), (382, .iaload, 1), (383, .invokevirtual 17, 3), (386, .if_icmp .eq 1734, 3), (389, .iconst 0, 1), (390, .ireturn, 1)]
theorem qkLc0 : ∀ q ∈ kLc0, decode code q.1 = .ok (q.2.1, q.2.2) ∧ am_iok 4 q.1 q.2.1 q.2.2 = true := by decide +kernel
def kLc1 : List (Nat × Instr × Nat) := [(391, .aload_n 1, 1), (392, .aload_n 0, 1), (393, .iload_n 3, 1), (394, .iconst 1, 1), (395, .iadd, 1), (396, .iaload, 1), (397, .invokevirtual 18, 3), (400, .aload_n 2, 1), (401, .aload_n 0, 1), (402, .iload_n 3, 1), (403, .iconst 1, 1), (404, .iadd, 1), (405, .iaload, 1), (406, .invokevirtual 22, 3), (409, .if_icmp .eq 1711, 3), (412, .iconst 0, 1), (413, .ireturn, 1)]
theorem qkLc1 : ∀ q ∈ kLc1, decode code q.1 = .ok (q.2.1, q.2.2) ∧ am_iok 4 q.1 q.2.1 q.2.2 = true := by decide +kernel
def kLc2 : List (Nat × Instr × Nat) := [(414, .aload_n 1, 1), (415, .invokevirtual 23, 3), (418, .aload_n 2, 1), (419, .invokevirtual 27, 3), (422, .if_icmp .eq 1698, 3), (425, .iconst 0, 1), (426, .ireturn, 1)]
theorem qkLc2 : ∀ q ∈ kLc2, decode code q.1 = .ok (q.2.1, q.2.2) ∧ am_iok 4 q.1 q.2.1 q.2.2 = true := by decide +kernel
def kLc3 : List (Nat × Instr × Nat) := [(427, .aload_n 1, 1), (428, .aload_n 0, 1), (429, .iload_n 3, 1), (430, .iconst 1, 1), (431, .iadd, 1), (432, .iaload, 1), (433, .invokevirtual 28, 3), (436, .aload_n 2, 1), (437, .aload_n 0, 1), (438, .iload_n 3, 1), (439, .iconst 1, 1), (440, .iadd, 1), (441, .iaload, 1), (442, .invokevirtual 31, 3), (445, .if_icmp .eq 1675, 3), (448, .iconst 0, 1), (449, .ireturn, 1)]
theorem qkLc3 : ∀ q ∈ kLc3, decode code q.1 = .ok (q.2.1, q.2.2) ∧ am_iok 4 q.1 q.2.1 q.2.2 = true := by decide +kernel
def kLc4 : List (Nat × Instr × Nat) := [(450, .aload_n 1, 1), (451, .aload_n 0, 1), (452, .iload_n 3, 1), (453, .iconst 1, 1), (454, .iadd, 1), (455, .iaload, 1), (456, .aload_n 0, 1), (457, .iload_n 3, 1), (458, .iconst 2, 1), (459, .iadd, 1), (460, .iaload, 1), (461, .invokevirtual 32, 3), (464, .aload_n 2, 1), (465, .aload_n 0, 1), (466, .iload_n 3, 1), (467, .iconst 1, 1), (468, .iadd, 1), (469, .iaload, 1), (470, .aload_n 0, 1), (471, .iload_n 3, 1), (472, .iconst 2, 1), (473, .iadd, 1), (474, .iaload, 1), (475, .invokevirtual 36, 3), (478, .if_icmp .eq 1642, 3), (481, .iconst 0, 1), (482, .ireturn, 1)]
theorem qkLc4 : ∀ q ∈ kLc4, decode code q.1 = .ok (q.2.1, q.2.2) ∧ am_iok 4 q.1 q.2.1 q.2.2 = true := by decide +kernel
def kLc5 : List (Nat × Instr × Nat) := [(483, .aload_n 1, 1), (484, .aload_n 0, 1), (485, .iload_n 3, 1), (486, .iconst 1, 1), (487, .iadd, 1), (488, .iaload, 1), (489, .aload_n 0, 1), (490, .iload_n 3, 1), (491, .iconst 2, 1), (492, .iadd, 1), (493, .iaload, 1), (494, .invokevirtual 37, 3), (497, .aload_n 2, 1), (498, .aload_n 0, 1), (499, .iload_n 3, 1), (500, .iconst 1, 1), (501, .iadd, 1), (502, .iaload, 1), (503, .aload_n 0, 1), (504, .iload_n 3, 1), (505, .iconst 2, 1), (506, .iadd, 1), (507, .iaload, 1), (508, .invokevirtual 40, 3), (511, .if_icmp .eq 1609, 3), (514, .iconst 0, 1), (515, .ireturn, 1)]
theorem qkLc5 : ∀ q ∈ kLc5, decode code q.1 = .ok (q.2.1, q.2.2) ∧ am_iok 4 q.1 q.2.1 q.2.2 = true := by decide +kernel
def kLc6 : List (Nat × Instr × Nat) := [(516, .aload_n 1, 1), (517, .aload_n 0, 1), (518, .iload_n 3, 1), (519, .iconst 1, 1), (520, .iadd, 1), (521, .iaload, 1), (522, .aload_n 0, 1), (523, .iload_n 3, 1), (524, .iconst 2, 1), (525, .iadd, 1), (526, .iaload, 1), (527, .invokevirtual 41, 3), (530, .aload_n 2, 1), (531, .aload_n 0, 1), (532, .iload_n 3, 1), (533, .iconst 1, 1), (534, .iadd, 1), (535, .iaload, 1), (536, .aload_n 0, 1), (537, .iload_n 3, 1), (538, .iconst 2, 1), (539, .iadd, 1), (540, .iaload, 1), (541, .invokevirtual 44, 3), (544, .if_icmp .eq 1576, 3), (547, .iconst 0, 1), (548, .ireturn, 1)]
theorem qkLc6 : ∀ q ∈ kLc6, decode code q.1 = .ok (q.2.1, q.2.2) ∧ am_iok 4 q.1 q.2.1 q.2.2 = true := by decide +kernel
def kLc7 : List (Nat × Instr × Nat) := [(549, .aload_n 1, 1), (550, .aload_n 0, 1), (551, .iload_n 3, 1), (552, .iconst 1, 1), (553, .iadd, 1), (554, .iaload, 1), (555, .aload_n 0, 1), (556, .iload_n 3, 1), (557, .iconst 2, 1), (558, .iadd, 1), (559, .iaload, 1), (560, .invokevirtual 45, 3), (563, .aload_n 2, 1), (564, .aload_n 0, 1), (565, .iload_n 3, 1), (566, .iconst 1, 1), (567, .iadd, 1), (568, .iaload, 1), (569, .aload_n 0, 1), (570, .iload_n 3, 1), (571, .iconst 2, 1), (572, .iadd, 1), (573, .iaload, 1), (574, .invokevirtual 48, 3), (577, .if_icmp .eq 1543, 3), (580, .iconst 0, 1), (581, .ireturn, 1)]
theorem qkLc7 : ∀ q ∈ kLc7, decode code q.1 = .ok (q.2.1, q.2.2) ∧ am_iok 4 q.1 q.2.1 q.2.2 = true := by decide +kernel
def kLc8 : List (Nat × Instr × Nat) := [(582, .aload_n 1, 1), (583, .aload_n 0, 1), (584, .iload_n 3, 1), (585, .iconst 1, 1), (586, .iadd, 1), (587, .iaload, 1), (588, .invokevirtual 49, 3), (591, .aload_n 2, 1), (592, .aload_n 0, 1), (593, .iload_n 3, 1), (594, .iconst 1, 1), (595, .iadd, 1), (596, .iaload, 1), (597, .invokevirtual 52, 3), (600, .if_icmp .eq 1520, 3), (603, .iconst 0, 1), (604, .ireturn, 1)]
theorem qkLc8 : ∀ q ∈ kLc8, decode code q.1 = .ok (q.2.1, q.2.2) ∧ am_iok 4 q.1 q.2.1 q.2.2 = true := by decide +kernel
def kLc9 : List (Nat × Instr × Nat) := [(605, .aload_n 1, 1), (606, .aload_n 0, 1), (607, .iload_n 3, 1), (608, .iconst 1, 1), (609, .iadd, 1), (610, .iaload, 1), (611, .invokevirtual 53, 3), (614, .aload_n 2, 1), (615, .aload_n 0, 1), (616, .iload_n 3, 1), (617, .iconst 1, 1), (618, .iadd, 1), (619, .iaload, 1), (620, .invokevirtual 56, 3), (623, .if_icmp .eq 1497, 3), (626, .iconst 0, 1), (627, .ireturn, 1)]
theorem qkLc9 : ∀ q ∈ kLc9, decode code q.1 = .ok (q.2.1, q.2.2) ∧ am_iok 4 q.1 q.2.1 q.2.2 = true := by decide +kernel
def kLc10 : List (Nat × Instr × Nat) := [(628, .aload_n 1, 1), (629, .aload_n 0, 1), (630, .iload_n 3, 1), (631, .iconst 1, 1), (632, .iadd, 1), (633, .iaload, 1), (634, .invokevirtual 57, 3), (637, .aload_n 2, 1), (638, .aload_n 0, 1), (639, .iload_n 3, 1), (640, .iconst 1, 1), (641, .iadd, 1), (642, .iaload, 1), (643, .invokevirtual 60, 3), (646, .if_icmp .eq 1474, 3), (649, .iconst 0, 1), (650, .ireturn, 1)]
theorem qkLc10 : ∀ q ∈ kLc10, decode code q.1 = .ok (q.2.1, q.2.2) ∧ am_iok 4 q.1 q.2.1 q.2.2 = true := by decide +kernel
def kLc11 : List (Nat × Instr × Nat) := [(651, .aload_n 1, 1), (652, .aload_n 0, 1), (653, .iload_n 3, 1), (654, .iconst 1, 1), (655, .iadd, 1), (656, .iaload, 1), (657, .aload_n 0, 1), (658, .iload_n 3, 1), (659, .iconst 2, 1), (660, .iadd, 1), (661, .iaload, 1), (662, .invokevirtual 61, 3), (665, .aload_n 2, 1), (666, .aload_n 0, 1), (667, .iload_n 3, 1), (668, .iconst 1, 1), (669, .iadd, 1), (670, .iaload, 1), (671, .aload_n 0, 1), (672, .iload_n 3, 1), (673, .iconst 2, 1), (674, .iadd, 1), (675, .iaload, 1), (676, .invokevirtual 64, 3), (679, .if_icmp .eq 1441, 3), (682, .iconst 0, 1), (683, .ireturn, 1)]
theorem qkLc11 : ∀ q ∈ kLc11, decode code q.1 = .ok (q.2.1, q.2.2) ∧ am_iok 4 q.1 q.2.1 q.2.2 = true := by decide +kernel
def kLc12 : List (Nat × Instr × Nat) := [(684, .aload_n 1, 1), (685, .aload_n 0, 1), (686, .iload_n 3, 1), (687, .iconst 1, 1), (688, .iadd, 1), (689, .iaload, 1), (690, .invokevirtual 65, 3), (693, .aload_n 2, 1), (694, .aload_n 0, 1), (695, .iload_n 3, 1), (696, .iconst 1, 1), (697, .iadd, 1), (698, .iaload, 1), (699, .invokevirtual 68, 3), (702, .if_icmp .eq 1418, 3), (705, .iconst 0, 1), (706, .ireturn, 1)]
theorem qkLc12 : ∀ q ∈ kLc12, decode code q.1 = .ok (q.2.1, q.2.2) ∧ am_iok 4 q.1 q.2.1 q.2.2 = true := by decide +kernel
def kLc13 : List (Nat × Instr × Nat) := [(707, .aload_n 1, 1), (708, .aload_n 0, 1), (709, .iload_n 3, 1), (710, .iconst 1, 1), (711, .iadd, 1), (712, .iaload, 1), (713, .invokevirtual 69, 3), (716, .aload_n 2, 1), (717, .aload_n 0, 1), (718, .iload_n 3, 1), (719, .iconst 1, 1), (720, .iadd, 1), (721, .iaload, 1), (722, .invokevirtual 72, 3), (725, .if_icmp .eq 1395, 3), (728, .iconst 0, 1), (729, .ireturn, 1)]
theorem qkLc13 : ∀ q ∈ kLc13, decode code q.1 = .ok (q.2.1, q.2.2) ∧ am_iok 4 q.1 q.2.1 q.2.2 = true := by decide +kernel
def kLc14 : List (Nat × Instr × Nat) := [(730, .aload_n 1, 1), (731, .invokevirtual 73, 3), (734, .aload_n 2, 1), (735, .invokevirtual 76, 3), (738, .if_icmp .eq 1382, 3), (741, .iconst 0, 1), (742, .ireturn, 1)]
theorem qkLc14 : ∀ q ∈ kLc14, decode code q.1 = .ok (q.2.1, q.2.2) ∧ am_iok 4 q.1 q.2.1 q.2.2 = true := by decide +kernel
def kLc15 : List (Nat × Instr × Nat) := [(743, .aload_n 1, 1), (744, .invokevirtual 77, 3), (747, .aload_n 2, 1), (748, .invokevirtual 80, 3), (751, .if_icmp .eq 1369, 3), (754, .iconst 0, 1), (755, .ireturn, 1)]
theorem qkLc15 : ∀ q ∈ kLc15, decode code q.1 = .ok (q.2.1, q.2.2) ∧ am_iok 4 q.1 q.2.1 q.2.2 = true := by decide +kernel
def kLc16 : List (Nat × Instr × Nat) := [(756, .aload_n 1, 1), (757, .aload_n 0, 1), (758, .iload_n 3, 1), (759, .iconst 1, 1), (760, .iadd, 1), (761, .iaload, 1), (762, .invokevirtual 81, 3), (765, .aload_n 2, 1), (766, .aload_n 0, 1), (767, .iload_n 3, 1), (768, .iconst 1, 1), (769, .iadd, 1), (770, .iaload, 1), (771, .invokevirtual 84, 3), (774, .if_icmp .eq 1346, 3), (777, .iconst 0, 1), (778, .ireturn, 1)]
theorem qkLc16 : ∀ q ∈ kLc16, decode code q.1 = .ok (q.2.1, q.2.2) ∧ am_iok 4 q.1 q.2.1 q.2.2 = true := by decide +kernel
def kLc17 : List (Nat × Instr × Nat) := [(779, .aload_n 1, 1), (780, .aload_n 0, 1), (781, .iload_n 3, 1), (782, .iconst 1, 1), (783, .iadd, 1), (784, .iaload, 1), (785, .invokevirtual 85, 3), (788, .aload_n 2, 1), (789, .aload_n 0, 1), (790, .iload_n 3, 1), (791, .iconst 1, 1), (792, .iadd, 1), (793, .iaload, 1), (794, .invokevirtual 88, 3), (797, .if_icmp .eq 1323, 3), (800, .iconst 0, 1), (801, .ireturn, 1)]
theorem qkLc17 : ∀ q ∈ kLc17, decode code q.1 = .ok (q.2.1, q.2.2) ∧ am_iok 4 q.1 q.2.1 q.2.2 = true := by decide +kernel
def kLc18 : List (Nat × Instr × Nat) := [(802, .aload_n 1, 1), (803, .aload_n 0, 1), (804, .iload_n 3, 1), (805, .iconst 1, 1), (806, .iadd, 1), (807, .iaload, 1), (808, .invokevirtual 89, 3), (811, .aload_n 2, 1), (812, .aload_n 0, 1), (813, .iload_n 3, 1), (814, .iconst 1, 1), (815, .iadd, 1), (816, .iaload, 1), (817, .invokevirtual 92, 3), (820, .if_icmp .eq 1300, 3), (823, .iconst 0, 1), (824, .ireturn, 1)]
theorem qkLc18 : ∀ q ∈ kLc18, decode code q.1 = .ok (q.2.1, q.2.2) ∧ am_iok 4 q.1 q.2.1 q.2.2 = true := by decide +kernel
def kLc19 : List (Nat × Instr × Nat) := [(825, .aload_n 1, 1), (826, .invokevirtual 93, 3), (829, .aload_n 2, 1), (830, .invokevirtual 96, 3), (833, .if_icmp .eq 1287, 3), (836, .iconst 0, 1), (837, .ireturn, 1)]
theorem qkLc19 : ∀ q ∈ kLc19, decode code q.1 = .ok (q.2.1, q.2.2) ∧ am_iok 4 q.1 q.2.1 q.2.2 = true := by decide +kernel
def kLc20 : List (Nat × Instr × Nat) := [(838, .aload_n 1, 1), (839, .invokevirtual 97, 3), (842, .aload_n 2, 1), (843, .invokevirtual 100, 3), (846, .if_icmp .eq 1274, 3), (849, .iconst 0, 1), (850, .ireturn, 1)]
theorem qkLc20 : ∀ q ∈ kLc20, decode code q.1 = .ok (q.2.1, q.2.2) ∧ am_iok 4 q.1 q.2.1 q.2.2 = true := by decide +kernel
def kLc21 : List (Nat × Instr × Nat) := [(851, .aload_n 1, 1), (852, .aload_n 0, 1), (853, .iload_n 3, 1), (854, .iconst 1, 1), (855, .iadd, 1), (856, .iaload, 1), (857, .invokevirtual 101, 3), (860, .aload_n 2, 1), (861, .aload_n 0, 1), (862, .iload_n 3, 1), (863, .iconst 1, 1), (864, .iadd, 1), (865, .iaload, 1), (866, .invokevirtual 104, 3), (869, .if_icmp .eq 1251, 3), (872, .iconst 0, 1), (873, .ireturn, 1)]
theorem qkLc21 : ∀ q ∈ kLc21, decode code q.1 = .ok (q.2.1, q.2.2) ∧ am_iok 4 q.1 q.2.1 q.2.2 = true := by decide +kernel
def kLc22 : List (Nat × Instr × Nat) := [(874, .aload_n 1, 1), (875, .aload_n 0, 1), (876, .iload_n 3, 1), (877, .iconst 1, 1), (878, .iadd, 1), (879, .iaload, 1), (880, .invokevirtual 105, 3), (883, .aload_n 2, 1), (884, .aload_n 0, 1), (885, .iload_n 3, 1), (886, .iconst 1, 1), (887, .iadd, 1), (888, .iaload, 1), (889, .invokevirtual 108, 3), (892, .if_icmp .eq 1228, 3), (895, .iconst 0, 1), (896, .ireturn, 1)]
theorem qkLc22 : ∀ q ∈ kLc22, decode code q.1 = .ok (q.2.1, q.2.2) ∧ am_iok 4 q.1 q.2.1 q.2.2 = true := by decide +kernel
def kLc23 : List (Nat × Instr × Nat) := [(897, .aload_n 1, 1), (898, .aload_n 0, 1), (899, .iload_n 3, 1), (900, .iconst 1, 1), (901, .iadd, 1), (902, .iaload, 1), (903, .invokevirtual 109, 3), (906, .aload_n 2, 1), (907, .aload_n 0, 1), (908, .iload_n 3, 1), (909, .iconst 1, 1), (910, .iadd, 1), (911, .iaload, 1), (912, .invokevirtual 112, 3), (915, .if_icmp .eq 1205, 3), (918, .iconst 0, 1), (919, .ireturn, 1)]
theorem qkLc23 : ∀ q ∈ kLc23, decode code q.1 = .ok (q.2.1, q.2.2) ∧ am_iok 4 q.1 q.2.1 q.2.2 = true := by decide +kernel
def kLc24 : List (Nat × Instr × Nat) := [(920, .aload_n 1, 1), (921, .aload_n 0, 1), (922, .iload_n 3, 1), (923, .iconst 1, 1), (924, .iadd, 1), (925, .iaload, 1), (926, .invokevirtual 113, 3), (929, .aload_n 2, 1), (930, .aload_n 0, 1), (931, .iload_n 3, 1), (932, .iconst 1, 1), (933, .iadd, 1), (934, .iaload, 1), (935, .invokevirtual 116, 3), (938, .if_icmp .eq 1182, 3), (941, .iconst 0, 1), (942, .ireturn, 1)]
theorem qkLc24 : ∀ q ∈ kLc24, decode code q.1 = .ok (q.2.1, q.2.2) ∧ am_iok 4 q.1 q.2.1 q.2.2 = true := by decide +kernel
def kLc25 : List (Nat × Instr × Nat) := [(943, .aload_n 1, 1), (944, .aload_n 0, 1), (945, .iload_n 3, 1), (946, .iconst 1, 1), (947, .iadd, 1), (948, .iaload, 1), (949, .invokevirtual 117, 3), (952, .aload_n 2, 1), (953, .aload_n 0, 1), (954, .iload_n 3, 1), (955, .iconst 1, 1), (956, .iadd, 1), (957, .iaload, 1), (958, .invokevirtual 120, 3), (961, .if_icmp .eq 1159, 3), (964, .iconst 0, 1), (965, .ireturn, 1)]
theorem qkLc25 : ∀ q ∈ kLc25, decode code q.1 = .ok (q.2.1, q.2.2) ∧ am_iok 4 q.1 q.2.1 q.2.2 = true := by decide +kernel
def kLc26 : List (Nat × Instr × Nat) := [(966, .aload_n 1, 1), (967, .aload_n 0, 1), (968, .iload_n 3, 1), (969, .iconst 1, 1), (970, .iadd, 1), (971, .iaload, 1), (972, .invokevirtual 121, 3), (975, .aload_n 2, 1), (976, .aload_n 0, 1), (977, .iload_n 3, 1), (978, .iconst 1, 1), (979, .iadd, 1), (980, .iaload, 1), (981, .invokevirtual 124, 3), (984, .if_icmp .eq 1136, 3), (987, .iconst 0, 1), (988, .ireturn, 1)]
theorem qkLc26 : ∀ q ∈ kLc26, decode code q.1 = .ok (q.2.1, q.2.2) ∧ am_iok 4 q.1 q.2.1 q.2.2 = true := by decide +kernel
def kLc27 : List (Nat × Instr × Nat) := [(989, .aload_n 1, 1), (990, .aload_n 0, 1), (991, .iload_n 3, 1), (992, .iconst 1, 1), (993, .iadd, 1), (994, .iaload, 1), (995, .aload_n 0, 1), (996, .iload_n 3, 1), (997, .iconst 2, 1), (998, .iadd, 1), (999, .iaload, 1), (1000, .invokevirtual 125, 3), (1003, .aload_n 2, 1), (1004, .aload_n 0, 1), (1005, .iload_n 3, 1), (1006, .iconst 1, 1), (1007, .iadd, 1), (1008, .iaload, 1), (1009, .aload_n 0, 1), (1010, .iload_n 3, 1), (1011, .iconst 2, 1), (1012, .iadd, 1), (1013, .iaload, 1), (1014, .invokevirtual 128, 3), (1017, .if_icmp .eq 1103, 3), (1020, .iconst 0, 1), (1021, .ireturn, 1)]
theorem qkLc27 : ∀ q ∈ kLc27, decode code q.1 = .ok (q.2.1, q.2.2) ∧ am_iok 4 q.1 q.2.1 q.2.2 = true := by decide +kernel
def kLc28 : List (Nat × Instr × Nat) := [(1022, .aload_n 1, 1), (1023, .aload_n 0, 1), (1024, .iload_n 3, 1), (1025, .iconst 1, 1), (1026, .iadd, 1), (1027, .iaload, 1), (1028, .invokevirtual 129, 3), (1031, .aload_n 2, 1), (1032, .aload_n 0, 1), (1033, .iload_n 3, 1), (1034, .iconst 1, 1), (1035, .iadd, 1), (1036, .iaload, 1), (1037, .invokevirtual 132, 3), (1040, .if_icmp .eq 1080, 3), (1043, .iconst 0, 1), (1044, .ireturn, 1)]
theorem qkLc28 : ∀ q ∈ kLc28, decode code q.1 = .ok (q.2.1, q.2.2) ∧ am_iok 4 q.1 q.2.1 q.2.2 = true := by decide +kernel
def kLc29 : List (Nat × Instr × Nat) := [(1045, .aload_n 1, 1), (1046, .aload_n 0, 1), (1047, .iload_n 3, 1), (1048, .iconst 1, 1), (1049, .iadd, 1), (1050, .iaload, 1), (1051, .invokevirtual 133, 3), (1054, .aload_n 2, 1), (1055, .aload_n 0, 1), (1056, .iload_n 3, 1), (1057, .iconst 1, 1), (1058, .iadd, 1), (1059, .iaload, 1), (1060, .invokevirtual 136, 3), (1063, .if_icmp .eq 1057, 3), (1066, .iconst 0, 1), (1067, .ireturn, 1)]
theorem qkLc29 : ∀ q ∈ kLc29, decode code q.1 = .ok (q.2.1, q.2.2) ∧ am_iok 4 q.1 q.2.1 q.2.2 = true := by decide +kernel
def kLc30 : List (Nat × Instr × Nat) := [(1068, .aload_n 1, 1), (1069, .invokevirtual 137, 3), (1072, .aload_n 2, 1), (1073, .invokevirtual 140, 3), (1076, .if_icmp .eq 1044, 3), (1079, .iconst 0, 1), (1080, .ireturn, 1)]
theorem qkLc30 : ∀ q ∈ kLc30, decode code q.1 = .ok (q.2.1, q.2.2) ∧ am_iok 4 q.1 q.2.1 q.2.2 = true := by decide +kernel
def kLc31 : List (Nat × Instr × Nat) := [(1081, .aload_n 1, 1), (1082, .invokevirtual 141, 3), (1085, .aload_n 2, 1), (1086, .invokevirtual 144, 3), (1089, .if_icmp .eq 1031, 3), (1092, .iconst 0, 1), (1093, .ireturn, 1)]
theorem qkLc31 : ∀ q ∈ kLc31, decode code q.1 = .ok (q.2.1, q.2.2) ∧ am_iok 4 q.1 q.2.1 q.2.2 = true := by decide +kernel
def kLc32 : List (Nat × Instr × Nat) := [(1094, .aload_n 1, 1), (1095, .aload_n 0, 1), (1096, .iload_n 3, 1), (1097, .iconst 1, 1), (1098, .iadd, 1), (1099, .iaload, 1), (1100, .invokevirtual 145, 3), (1103, .aload_n 2, 1), (1104, .aload_n 0, 1), (1105, .iload_n 3, 1), (1106, .iconst 1, 1), (1107, .iadd, 1), (1108, .iaload, 1), (1109, .invokevirtual 148, 3), (1112, .if_icmp .eq 1008, 3), (1115, .iconst 0, 1), (1116, .ireturn, 1)]
theorem qkLc32 : ∀ q ∈ kLc32, decode code q.1 = .ok (q.2.1, q.2.2) ∧ am_iok 4 q.1 q.2.1 q.2.2 = true := by decide +kernel
def kLc33 : List (Nat × Instr × Nat) := [(1117, .aload_n 1, 1), (1118, .aload_n 0, 1), (1119, .iload_n 3, 1), (1120, .iconst 1, 1), (1121, .iadd, 1), (1122, .iaload, 1), (1123, .invokevirtual 149, 3), (1126, .aload_n 2, 1), (1127, .aload_n 0, 1), (1128, .iload_n 3, 1), (1129, .iconst 1, 1), (1130, .iadd, 1), (1131, .iaload, 1), (1132, .invokevirtual 152, 3), (1135, .if_icmp .eq 985, 3), (1138, .iconst 0, 1), (1139, .ireturn, 1)]
theorem qkLc33 : ∀ q ∈ kLc33, decode code q.1 = .ok (q.2.1, q.2.2) ∧ am_iok 4 q.1 q.2.1 q.2.2 = true := by decide +kernel
def kLc34 : List (Nat × Instr × Nat) := [(1140, .aload_n 1, 1), (1141, .aload_n 0, 1), (1142, .iload_n 3, 1), (1143, .iconst 1, 1), (1144, .iadd, 1), (1145, .iaload, 1), (1146, .invokevirtual 153, 3), (1149, .aload_n 2, 1), (1150, .aload_n 0, 1), (1151, .iload_n 3, 1), (1152, .iconst 1, 1), (1153, .iadd, 1), (1154, .iaload, 1), (1155, .invokevirtual 156, 3), (1158, .if_icmp .eq 962, 3), (1161, .iconst 0, 1), (1162, .ireturn, 1)]
theorem qkLc34 : ∀ q ∈ kLc34, decode code q.1 = .ok (q.2.1, q.2.2) ∧ am_iok 4 q.1 q.2.1 q.2.2 = true := by decide +kernel
def kLc35 : List (Nat × Instr × Nat) := [(1163, .aload_n 1, 1), (1164, .invokevirtual 157, 3), (1167, .aload_n 2, 1), (1168, .invokevirtual 160, 3), (1171, .if_icmp .eq 949, 3), (1174, .iconst 0, 1), (1175, .ireturn, 1)]
theorem qkLc35 : ∀ q ∈ kLc35, decode code q.1 = .ok (q.2.1, q.2.2) ∧ am_iok 4 q.1 q.2.1 q.2.2 = true := by decide +kernel
def kLc36 : List (Nat × Instr × Nat) := [(1176, .aload_n 1, 1), (1177, .aload_n 0, 1), (1178, .iload_n 3, 1), (1179, .iconst 1, 1), (1180, .iadd, 1), (1181, .iaload, 1), (1182, .invokevirtual 161, 3), (1185, .aload_n 2, 1), (1186, .aload_n 0, 1), (1187, .iload_n 3, 1), (1188, .iconst 1, 1), (1189, .iadd, 1), (1190, .iaload, 1), (1191, .invokevirtual 164, 3), (1194, .if_icmp .eq 926, 3), (1197, .iconst 0, 1), (1198, .ireturn, 1)]
theorem qkLc36 : ∀ q ∈ kLc36, decode code q.1 = .ok (q.2.1, q.2.2) ∧ am_iok 4 q.1 q.2.1 q.2.2 = true := by decide +kernel
def kLc37 : List (Nat × Instr × Nat) := [(1199, .aload_n 1, 1), (1200, .aload_n 0, 1), (1201, .iload_n 3, 1), (1202, .iconst 1, 1), (1203, .iadd, 1), (1204, .iaload, 1), (1205, .aload_n 0, 1), (1206, .iload_n 3, 1), (1207, .iconst 2, 1), (1208, .iadd, 1), (1209, .iaload, 1), (1210, .invokevirtual 165, 3), (1213, .aload_n 2, 1), (1214, .aload_n 0, 1), (1215, .iload_n 3, 1), (1216, .iconst 1, 1), (1217, .iadd, 1), (1218, .iaload, 1), (1219, .aload_n 0, 1), (1220, .iload_n 3, 1), (1221, .iconst 2, 1), (1222, .iadd, 1), (1223, .iaload, 1), (1224, .invokevirtual 168, 3), (1227, .if_icmp .eq 893, 3), (1230, .iconst 0, 1), (1231, .ireturn, 1)]
theorem qkLc37 : ∀ q ∈ kLc37, decode code q.1 = .ok (q.2.1, q.2.2) ∧ am_iok 4 q.1 q.2.1 q.2.2 = true := by decide +kernel
def kLc38 : List (Nat × Instr × Nat) := [(1232, .aload_n 1, 1), (1233, .aload_n 0, 1), (1234, .iload_n 3, 1), (1235, .iconst 1, 1), (1236, .iadd, 1), (1237, .iaload, 1), (1238, .invokevirtual 169, 3), (1241, .aload_n 2, 1), (1242, .aload_n 0, 1), (1243, .iload_n 3, 1), (1244, .iconst 1, 1), (1245, .iadd, 1), (1246, .iaload, 1), (1247, .invokevirtual 172, 3), (1250, .if_icmp .eq 870, 3), (1253, .iconst 0, 1), (1254, .ireturn, 1)]
theorem qkLc38 : ∀ q ∈ kLc38, decode code q.1 = .ok (q.2.1, q.2.2) ∧ am_iok 4 q.1 q.2.1 q.2.2 = true := by decide +kernel
def kLc39 : List (Nat × Instr × Nat) := [(1255, .aload_n 1, 1), (1256, .aload_n 0, 1), (1257, .iload_n 3, 1), (1258, .iconst 1, 1), (1259, .iadd, 1), (1260, .iaload, 1), (1261, .invokevirtual 173, 3), (1264, .aload_n 2, 1), (1265, .aload_n 0, 1), (1266, .iload_n 3, 1), (1267, .iconst 1, 1), (1268, .iadd, 1), (1269, .iaload, 1), (1270, .invokevirtual 176, 3), (1273, .if_icmp .eq 847, 3), (1276, .iconst 0, 1), (1277, .ireturn, 1)]
theorem qkLc39 : ∀ q ∈ kLc39, decode code q.1 = .ok (q.2.1, q.2.2) ∧ am_iok 4 q.1 q.2.1 q.2.2 = true := by decide +kernel
def kLc40 : List (Nat × Instr × Nat) := [(1278, .aload_n 1, 1), (1279, .invokevirtual 177, 3), (1282, .aload_n 2, 1), (1283, .invokevirtual 180, 3), (1286, .if_icmp .eq 834, 3), (1289, .iconst 0, 1), (1290, .ireturn, 1)]
theorem qkLc40 : ∀ q ∈ kLc40, decode code q.1 = .ok (q.2.1, q.2.2) ∧ am_iok 4 q.1 q.2.1 q.2.2 = true := by decide +kernel
def kLc41 : List (Nat × Instr × Nat) := [(1291, .aload_n 1, 1), (1292, .invokevirtual 181, 3), (1295, .aload_n 2, 1), (1296, .invokevirtual 184, 3), (1299, .if_icmp .eq 821, 3), (1302, .iconst 0, 1), (1303, .ireturn, 1)]
theorem qkLc41 : ∀ q ∈ kLc41, decode code q.1 = .ok (q.2.1, q.2.2) ∧ am_iok 4 q.1 q.2.1 q.2.2 = true := by decide +kernel
def kLc42 : List (Nat × Instr × Nat) := [(1304, .aload_n 1, 1), (1305, .aload_n 0, 1), (1306, .iload_n 3, 1), (1307, .iconst 1, 1), (1308, .iadd, 1), (1309, .iaload, 1), (1310, .invokevirtual 185, 3), (1313, .aload_n 2, 1), (1314, .aload_n 0, 1), (1315, .iload_n 3, 1), (1316, .iconst 1, 1), (1317, .iadd, 1), (1318, .iaload, 1), (1319, .invokevirtual 188, 3), (1322, .if_icmp .eq 798, 3), (1325, .iconst 0, 1), (1326, .ireturn, 1)]
theorem qkLc42 : ∀ q ∈ kLc42, decode code q.1 = .ok (q.2.1, q.2.2) ∧ am_iok 4 q.1 q.2.1 q.2.2 = true := by decide +kernel
def kLc43 : List (Nat × Instr × Nat) := [(1327, .aload_n 1, 1), (1328, .aload_n 0, 1), (1329, .iload_n 3, 1), (1330, .iconst 1, 1), (1331, .iadd, 1), (1332, .iaload, 1), (1333, .invokevirtual 189, 3), (1336, .aload_n 2, 1), (1337, .aload_n 0, 1), (1338, .iload_n 3, 1), (1339, .iconst 1, 1), (1340, .iadd, 1), (1341, .iaload, 1), (1342, .invokevirtual 192, 3), (1345, .if_icmp .eq 775, 3), (1348, .iconst 0, 1), (1349, .ireturn, 1)]
theorem qkLc43 : ∀ q ∈ kLc43, decode code q.1 = .ok (q.2.1, q.2.2) ∧ am_iok 4 q.1 q.2.1 q.2.2 = true := by decide +kernel
def kLc44 : List (Nat × Instr × Nat) := [(1350, .aload_n 1, 1), (1351, .aload_n 0, 1), (1352, .iload_n 3, 1), (1353, .iconst 1, 1), (1354, .iadd, 1), (1355, .iaload, 1), (1356, .invokevirtual 193, 3), (1359, .aload_n 2, 1), (1360, .aload_n 0, 1), (1361, .iload_n 3, 1), (1362, .iconst 1, 1), (1363, .iadd, 1), (1364, .iaload, 1), (1365, .invokevirtual 196, 3), (1368, .if_icmp .eq 752, 3), (1371, .iconst 0, 1), (1372, .ireturn, 1)]
theorem qkLc44 : ∀ q ∈ kLc44, decode code q.1 = .ok (q.2.1, q.2.2) ∧ am_iok 4 q.1 q.2.1 q.2.2 = true := by decide +kernel
def kLc45 : List (Nat × Instr × Nat) := [(1373, .aload_n 1, 1), (1374, .aload_n 0, 1), (1375, .iload_n 3, 1), (1376, .iconst 1, 1), (1377, .iadd, 1), (1378, .iaload, 1), (1379, .invokevirtual 197, 3), (1382, .aload_n 2, 1), (1383, .aload_n 0, 1), (1384, .iload_n 3, 1), (1385, .iconst 1, 1), (1386, .iadd, 1), (1387, .iaload, 1), (1388, .invokevirtual 200, 3), (1391, .if_icmp .eq 729, 3), (1394, .iconst 0, 1), (1395, .ireturn, 1)]
theorem qkLc45 : ∀ q ∈ kLc45, decode code q.1 = .ok (q.2.1, q.2.2) ∧ am_iok 4 q.1 q.2.1 q.2.2 = true := by decide +kernel
def kLc46 : List (Nat × Instr × Nat) := [(1396, .aload_n 1, 1), (1397, .aload_n 0, 1), (1398, .iload_n 3, 1), (1399, .iconst 1, 1), (1400, .iadd, 1), (1401, .iaload, 1), (1402, .aload_n 0, 1), (1403, .iload_n 3, 1), (1404, .iconst 2, 1), (1405, .iadd, 1), (1406, .iaload, 1), (1407, .invokevirtual 201, 3), (1410, .aload_n 2, 1), (1411, .aload_n 0, 1), (1412, .iload_n 3, 1), (1413, .iconst 1, 1), (1414, .iadd, 1), (1415, .iaload, 1), (1416, .aload_n 0, 1), (1417, .iload_n 3, 1), (1418, .iconst 2, 1), (1419, .iadd, 1), (1420, .iaload, 1), (1421, .invokevirtual 204, 3), (1424, .if_icmp .eq 696, 3), (1427, .iconst 0, 1), (1428, .ireturn, 1)]
theorem qkLc46 : ∀ q ∈ kLc46, decode code q.1 = .ok (q.2.1, q.2.2) ∧ am_iok 4 q.1 q.2.1 q.2.2 = true := by decide +kernel
def kLc47 : List (Nat × Instr × Nat) := [(1429, .aload_n 1, 1), (1430, .aload_n 0, 1), (1431, .iload_n 3, 1), (1432, .iconst 1, 1), (1433, .iadd, 1), (1434, .iaload, 1), (1435, .invokevirtual 205, 3), (1438, .aload_n 2, 1), (1439, .aload_n 0, 1), (1440, .iload_n 3, 1), (1441, .iconst 1, 1), (1442, .iadd, 1), (1443, .iaload, 1), (1444, .invokevirtual 208, 3), (1447, .if_icmp .eq 673, 3), (1450, .iconst 0, 1), (1451, .ireturn, 1)]
theorem qkLc47 : ∀ q ∈ kLc47, decode code q.1 = .ok (q.2.1, q.2.2) ∧ am_iok 4 q.1 q.2.1 q.2.2 = true := by decide +kernel
def kLc48 : List (Nat × Instr × Nat) := [(1452, .aload_n 1, 1), (1453, .aload_n 0, 1), (1454, .iload_n 3, 1), (1455, .iconst 1, 1), (1456, .iadd, 1), (1457, .iaload, 1), (1458, .invokevirtual 209, 3), (1461, .aload_n 2, 1), (1462, .aload_n 0, 1), (1463, .iload_n 3, 1), (1464, .iconst 1, 1), (1465, .iadd, 1), (1466, .iaload, 1), (1467, .invokevirtual 212, 3), (1470, .if_icmp .eq 650, 3), (1473, .iconst 0, 1), (1474, .ireturn, 1)]
theorem qkLc48 : ∀ q ∈ kLc48, decode code q.1 = .ok (q.2.1, q.2.2) ∧ am_iok 4 q.1 q.2.1 q.2.2 = true := by decide +kernel
def kLc49 : List (Nat × Instr × Nat) := [(1475, .aload_n 1, 1), (1476, .aload_n 0, 1), (1477, .iload_n 3, 1), (1478, .iconst 1, 1), (1479, .iadd, 1), (1480, .iaload, 1), (1481, .invokevirtual 213, 3), (1484, .aload_n 2, 1), (1485, .aload_n 0, 1), (1486, .iload_n 3, 1), (1487, .iconst 1, 1), (1488, .iadd, 1), (1489, .iaload, 1), (1490, .invokevirtual 216, 3), (1493, .if_icmp .eq 627, 3), (1496, .iconst 0, 1), (1497, .ireturn, 1)]
theorem qkLc49 : ∀ q ∈ kLc49, decode code q.1 = .ok (q.2.1, q.2.2) ∧ am_iok 4 q.1 q.2.1 q.2.2 = true := by decide +kernel
def kLc50 : List (Nat × Instr × Nat) := [(1498, .aload_n 1, 1), (1499, .aload_n 0, 1), (1500, .iload_n 3, 1), (1501, .iconst 1, 1), (1502, .iadd, 1), (1503, .iaload, 1), (1504, .aload_n 0, 1), (1505, .iload_n 3, 1), (1506, .iconst 2, 1), (1507, .iadd, 1), (1508, .iaload, 1), (1509, .invokevirtual 217, 3), (1512, .aload_n 2, 1), (1513, .aload_n 0, 1), (1514, .iload_n 3, 1), (1515, .iconst 1, 1), (1516, .iadd, 1), (1517, .iaload, 1), (1518, .aload_n 0, 1), (1519, .iload_n 3, 1), (1520, .iconst 2, 1), (1521, .iadd, 1), (1522, .iaload, 1), (1523, .invokevirtual 220, 3), (1526, .if_icmp .eq 594, 3), (1529, .iconst 0, 1), (1530, .ireturn, 1)]
theorem qkLc50 : ∀ q ∈ kLc50, decode code q.1 = .ok (q.2.1, q.2.2) ∧ am_iok 4 q.1 q.2.1 q.2.2 = true := by decide +kernel
def kLc51 : List (Nat × Instr × Nat) := [(1531, .aload_n 1, 1), (1532, .aload_n 0, 1), (1533, .iload_n 3, 1), (1534, .iconst 1, 1), (1535, .iadd, 1), (1536, .iaload, 1), (1537, .invokevirtual 221, 3), (1540, .aload_n 2, 1), (1541, .aload_n 0, 1), (1542, .iload_n 3, 1), (1543, .iconst 1, 1), (1544, .iadd, 1), (1545, .iaload, 1), (1546, .invokevirtual 224, 3), (1549, .if_icmp .eq 571, 3), (1552, .iconst 0, 1), (1553, .ireturn, 1)]
theorem qkLc51 : ∀ q ∈ kLc51, decode code q.1 = .ok (q.2.1, q.2.2) ∧ am_iok 4 q.1 q.2.1 q.2.2 = true := by decide +kernel
def kLc52 : List (Nat × Instr × Nat) := [(1554, .aload_n 1, 1), (1555, .aload_n 0, 1), (1556, .iload_n 3, 1), (1557, .iconst 1, 1), (1558, .iadd, 1), (1559, .iaload, 1), (1560, .aload_n 0, 1), (1561, .iload_n 3, 1), (1562, .iconst 2, 1), (1563, .iadd, 1), (1564, .iaload, 1), (1565, .aload_n 0, 1), (1566, .iload_n 3, 1), (1567, .iconst 3, 1), (1568, .iadd, 1), (1569, .iaload, 1), (1570, .invokevirtual 225, 3), (1573, .aload_n 2, 1), (1574, .aload_n 0, 1), (1575, .iload_n 3, 1), (1576, .iconst 1, 1), (1577, .iadd, 1), (1578, .iaload, 1), (1579, .aload_n 0, 1), (1580, .iload_n 3, 1), (1581, .iconst 2, 1), (1582, .iadd, 1), (1583, .iaload, 1), (1584, .aload_n 0, 1), (1585, .iload_n 3, 1), (1586, .iconst 3, 1), (1587, .iadd, 1), (1588, .iaload, 1), (1589, .invokevirtual 229, 3), (1592, .lcmp, 1), (1593, .ifCond .eq 527, 3), (1596, .iconst 0, 1), (1597, .ireturn, 1)]
theorem qkLc52 : ∀ q ∈ kLc52, decode code q.1 = .ok (q.2.1, q.2.2) ∧ am_iok 4 q.1 q.2.1 q.2.2 = true := by decide +kernel
def kLc53 : List (Nat × Instr × Nat) := [(1598, .aload_n 1, 1), (1599, .aload_n 0, 1), (1600, .iload_n 3, 1), (1601, .iconst 1, 1), (1602, .iadd, 1), (1603, .iaload, 1), (1604, .aload_n 0, 1), (1605, .iload_n 3, 1), (1606, .iconst 2, 1), (1607, .iadd, 1), (1608, .iaload, 1), (1609, .invokevirtual 230, 3), (1612, .aload_n 2, 1), (1613, .aload_n 0, 1), (1614, .iload_n 3, 1), (1615, .iconst 1, 1), (1616, .iadd, 1), (1617, .iaload, 1), (1618, .aload_n 0, 1), (1619, .iload_n 3, 1), (1620, .iconst 2, 1), (1621, .iadd, 1), (1622, .iaload, 1), (1623, .invokevirtual 234, 3), (1626, .lcmp, 1), (1627, .ifCond .eq 493, 3), (1630, .iconst 0, 1), (1631, .ireturn, 1)]
theorem qkLc53 : ∀ q ∈ kLc53, decode code q.1 = .ok (q.2.1, q.2.2) ∧ am_iok 4 q.1 q.2.1 q.2.2 = true := by decide +kernel
def kLc54 : List (Nat × Instr × Nat) := [(1632, .aload_n 1, 1), (1633, .aload_n 0, 1), (1634, .iload_n 3, 1), (1635, .iconst 1, 1), (1636, .iadd, 1), (1637, .iaload, 1), (1638, .aload_n 0, 1), (1639, .iload_n 3, 1), (1640, .iconst 2, 1), (1641, .iadd, 1), (1642, .iaload, 1), (1643, .invokevirtual 235, 3), (1646, .aload_n 2, 1), (1647, .aload_n 0, 1), (1648, .iload_n 3, 1), (1649, .iconst 1, 1), (1650, .iadd, 1), (1651, .iaload, 1), (1652, .aload_n 0, 1), (1653, .iload_n 3, 1), (1654, .iconst 2, 1), (1655, .iadd, 1), (1656, .iaload, 1), (1657, .invokevirtual 238, 3), (1660, .if_icmp .eq 460, 3), (1663, .iconst 0, 1), (1664, .ireturn, 1)]
theorem qkLc54 : ∀ q ∈ kLc54, decode code q.1 = .ok (q.2.1, q.2.2) ∧ am_iok 4 q.1 q.2.1 q.2.2 = true := by decide +kernel
def kLc55 : List (Nat × Instr × Nat) := [(1665, .aload_n 1, 1), (1666, .aload_n 0, 1), (1667, .iload_n 3, 1), (1668, .iconst 1, 1), (1669, .iadd, 1), (1670, .iaload, 1), (1671, .aload_n 0, 1), (1672, .iload_n 3, 1), (1673, .iconst 2, 1), (1674, .iadd, 1), (1675, .iaload, 1), (1676, .invokevirtual 239, 3), (1679, .aload_n 2, 1), (1680, .aload_n 0, 1), (1681, .iload_n 3, 1), (1682, .iconst 1, 1), (1683, .iadd, 1), (1684, .iaload, 1), (1685, .aload_n 0, 1), (1686, .iload_n 3, 1), (1687, .iconst 2, 1), (1688, .iadd, 1), (1689, .iaload, 1), (1690, .invokevirtual 242, 3), (1693, .if_icmp .eq 427, 3), (1696, .iconst 0, 1), (1697, .ireturn, 1)]
theorem qkLc55 : ∀ q ∈ kLc55, decode code q.1 = .ok (q.2.1, q.2.2) ∧ am_iok 4 q.1 q.2.1 q.2.2 = true := by decide +kernel
def kLc56 : List (Nat × Instr × Nat) := [(1698, .aload_n 1, 1), (1699, .invokevirtual 243, 3), (1702, .aload_n 2, 1), (1703, .invokevirtual 246, 3), (1706, .if_icmp .eq 414, 3), (1709, .iconst 0, 1), (1710, .ireturn, 1)]
theorem qkLc56 : ∀ q ∈ kLc56, decode code q.1 = .ok (q.2.1, q.2.2) ∧ am_iok 4 q.1 q.2.1 q.2.2 = true := by decide +kernel
def kLc57 : List (Nat × Instr × Nat) := [(1711, .aload_n 1, 1), (1712, .invokevirtual 247, 3), (1715, .aload_n 2, 1), (1716, .invokevirtual 250, 3), (1719, .if_icmp .eq 401, 3), (1722, .iconst 0, 1), (1723, .ireturn, 1)]
theorem qkLc57 : ∀ q ∈ kLc57, decode code q.1 = .ok (q.2.1, q.2.2) ∧ am_iok 4 q.1 q.2.1 q.2.2 = true := by decide +kernel
def kLc58 : List (Nat × Instr × Nat) := [(1724, .aload_n 1, 1), (1725, .invokevirtual 251, 3), (1728, .aload_n 2, 1), (1729, .invokevirtual 254, 3), (1732, .if_icmp .eq 388, 3), (1735, .iconst 0, 1), (1736, .ireturn, 1)]
theorem qkLc58 : ∀ q ∈ kLc58, decode code q.1 = .ok (q.2.1, q.2.2) ∧ am_iok 4 q.1 q.2.1 q.2.2 = true := by decide +kernel
def kLc59 : List (Nat × Instr × Nat) := [(1737, .aload_n 1, 1), (1738, .invokevirtual 255, 3), (1741, .aload_n 2, 1), (1742, .invokevirtual 258, 3), (1745, .if_icmp .eq 375, 3), (1748, .iconst 0, 1), (1749, .ireturn, 1)]
theorem qkLc59 : ∀ q ∈ kLc59, decode code q.1 = .ok (q.2.1, q.2.2) ∧ am_iok 4 q.1 q.2.1 q.2.2 = true := by decide +kernel
def kLc60 : List (Nat × Instr × Nat) := [(1750, .aload_n 1, 1), (1751, .invokevirtual 259, 3), (1754, .aload_n 2, 1), (1755, .invokevirtual 262, 3), (1758, .if_icmp .eq 362, 3), (1761, .iconst 0, 1), (1762, .ireturn, 1)]
theorem qkLc60 : ∀ q ∈ kLc60, decode code q.1 = .ok (q.2.1, q.2.2) ∧ am_iok 4 q.1 q.2.1 q.2.2 = true := by decide +kernel
def kLc61 : List (Nat × Instr × Nat) := [(1763, .aload_n 1, 1), (1764, .aload_n 0, 1), (1765, .iload_n 3, 1), (1766, .iconst 1, 1), (1767, .iadd, 1), (1768, .iaload, 1), (1769, .aload_n 0, 1), (1770, .iload_n 3, 1), (1771, .iconst 2, 1), (1772, .iadd, 1), (1773, .iaload, 1), (1774, .invokevirtual 263, 3), (1777, .aload_n 2, 1), (1778, .aload_n 0, 1), (1779, .iload_n 3, 1), (1780, .iconst 1, 1), (1781, .iadd, 1), (1782, .iaload, 1), (1783, .aload_n 0, 1), (1784, .iload_n 3, 1), (1785, .iconst 2, 1), (1786, .iadd, 1), (1787, .iaload, 1), (1788, .invokevirtual 266, 3), (1791, .if_icmp .eq 329, 3), (1794, .iconst 0, 1), (1795, .ireturn, 1)]
theorem qkLc61 : ∀ q ∈ kLc61, decode code q.1 = .ok (q.2.1, q.2.2) ∧ am_iok 4 q.1 q.2.1 q.2.2 = true := by decide +kernel
def kLc62 : List (Nat × Instr × Nat) := [(1796, .aload_n 1, 1), (1797, .aload_n 0, 1), (1798, .iload_n 3, 1), (1799, .iconst 1, 1), (1800, .iadd, 1), (1801, .iaload, 1), (1802, .aload_n 0, 1), (1803, .iload_n 3, 1), (1804, .iconst 2, 1), (1805, .iadd, 1), (1806, .iaload, 1), (1807, .aload_n 0, 1), (1808, .iload_n 3, 1), (1809, .iconst 3, 1), (1810, .iadd, 1), (1811, .iaload, 1), (1812, .invokevirtual 267, 3), (1815, .aload_n 2, 1), (1816, .aload_n 0, 1), (1817, .iload_n 3, 1), (1818, .iconst 1, 1), (1819, .iadd, 1), (1820, .iaload, 1), (1821, .aload_n 0, 1), (1822, .iload_n 3, 1), (1823, .iconst 2, 1), (1824, .iadd, 1), (1825, .iaload, 1), (1826, .aload_n 0, 1), (1827, .iload_n 3, 1), (1828, .iconst 3, 1), (1829, .iadd, 1), (1830, .iaload, 1), (1831, .invokevirtual 271, 3), (1834, .if_icmp .eq 286, 3), (1837, .iconst 0, 1), (1838, .ireturn, 1)]
theorem qkLc62 : ∀ q ∈ kLc62, decode code q.1 = .ok (q.2.1, q.2.2) ∧ am_iok 4 q.1 q.2.1 q.2.2 = true := by decide +kernel
def kLc63 : List (Nat × Instr × Nat) := [(1839, .aload_n 1, 1), (1840, .aload_n 0, 1), (1841, .iload_n 3, 1), (1842, .iconst 1, 1), (1843, .iadd, 1), (1844, .iaload, 1), (1845, .aload_n 0, 1), (1846, .iload_n 3, 1), (1847, .iconst 2, 1), (1848, .iadd, 1), (1849, .iaload, 1), (1850, .invokevirtual 272, 3), (1853, .aload_n 2, 1), (1854, .aload_n 0, 1), (1855, .iload_n 3, 1), (1856, .iconst 1, 1), (1857, .iadd, 1), (1858, .iaload, 1), (1859, .aload_n 0, 1), (1860, .iload_n 3, 1), (1861, .iconst 2, 1), (1862, .iadd, 1), (1863, .iaload, 1), (1864, .invokevirtual 275, 3), (1867, .if_icmp .eq 253, 3), (1870, .iconst 0, 1), (1871, .ireturn, 1)]
theorem qkLc63 : ∀ q ∈ kLc63, decode code q.1 = .ok (q.2.1, q.2.2) ∧ am_iok 4 q.1 q.2.1 q.2.2 = true := by decide +kernel
def kLc64 : List (Nat × Instr × Nat) := [(1872, .aload_n 1, 1), (1873, .aload_n 0, 1), (1874, .iload_n 3, 1), (1875, .iconst 1, 1), (1876, .iadd, 1), (1877, .iaload, 1), (1878, .invokevirtual 276, 3), (1881, .aload_n 2, 1), (1882, .aload_n 0, 1), (1883, .iload_n 3, 1), (1884, .iconst 1, 1), (1885, .iadd, 1), (1886, .iaload, 1), (1887, .invokevirtual 279, 3), (1890, .if_icmp .eq 230, 3), (1893, .iconst 0, 1), (1894, .ireturn, 1)]
theorem qkLc64 : ∀ q ∈ kLc64, decode code q.1 = .ok (q.2.1, q.2.2) ∧ am_iok 4 q.1 q.2.1 q.2.2 = true := by decide +kernel
def kLc65 : List (Nat × Instr × Nat) := [(1895, .aload_n 1, 1), (1896, .aload_n 0, 1), (1897, .iload_n 3, 1), (1898, .iconst 1, 1), (1899, .iadd, 1), (1900, .iaload, 1), (1901, .invokevirtual 280, 3), (1904, .aload_n 2, 1), (1905, .aload_n 0, 1), (1906, .iload_n 3, 1), (1907, .iconst 1, 1), (1908, .iadd, 1), (1909, .iaload, 1), (1910, .invokevirtual 283, 3), (1913, .if_icmp .eq 207, 3), (1916, .iconst 0, 1), (1917, .ireturn, 1)]
theorem qkLc65 : ∀ q ∈ kLc65, decode code q.1 = .ok (q.2.1, q.2.2) ∧ am_iok 4 q.1 q.2.1 q.2.2 = true := by decide +kernel
def kLc66 : List (Nat × Instr × Nat) := [(1918, .aload_n 1, 1), (1919, .aload_n 0, 1), (1920, .iload_n 3, 1), (1921, .iconst 1, 1), (1922, .iadd, 1), (1923, .iaload, 1), (1924, .invokevirtual 284, 3), (1927, .aload_n 2, 1), (1928, .aload_n 0, 1), (1929, .iload_n 3, 1), (1930, .iconst 1, 1), (1931, .iadd, 1), (1932, .iaload, 1), (1933, .invokevirtual 287, 3), (1936, .if_icmp .eq 184, 3), (1939, .iconst 0, 1), (1940, .ireturn, 1)]
theorem qkLc66 : ∀ q ∈ kLc66, decode code q.1 = .ok (q.2.1, q.2.2) ∧ am_iok 4 q.1 q.2.1 q.2.2 = true := by decide +kernel
def kLc67 : List (Nat × Instr × Nat) := [(1941, .aload_n 1, 1), (1942, .aload_n 0, 1), (1943, .iload_n 3, 1), (1944, .iconst 1, 1), (1945, .iadd, 1), (1946, .iaload, 1), (1947, .aload_n 0, 1), (1948, .iload_n 3, 1), (1949, .iconst 2, 1), (1950, .iadd, 1), (1951, .iaload, 1), (1952, .aload_n 0, 1), (1953, .iload_n 3, 1), (1954, .iconst 3, 1), (1955, .iadd, 1), (1956, .iaload, 1), (1957, .invokevirtual 288, 3), (1960, .aload_n 2, 1), (1961, .aload_n 0, 1), (1962, .iload_n 3, 1), (1963, .iconst 1, 1), (1964, .iadd, 1), (1965, .iaload, 1), (1966, .aload_n 0, 1), (1967, .iload_n 3, 1), (1968, .iconst 2, 1), (1969, .iadd, 1), (1970, .iaload, 1), (1971, .aload_n 0, 1), (1972, .iload_n 3, 1), (1973, .iconst 3, 1), (1974, .iadd, 1), (1975, .iaload, 1), (1976, .invokevirtual 291, 3), (1979, .if_icmp .eq 141, 3), (1982, .iconst 0, 1), (1983, .ireturn, 1)]
theorem qkLc67 : ∀ q ∈ kLc67, decode code q.1 = .ok (q.2.1, q.2.2) ∧ am_iok 4 q.1 q.2.1 q.2.2 = true := by decide +kernel
def kLc68 : List (Nat × Instr × Nat) := [(1984, .aload_n 1, 1), (1985, .aload_n 0, 1), (1986, .iload_n 3, 1), (1987, .iconst 1, 1), (1988, .iadd, 1), (1989, .iaload, 1), (1990, .aload_n 0, 1), (1991, .iload_n 3, 1), (1992, .iconst 2, 1), (1993, .iadd, 1), (1994, .iaload, 1), (1995, .aload_n 0, 1), (1996, .iload_n 3, 1), (1997, .iconst 3, 1), (1998, .iadd, 1), (1999, .iaload, 1), (2000, .i2l, 1), (2001, .bipush 32, 2), (2003, .lshl, 1), (2004, .aload_n 0, 1), (2005, .iload_n 3, 1), (2006, .iconst 4, 1), (2007, .iadd, 1), (2008, .iaload, 1), (2009, .i2l, 1), (2010, .ldc2_w 292, 3), (2013, .land, 1), (2014, .lor, 1), (2015, .invokevirtual 294, 3), (2018, .aload_n 2, 1), (2019, .aload_n 0, 1), (2020, .iload_n 3, 1), (2021, .iconst 1, 1), (2022, .iadd, 1), (2023, .iaload, 1), (2024, .aload_n 0, 1), (2025, .iload_n 3, 1), (2026, .iconst 2, 1), (2027, .iadd, 1), (2028, .iaload, 1), (2029, .aload_n 0, 1), (2030, .iload_n 3, 1), (2031, .iconst 3, 1), (2032, .iadd, 1), (2033, .iaload, 1), (2034, .i2l, 1), (2035, .bipush 32, 2), (2037, .lshl, 1), (2038, .aload_n 0, 1), (2039, .iload_n 3, 1), (2040, .iconst 4, 1), (2041, .iadd, 1), (2042, .iaload, 1), (2043, .i2l, 1), (2044, .ldc2_w 292, 3), (2047, .land, 1), (2048, .lor, 1), (2049, .invokevirtual 298, 3), (2052, .if_icmp .eq 68, 3), (2055, .iconst 0, 1), (2056, .ireturn, 1)]
theorem qkLc68 : ∀ q ∈ kLc68, decode code q.1 = .ok (q.2.1, q.2.2) ∧ am_iok 4 q.1 q.2.1 q.2.2 = true := by decide +kernel
def kLc69 : List (Nat × Instr × Nat) := [(2057, .aload_n 1, 1), (2058, .aload_n 0, 1), (2059, .iload_n 3, 1), (2060, .iconst 1, 1), (2061, .iadd, 1), (2062, .iaload, 1), (2063, .aload_n 0, 1), (2064, .iload_n 3, 1), (2065, .iconst 2, 1), (2066, .iadd, 1), (2067, .iaload, 1), (2068, .aload_n 0, 1), (2069, .iload_n 3, 1), (2070, .iconst 3, 1), (2071, .iadd, 1), (2072, .iaload, 1), (2073, .aload_n 0, 1), (2074, .iload_n 3, 1), (2075, .iconst 4, 1), (2076, .iadd, 1), (2077, .iaload, 1), (2078, .aload_n 0, 1), (2079, .iload_n 3, 1), (2080, .iconst 5, 1), (2081, .iadd, 1), (2082, .iaload, 1), (2083, .invokevirtual 299, 3), (2086, .aload_n 2, 1), (2087, .aload_n 0, 1), (2088, .iload_n 3, 1), (2089, .iconst 1, 1), (2090, .iadd, 1), (2091, .iaload, 1), (2092, .aload_n 0, 1), (2093, .iload_n 3, 1), (2094, .iconst 2, 1), (2095, .iadd, 1), (2096, .iaload, 1), (2097, .aload_n 0, 1), (2098, .iload_n 3, 1), (2099, .iconst 3, 1), (2100, .iadd, 1), (2101, .iaload, 1), (2102, .aload_n 0, 1), (2103, .iload_n 3, 1), (2104, .iconst 4, 1), (2105, .iadd, 1), (2106, .iaload, 1), (2107, .aload_n 0, 1), (2108, .iload_n 3, 1), (2109, .iconst 5, 1), (2110, .iadd, 1), (2111, .iaload, 1), (2112, .invokevirtual 302, 3), (2115, .if_icmp .eq 5, 3), (2118, .iconst 0, 1), (2119, .ireturn, 1)]
theorem qkLc69 : ∀ q ∈ kLc69, decode code q.1 = .ok (q.2.1, q.2.2) ∧ am_iok 4 q.1 q.2.1 q.2.2 = true := by decide +kernel
def kLi : List (Nat × Instr × Nat) := [(2120, .iinc 3 6, 3), (2123, .goto (-2105), 3)]
theorem qkLi : ∀ q ∈ kLi, decode code q.1 = .ok (q.2.1, q.2.2) ∧ am_iok 4 q.1 q.2.1 q.2.2 = true := by decide +kernel
def kLe : List (Nat × Instr × Nat) := [(2126, .iconst 1, 1), (2127, .ireturn, 1)]
theorem qkLe : ∀ q ∈ kLe, decode code q.1 = .ok (q.2.1, q.2.2) ∧ am_iok 4 q.1 q.2.1 q.2.2 = true := by decide +kernel
def kLaw : List (List (Nat × Instr × Nat)) := [kLh, kLc0, kLc1, kLc2, kLc3, kLc4, kLc5, kLc6, kLc7, kLc8, kLc9, kLc10, kLc11, kLc12, kLc13, kLc14, kLc15, kLc16, kLc17, kLc18, kLc19, kLc20, kLc21, kLc22, kLc23, kLc24, kLc25, kLc26, kLc27, kLc28, kLc29, kLc30, kLc31, kLc32, kLc33, kLc34, kLc35, kLc36, kLc37, kLc38, kLc39, kLc40, kLc41, kLc42, kLc43, kLc44, kLc45, kLc46, kLc47, kLc48, kLc49, kLc50, kLc51, kLc52, kLc53, kLc54, kLc55, kLc56, kLc57, kLc58, kLc59, kLc60, kLc61, kLc62, kLc63, kLc64, kLc65, kLc66, kLc67, kLc68, kLc69, kLi, kLe]
theorem qLaw : ∀ q ∈ kLaw.flatten, decode code q.1 = .ok (q.2.1, q.2.2) ∧ am_iok 4 q.1 q.2.1 q.2.2 = true := by
  intro q hq
  obtain ⟨k, hk, hq⟩ := List.mem_flatten.mp hq
  simp only [kLaw, List.mem_cons, List.not_mem_nil, or_false] at hk
  rcases hk with rfl | rfl | rfl | rfl | rfl | rfl | rfl | rfl | rfl | rfl | rfl | rfl | rfl | rfl | rfl | rfl | rfl | rfl | rfl | rfl | rfl | rfl | rfl | rfl | rfl | rfl | rfl | rfl | rfl | rfl | rfl | rfl | rfl | rfl | rfl | rfl | rfl | rfl | rfl | rfl | rfl | rfl | rfl | rfl | rfl | rfl | rfl | rfl | rfl | rfl | rfl | rfl | rfl | rfl | rfl | rfl | rfl | rfl | rfl | rfl | rfl | rfl | rfl | rfl | rfl | rfl | rfl | rfl | rfl | rfl | rfl | rfl | rfl
  · exact qkLh q hq
  · exact qkLc0 q hq
  · exact qkLc1 q hq
  · exact qkLc2 q hq
  · exact qkLc3 q hq
  · exact qkLc4 q hq
  · exact qkLc5 q hq
  · exact qkLc6 q hq
  · exact qkLc7 q hq
  · exact qkLc8 q hq
  · exact qkLc9 q hq
  · exact qkLc10 q hq
  · exact qkLc11 q hq
  · exact qkLc12 q hq
  · exact qkLc13 q hq
  · exact qkLc14 q hq
  · exact qkLc15 q hq
  · exact qkLc16 q hq
  · exact qkLc17 q hq
  · exact qkLc18 q hq
  · exact qkLc19 q hq
  · exact qkLc20 q hq
  · exact qkLc21 q hq
  · exact qkLc22 q hq
  · exact qkLc23 q hq
  · exact qkLc24 q hq
  · exact qkLc25 q hq
  · exact qkLc26 q hq
  · exact qkLc27 q hq
  · exact qkLc28 q hq
  · exact qkLc29 q hq
  · exact qkLc30 q hq
  · exact qkLc31 q hq
  · exact qkLc32 q hq
  · exact qkLc33 q hq
  · exact qkLc34 q hq
  · exact qkLc35 q hq
  · exact qkLc36 q hq
  · exact qkLc37 q hq
  · exact qkLc38 q hq
  · exact qkLc39 q hq
  · exact qkLc40 q hq
  · exact qkLc41 q hq
  · exact qkLc42 q hq
  · exact qkLc43 q hq
  · exact qkLc44 q hq
  · exact qkLc45 q hq
  · exact qkLc46 q hq
  · exact qkLc47 q hq
  · exact qkLc48 q hq
  · exact qkLc49 q hq
  · exact qkLc50 q hq
  · exact qkLc51 q hq
  · exact qkLc52 q hq
  · exact qkLc53 q hq
  · exact qkLc54 q hq
  · exact qkLc55 q hq
  · exact qkLc56 q hq
  · exact qkLc57 q hq
  · exact qkLc58 q hq
  · exact qkLc59 q hq
  · exact qkLc60 q hq
  · exact qkLc61 q hq
  · exact qkLc62 q hq
  · exact qkLc63 q hq
  · exact qkLc64 q hq
  · exact qkLc65 q hq
  · exact qkLc66 q hq
  · exact qkLc67 q hq
  · exact qkLc68 q hq
  · exact qkLc69 q hq
  · exact qkLi q hq
  · exact qkLe q hq
theorem ikLh : ∀ q ∈ kLh, q ∈ kLaw.flatten := fun q hq => List.mem_flatten.mpr ⟨_, List.mem_of_getElem? (i := 0) rfl, hq⟩
theorem ikLc0 : ∀ q ∈ kLc0, q ∈ kLaw.flatten := fun q hq => List.mem_flatten.mpr ⟨_, List.mem_of_getElem? (i := 1) rfl, hq⟩
theorem ikLc1 : ∀ q ∈ kLc1, q ∈ kLaw.flatten := fun q hq => List.mem_flatten.mpr ⟨_, List.mem_of_getElem? (i := 2) rfl, hq⟩
theorem ikLc2 : ∀ q ∈ kLc2, q ∈ kLaw.flatten := fun q hq => List.mem_flatten.mpr ⟨_, List.mem_of_getElem? (i := 3) rfl, hq⟩
theorem ikLc3 : ∀ q ∈ kLc3, q ∈ kLaw.flatten := fun q hq => List.mem_flatten.mpr ⟨_, List.mem_of_getElem? (i := 4) rfl, hq⟩
theorem ikLc4 : ∀ q ∈ kLc4, q ∈ kLaw.flatten := fun q hq => List.mem_flatten.mpr ⟨_, List.mem_of_getElem? (i := 5) rfl, hq⟩
theorem ikLc5 : ∀ q ∈ kLc5, q ∈ kLaw.flatten := fun q hq => List.mem_flatten.mpr ⟨_, List.mem_of_getElem? (i := 6) rfl, hq⟩
theorem ikLc6 : ∀ q ∈ kLc6, q ∈ kLaw.flatten := fun q hq => List.mem_flatten.mpr ⟨_, List.mem_of_getElem? (i := 7) rfl, hq⟩
theorem ikLc7 : ∀ q ∈ kLc7, q ∈ kLaw.flatten := fun q hq => List.mem_flatten.mpr ⟨_, List.mem_of_getElem? (i := 8) rfl, hq⟩
theorem ikLc8 : ∀ q ∈ kLc8, q ∈ kLaw.flatten := fun q hq => List.mem_flatten.mpr ⟨_, List.mem_of_getElem? (i := 9) rfl, hq⟩
theorem ikLc9 : ∀ q ∈ kLc9, q ∈ kLaw.flatten := fun q hq => List.mem_flatten.mpr ⟨_, List.mem_of_getElem? (i := 10) rfl, hq⟩
theorem ikLc10 : ∀ q ∈ kLc10, q ∈ kLaw.flatten := fun q hq => List.mem_flatten.mpr ⟨_, List.mem_of_getElem? (i := 11) rfl, hq⟩
theorem ikLc11 : ∀ q ∈ kLc11, q ∈ kLaw.flatten := fun q hq => List.mem_flatten.mpr ⟨_, List.mem_of_getElem? (i := 12) rfl, hq⟩
theorem ikLc12 : ∀ q ∈ kLc12, q ∈ kLaw.flatten := fun q hq => List.mem_flatten.mpr ⟨_, List.mem_of_getElem? (i := 13) rfl, hq⟩
theorem ikLc13 : ∀ q ∈ kLc13, q ∈ kLaw.flatten := fun q hq => List.mem_flatten.mpr ⟨_, List.mem_of_getElem? (i := 14) rfl, hq⟩
theorem ikLc14 : ∀ q ∈ kLc14, q ∈ kLaw.flatten := fun q hq => List.mem_flatten.mpr ⟨_, List.mem_of_getElem? (i := 15) rfl, hq⟩
theorem ikLc15 : ∀ q ∈ kLc15, q ∈ kLaw.flatten := fun q hq => List.mem_flatten.mpr ⟨_, List.mem_of_getElem? (i := 16) rfl, hq⟩
theorem ikLc16 : ∀ q ∈ kLc16, q ∈ kLaw.flatten := fun q hq => List.mem_flatten.mpr ⟨_, List.mem_of_getElem? (i := 17) rfl, hq⟩
theorem ikLc17 : ∀ q ∈ kLc17, q ∈ kLaw.flatten := fun q hq => List.mem_flatten.mpr ⟨_, List.mem_of_getElem? (i := 18) rfl, hq⟩
theorem ikLc18 : ∀ q ∈ kLc18, q ∈ kLaw.flatten := fun q hq => List.mem_flatten.mpr ⟨_, List.mem_of_getElem? (i := 19) rfl, hq⟩
theorem ikLc19 : ∀ q ∈ kLc19, q ∈ kLaw.flatten := fun q hq => List.mem_flatten.mpr ⟨_, List.mem_of_getElem? (i := 20) rfl, hq⟩
theorem ikLc20 : ∀ q ∈ kLc20, q ∈ kLaw.flatten := fun q hq => List.mem_flatten.mpr ⟨_, List.mem_of_getElem? (i := 21) rfl, hq⟩
theorem ikLc21 : ∀ q ∈ kLc21, q ∈ kLaw.flatten := fun q hq => List.mem_flatten.mpr ⟨_, List.mem_of_getElem? (i := 22) rfl, hq⟩
theorem ikLc22 : ∀ q ∈ kLc22, q ∈ kLaw.flatten := fun q hq => List.mem_flatten.mpr ⟨_, List.mem_of_getElem? (i := 23) rfl, hq⟩
theorem ikLc23 : ∀ q ∈ kLc23, q ∈ kLaw.flatten := fun q hq => List.mem_flatten.mpr ⟨_, List.mem_of_getElem? (i := 24) rfl, hq⟩
theorem ikLc24 : ∀ q ∈ kLc24, q ∈ kLaw.flatten := fun q hq => List.mem_flatten.mpr ⟨_, List.mem_of_getElem? (i := 25) rfl, hq⟩
theorem ikLc25 : ∀ q ∈ kLc25, q ∈ kLaw.flatten := fun q hq => List.mem_flatten.mpr ⟨_, List.mem_of_getElem? (i := 26) rfl, hq⟩
theorem ikLc26 : ∀ q ∈ kLc26, q ∈ kLaw.flatten := fun q hq => List.mem_flatten.mpr ⟨_, List.mem_of_getElem? (i := 27) rfl, hq⟩
theorem ikLc27 : ∀ q ∈ kLc27, q ∈ kLaw.flatten := fun q hq => List.mem_flatten.mpr ⟨_, List.mem_of_getElem? (i := 28) rfl, hq⟩
theorem ikLc28 : ∀ q ∈ kLc28, q ∈ kLaw.flatten := fun q hq => List.mem_flatten.mpr ⟨_, List.mem_of_getElem? (i := 29) rfl, hq⟩
theorem ikLc29 : ∀ q ∈ kLc29, q ∈ kLaw.flatten := fun q hq => List.mem_flatten.mpr ⟨_, List.mem_of_getElem? (i := 30) rfl, hq⟩
theorem ikLc30 : ∀ q ∈ kLc30, q ∈ kLaw.flatten := fun q hq => List.mem_flatten.mpr ⟨_, List.mem_of_getElem? (i := 31) rfl, hq⟩
theorem ikLc31 : ∀ q ∈ kLc31, q ∈ kLaw.flatten := fun q hq => List.mem_flatten.mpr ⟨_, List.mem_of_getElem? (i := 32) rfl, hq⟩
theorem ikLc32 : ∀ q ∈ kLc32, q ∈ kLaw.flatten := fun q hq => List.mem_flatten.mpr ⟨_, List.mem_of_getElem? (i := 33) rfl, hq⟩
theorem ikLc33 : ∀ q ∈ kLc33, q ∈ kLaw.flatten := fun q hq => List.mem_flatten.mpr ⟨_, List.mem_of_getElem? (i := 34) rfl, hq⟩
theorem ikLc34 : ∀ q ∈ kLc34, q ∈ kLaw.flatten := fun q hq => List.mem_flatten.mpr ⟨_, List.mem_of_getElem? (i := 35) rfl, hq⟩
theorem ikLc35 : ∀ q ∈ kLc35, q ∈ kLaw.flatten := fun q hq => List.mem_flatten.mpr ⟨_, List.mem_of_getElem? (i := 36) rfl, hq⟩
theorem ikLc36 : ∀ q ∈ kLc36, q ∈ kLaw.flatten := fun q hq => List.mem_flatten.mpr ⟨_, List.mem_of_getElem? (i := 37) rfl, hq⟩
theorem ikLc37 : ∀ q ∈ kLc37, q ∈ kLaw.flatten := fun q hq => List.mem_flatten.mpr ⟨_, List.mem_of_getElem? (i := 38) rfl, hq⟩
theorem ikLc38 : ∀ q ∈ kLc38, q ∈ kLaw.flatten := fun q hq => List.mem_flatten.mpr ⟨_, List.mem_of_getElem? (i := 39) rfl, hq⟩
theorem ikLc39 : ∀ q ∈ kLc39, q ∈ kLaw.flatten := fun q hq => List.mem_flatten.mpr ⟨_, List.mem_of_getElem? (i := 40) rfl, hq⟩
theorem ikLc40 : ∀ q ∈ kLc40, q ∈ kLaw.flatten := fun q hq => List.mem_flatten.mpr ⟨_, List.mem_of_getElem? (i := 41) rfl, hq⟩
theorem ikLc41 : ∀ q ∈ kLc41, q ∈ kLaw.flatten := fun q hq => List.mem_flatten.mpr ⟨_, List.mem_of_getElem? (i := 42) rfl, hq⟩
theorem ikLc42 : ∀ q ∈ kLc42, q ∈ kLaw.flatten := fun q hq => List.mem_flatten.mpr ⟨_, List.mem_of_getElem? (i := 43) rfl, hq⟩
theorem ikLc43 : ∀ q ∈ kLc43, q ∈ kLaw.flatten := fun q hq => List.mem_flatten.mpr ⟨_, List.mem_of_getElem? (i := 44) rfl, hq⟩
theorem ikLc44 : ∀ q ∈ kLc44, q ∈ kLaw.flatten := fun q hq => List.mem_flatten.mpr ⟨_, List.mem_of_getElem? (i := 45) rfl, hq⟩
theorem ikLc45 : ∀ q ∈ kLc45, q ∈ kLaw.flatten := fun q hq => List.mem_flatten.mpr ⟨_, List.mem_of_getElem? (i := 46) rfl, hq⟩
theorem ikLc46 : ∀ q ∈ kLc46, q ∈ kLaw.flatten := fun q hq => List.mem_flatten.mpr ⟨_, List.mem_of_getElem? (i := 47) rfl, hq⟩
theorem ikLc47 : ∀ q ∈ kLc47, q ∈ kLaw.flatten := fun q hq => List.mem_flatten.mpr ⟨_, List.mem_of_getElem? (i := 48) rfl, hq⟩
theorem ikLc48 : ∀ q ∈ kLc48, q ∈ kLaw.flatten := fun q hq => List.mem_flatten.mpr ⟨_, List.mem_of_getElem? (i := 49) rfl, hq⟩
theorem ikLc49 : ∀ q ∈ kLc49, q ∈ kLaw.flatten := fun q hq => List.mem_flatten.mpr ⟨_, List.mem_of_getElem? (i := 50) rfl, hq⟩
theorem ikLc50 : ∀ q ∈ kLc50, q ∈ kLaw.flatten := fun q hq => List.mem_flatten.mpr ⟨_, List.mem_of_getElem? (i := 51) rfl, hq⟩
theorem ikLc51 : ∀ q ∈ kLc51, q ∈ kLaw.flatten := fun q hq => List.mem_flatten.mpr ⟨_, List.mem_of_getElem? (i := 52) rfl, hq⟩
theorem ikLc52 : ∀ q ∈ kLc52, q ∈ kLaw.flatten := fun q hq => List.mem_flatten.mpr ⟨_, List.mem_of_getElem? (i := 53) rfl, hq⟩
theorem ikLc53 : ∀ q ∈ kLc53, q ∈ kLaw.flatten := fun q hq => List.mem_flatten.mpr ⟨_, List.mem_of_getElem? (i := 54) rfl, hq⟩
theorem ikLc54 : ∀ q ∈ kLc54, q ∈ kLaw.flatten := fun q hq => List.mem_flatten.mpr ⟨_, List.mem_of_getElem? (i := 55) rfl, hq⟩
theorem ikLc55 : ∀ q ∈ kLc55, q ∈ kLaw.flatten := fun q hq => List.mem_flatten.mpr ⟨_, List.mem_of_getElem? (i := 56) rfl, hq⟩
theorem ikLc56 : ∀ q ∈ kLc56, q ∈ kLaw.flatten := fun q hq => List.mem_flatten.mpr ⟨_, List.mem_of_getElem? (i := 57) rfl, hq⟩
theorem ikLc57 : ∀ q ∈ kLc57, q ∈ kLaw.flatten := fun q hq => List.mem_flatten.mpr ⟨_, List.mem_of_getElem? (i := 58) rfl, hq⟩
theorem ikLc58 : ∀ q ∈ kLc58, q ∈ kLaw.flatten := fun q hq => List.mem_flatten.mpr ⟨_, List.mem_of_getElem? (i := 59) rfl, hq⟩
theorem ikLc59 : ∀ q ∈ kLc59, q ∈ kLaw.flatten := fun q hq => List.mem_flatten.mpr ⟨_, List.mem_of_getElem? (i := 60) rfl, hq⟩
theorem ikLc60 : ∀ q ∈ kLc60, q ∈ kLaw.flatten := fun q hq => List.mem_flatten.mpr ⟨_, List.mem_of_getElem? (i := 61) rfl, hq⟩
theorem ikLc61 : ∀ q ∈ kLc61, q ∈ kLaw.flatten := fun q hq => List.mem_flatten.mpr ⟨_, List.mem_of_getElem? (i := 62) rfl, hq⟩
theorem ikLc62 : ∀ q ∈ kLc62, q ∈ kLaw.flatten := fun q hq => List.mem_flatten.mpr ⟨_, List.mem_of_getElem? (i := 63) rfl, hq⟩
theorem ikLc63 : ∀ q ∈ kLc63, q ∈ kLaw.flatten := fun q hq => List.mem_flatten.mpr ⟨_, List.mem_of_getElem? (i := 64) rfl, hq⟩
theorem ikLc64 : ∀ q ∈ kLc64, q ∈ kLaw.flatten := fun q hq => List.mem_flatten.mpr ⟨_, List.mem_of_getElem? (i := 65) rfl, hq⟩
theorem ikLc65 : ∀ q ∈ kLc65, q ∈ kLaw.flatten := fun q hq => List.mem_flatten.mpr ⟨_, List.mem_of_getElem? (i := 66) rfl, hq⟩
theorem ikLc66 : ∀ q ∈ kLc66, q ∈ kLaw.flatten := fun q hq => List.mem_flatten.mpr ⟨_, List.mem_of_getElem? (i := 67) rfl, hq⟩
theorem ikLc67 : ∀ q ∈ kLc67, q ∈ kLaw.flatten := fun q hq => List.mem_flatten.mpr ⟨_, List.mem_of_getElem? (i := 68) rfl, hq⟩
theorem ikLc68 : ∀ q ∈ kLc68, q ∈ kLaw.flatten := fun q hq => List.mem_flatten.mpr ⟨_, List.mem_of_getElem? (i := 69) rfl, hq⟩
theorem ikLc69 : ∀ q ∈ kLc69, q ∈ kLaw.flatten := fun q hq => List.mem_flatten.mpr ⟨_, List.mem_of_getElem? (i := 70) rfl, hq⟩
theorem ikLi : ∀ q ∈ kLi, q ∈ kLaw.flatten := fun q hq => List.mem_flatten.mpr ⟨_, List.mem_of_getElem? (i := 71) rfl, hq⟩
theorem ikLe : ∀ q ∈ kLe, q ∈ kLaw.flatten := fun q hq => List.mem_flatten.mpr ⟨_, List.mem_of_getElem? (i := 72) rfl, hq⟩
def fLc0 (xs : Nat → Int32) (L : Nat) (J : AS → Option (AS × Int32)) (s0 : AS) (x3 : Int32) : Option (AS × Int32) :=
  am_g (¬ ((x3 + (1 : Int32)) < 0 ∨ L ≤ (x3 + (1 : Int32)).toNatClampNeg)) (am_g (¬ ((x3 + (2 : Int32)) < 0 ∨ L ≤ (x3 + (2 : Int32)).toNatClampNeg)) (am_g (¬ ((x3 + (3 : Int32)) < 0 ∨ L ≤ (x3 + (3 : Int32)).toNatClampNeg)) (am_g (¬ ((x3 + (4 : Int32)) < 0 ∨ L ≤ (x3 + (4 : Int32)).toNatClampNeg)) (am_g (¬ ((x3 + (5 : Int32)) < 0 ∨ L ≤ (x3 + (5 : Int32)).toNatClampNeg)) (am_c (fX8_feed s0 (xs ((x3 + (1 : Int32)).toNatClampNeg)) (xs ((x3 + (2 : Int32)).toNatClampNeg)) (xs ((x3 + (3 : Int32)).toNatClampNeg)) (xs ((x3 + (4 : Int32)).toNatClampNeg)) (xs ((x3 + (5 : Int32)).toNatClampNeg))) (fun (s7 : AS) (v6 : Int32) => am_g (¬ ((x3 + (1 : Int32)) < 0 ∨ L ≤ (x3 + (1 : Int32)).toNatClampNeg)) (am_g (¬ ((x3 + (2 : Int32)) < 0 ∨ L ≤ (x3 + (2 : Int32)).toNatClampNeg)) (am_g (¬ ((x3 + (3 : Int32)) < 0 ∨ L ≤ (x3 + (3 : Int32)).toNatClampNeg)) (am_g (¬ ((x3 + (4 : Int32)) < 0 ∨ L ≤ (x3 + (4 : Int32)).toNatClampNeg)) (am_g (¬ ((x3 + (5 : Int32)) < 0 ∨ L ≤ (x3 + (5 : Int32)).toNatClampNeg)) (am_c (fX9_feed s7 (xs ((x3 + (1 : Int32)).toNatClampNeg)) (xs ((x3 + (2 : Int32)).toNatClampNeg)) (xs ((x3 + (3 : Int32)).toNatClampNeg)) (xs ((x3 + (4 : Int32)).toNatClampNeg)) (xs ((x3 + (5 : Int32)).toNatClampNeg))) (fun (s14 : AS) (v13 : Int32) => if v6 = v13 then (J s14) else (some (s14, (0 : Int32)))))))))))))))
set_option maxHeartbeats 4000000 in
set_option maxRecDepth 100000 in
theorem tLc0 {l : Launch} {d : Nat} {xs : Nat → Int32} {L : Nat} {X : Nat → AL → List AV → AS → Prop} (hX : am_cloL kLaw.flatten xs L (am_Ct l (d + 199)) X) {J : AS → Option (AS × Int32)} {sE : AS} {x3 : Int32} (hJ : ∀ s, J s = some (sE, 1) → X 2120 [(0, .inr (.inr ((28, 0, 0), 237))), (1, .inr (.inr ((9, 0, 0), 0))), (2, .inr (.inr ((10, 0, 0), 215))), (3, .inl x3)] [] s) (s0 : AS) (hf : fLc0 xs L J s0 x3 = some (sE, 1)) : X 328 [(0, .inr (.inr ((28, 0, 0), 237))), (1, .inr (.inr ((9, 0, 0), 0))), (2, .inr (.inr ((10, 0, 0), 215))), (3, .inl x3)] [] s0 := by
  unfold fLc0 at hf
  obtain ⟨g1, hf⟩ := am_g_of hf
  obtain ⟨g2, hf⟩ := am_g_of hf
  obtain ⟨g3, hf⟩ := am_g_of hf
  obtain ⟨g4, hf⟩ := am_g_of hf
  obtain ⟨g5, hf⟩ := am_g_of hf
  obtain ⟨s7, v6, hcv6, hf⟩ := am_c_of hf
  obtain ⟨g8, hf⟩ := am_g_of hf
  obtain ⟨g9, hf⟩ := am_g_of hf
  obtain ⟨g10, hf⟩ := am_g_of hf
  obtain ⟨g11, hf⟩ := am_g_of hf
  obtain ⟨g12, hf⟩ := am_g_of hf
  obtain ⟨s14, v13, hcv13, hf⟩ := am_c_of hf
  refine am_blkL hX ikLc0 0 55 (And.intro rfl (And.intro rfl (And.intro g1 (And.intro rfl (And.intro rfl (And.intro g2 (And.intro rfl (And.intro rfl (And.intro g3 (And.intro rfl (And.intro rfl (And.intro g4 (And.intro rfl (And.intro rfl (And.intro g5 (And.intro rfl (And.intro rfl (Exists.intro s7 (Exists.intro (some (.inl v6)) (And.intro (tX8_feed l (d + 197) hcv6) (And.intro rfl (And.intro rfl (And.intro g8 (And.intro rfl (And.intro rfl (And.intro g9 (And.intro rfl (And.intro rfl (And.intro g10 (And.intro rfl (And.intro rfl (And.intro g11 (And.intro rfl (And.intro rfl (And.intro g12 (And.intro rfl (And.intro rfl (Exists.intro s14 (Exists.intro (some (.inl v13)) (And.intro (tX9_feed l (d + 197) hcv13) (And.intro (fun hb => ?_) (fun hb => ?_))))))))))))))))))))))))))))))))))))))))))
  · have hf := am_it hf hb
    show X 2120 [(0, .inr (.inr ((28, 0, 0), 237))), (1, .inr (.inr ((9, 0, 0), 0))), (2, .inr (.inr ((10, 0, 0), 215))), (3, .inl x3)] [] s14
    exact am_wkL hX [0, 1, 2, 3] (hJ s14 hf)
  · have hf := am_if hf hb
    show X 389 [(0, .inr (.inr ((28, 0, 0), 237))), (1, .inr (.inr ((9, 0, 0), 0))), (2, .inr (.inr ((10, 0, 0), 215))), (3, .inl x3)] [] s14
    exact am_l0 hf
def fLc1 (xs : Nat → Int32) (L : Nat) (J : AS → Option (AS × Int32)) (s0 : AS) (x3 : Int32) : Option (AS × Int32) :=
  am_g (¬ ((x3 + (1 : Int32)) < 0 ∨ L ≤ (x3 + (1 : Int32)).toNatClampNeg)) (am_c (fX8_end s0 (xs ((x3 + (1 : Int32)).toNatClampNeg))) (fun (s3 : AS) (v2 : Int32) => am_g (¬ ((x3 + (1 : Int32)) < 0 ∨ L ≤ (x3 + (1 : Int32)).toNatClampNeg)) (am_c (fX9_end s3 (xs ((x3 + (1 : Int32)).toNatClampNeg))) (fun (s6 : AS) (v5 : Int32) => if v2 = v5 then (J s6) else (some (s6, (0 : Int32)))))))
set_option maxHeartbeats 4000000 in
set_option maxRecDepth 100000 in
theorem tLc1 {l : Launch} {d : Nat} {xs : Nat → Int32} {L : Nat} {X : Nat → AL → List AV → AS → Prop} (hX : am_cloL kLaw.flatten xs L (am_Ct l (d + 199)) X) {J : AS → Option (AS × Int32)} {sE : AS} {x3 : Int32} (hJ : ∀ s, J s = some (sE, 1) → X 2120 [(0, .inr (.inr ((28, 0, 0), 237))), (1, .inr (.inr ((9, 0, 0), 0))), (2, .inr (.inr ((10, 0, 0), 215))), (3, .inl x3)] [] s) (s0 : AS) (hf : fLc1 xs L J s0 x3 = some (sE, 1)) : X 391 [(0, .inr (.inr ((28, 0, 0), 237))), (1, .inr (.inr ((9, 0, 0), 0))), (2, .inr (.inr ((10, 0, 0), 215))), (3, .inl x3)] [] s0 := by
  unfold fLc1 at hf
  obtain ⟨g1, hf⟩ := am_g_of hf
  obtain ⟨s3, v2, hcv2, hf⟩ := am_c_of hf
  obtain ⟨g4, hf⟩ := am_g_of hf
  obtain ⟨s6, v5, hcv5, hf⟩ := am_c_of hf
  refine am_blkL hX ikLc1 0 15 (And.intro rfl (And.intro rfl (And.intro g1 (And.intro rfl (And.intro rfl (Exists.intro s3 (Exists.intro (some (.inl v2)) (And.intro (tX8_end l (d + 198) hcv2) (And.intro rfl (And.intro rfl (And.intro g4 (And.intro rfl (And.intro rfl (Exists.intro s6 (Exists.intro (some (.inl v5)) (And.intro (tX9_end l (d + 197) hcv5) (And.intro (fun hb => ?_) (fun hb => ?_))))))))))))))))))
  · have hf := am_it hf hb
    show X 2120 [(0, .inr (.inr ((28, 0, 0), 237))), (1, .inr (.inr ((9, 0, 0), 0))), (2, .inr (.inr ((10, 0, 0), 215))), (3, .inl x3)] [] s6
    exact am_wkL hX [0, 1, 2, 3] (hJ s6 hf)
  · have hf := am_if hf hb
    show X 412 [(0, .inr (.inr ((28, 0, 0), 237))), (1, .inr (.inr ((9, 0, 0), 0))), (2, .inr (.inr ((10, 0, 0), 215))), (3, .inl x3)] [] s6
    exact am_l0 hf
def fLc2 (xs : Nat → Int32) (L : Nat) (J : AS → Option (AS × Int32)) (s0 : AS) (x3 : Int32) : Option (AS × Int32) :=
  am_c (fX8_march s0) (fun (s2 : AS) (v1 : Int32) => am_c (fX9_march s2) (fun (s4 : AS) (v3 : Int32) => if v1 = v3 then (J s4) else (some (s4, (0 : Int32)))))
set_option maxHeartbeats 4000000 in
set_option maxRecDepth 100000 in
theorem tLc2 {l : Launch} {d : Nat} {xs : Nat → Int32} {L : Nat} {X : Nat → AL → List AV → AS → Prop} (hX : am_cloL kLaw.flatten xs L (am_Ct l (d + 199)) X) {J : AS → Option (AS × Int32)} {sE : AS} {x3 : Int32} (hJ : ∀ s, J s = some (sE, 1) → X 2120 [(0, .inr (.inr ((28, 0, 0), 237))), (1, .inr (.inr ((9, 0, 0), 0))), (2, .inr (.inr ((10, 0, 0), 215))), (3, .inl x3)] [] s) (s0 : AS) (hf : fLc2 xs L J s0 x3 = some (sE, 1)) : X 414 [(0, .inr (.inr ((28, 0, 0), 237))), (1, .inr (.inr ((9, 0, 0), 0))), (2, .inr (.inr ((10, 0, 0), 215))), (3, .inl x3)] [] s0 := by
  unfold fLc2 at hf
  obtain ⟨s2, v1, hcv1, hf⟩ := am_c_of hf
  obtain ⟨s4, v3, hcv3, hf⟩ := am_c_of hf
  refine am_blkL hX ikLc2 0 5 (And.intro rfl (And.intro rfl (Exists.intro s2 (Exists.intro (some (.inl v1)) (And.intro (tX8_march l (d + 187) hcv1) (And.intro rfl (And.intro rfl (Exists.intro s4 (Exists.intro (some (.inl v3)) (And.intro (tX9_march l (d + 191) hcv3) (And.intro (fun hb => ?_) (fun hb => ?_))))))))))))
  · have hf := am_it hf hb
    show X 2120 [(0, .inr (.inr ((28, 0, 0), 237))), (1, .inr (.inr ((9, 0, 0), 0))), (2, .inr (.inr ((10, 0, 0), 215))), (3, .inl x3)] [] s4
    exact am_wkL hX [0, 1, 2, 3] (hJ s4 hf)
  · have hf := am_if hf hb
    show X 425 [(0, .inr (.inr ((28, 0, 0), 237))), (1, .inr (.inr ((9, 0, 0), 0))), (2, .inr (.inr ((10, 0, 0), 215))), (3, .inl x3)] [] s4
    exact am_l0 hf
def fLc3 (xs : Nat → Int32) (L : Nat) (J : AS → Option (AS × Int32)) (s0 : AS) (x3 : Int32) : Option (AS × Int32) :=
  am_g (¬ ((x3 + (1 : Int32)) < 0 ∨ L ≤ (x3 + (1 : Int32)).toNatClampNeg)) (am_r (fX8_fault s0 (xs ((x3 + (1 : Int32)).toNatClampNeg))) (fun (v2 : Int32) => am_g (¬ ((x3 + (1 : Int32)) < 0 ∨ L ≤ (x3 + (1 : Int32)).toNatClampNeg)) (am_c (fX9_fault s0 (xs ((x3 + (1 : Int32)).toNatClampNeg))) (fun (s5 : AS) (v4 : Int32) => if v2 = v4 then (J s5) else (some (s5, (0 : Int32)))))))
set_option maxHeartbeats 4000000 in
set_option maxRecDepth 100000 in
theorem tLc3 {l : Launch} {d : Nat} {xs : Nat → Int32} {L : Nat} {X : Nat → AL → List AV → AS → Prop} (hX : am_cloL kLaw.flatten xs L (am_Ct l (d + 199)) X) {J : AS → Option (AS × Int32)} {sE : AS} {x3 : Int32} (hJ : ∀ s, J s = some (sE, 1) → X 2120 [(0, .inr (.inr ((28, 0, 0), 237))), (1, .inr (.inr ((9, 0, 0), 0))), (2, .inr (.inr ((10, 0, 0), 215))), (3, .inl x3)] [] s) (s0 : AS) (hf : fLc3 xs L J s0 x3 = some (sE, 1)) : X 427 [(0, .inr (.inr ((28, 0, 0), 237))), (1, .inr (.inr ((9, 0, 0), 0))), (2, .inr (.inr ((10, 0, 0), 215))), (3, .inl x3)] [] s0 := by
  unfold fLc3 at hf
  obtain ⟨g1, hf⟩ := am_g_of hf
  obtain ⟨v2, hcv2, hf⟩ := am_r_of hf
  obtain ⟨g3, hf⟩ := am_g_of hf
  obtain ⟨s5, v4, hcv4, hf⟩ := am_c_of hf
  refine am_blkL hX ikLc3 0 15 (And.intro rfl (And.intro rfl (And.intro g1 (And.intro rfl (And.intro rfl (Exists.intro s0 (Exists.intro (some (.inl v2)) (And.intro (tX8_fault l (d + 198) hcv2) (And.intro rfl (And.intro rfl (And.intro g3 (And.intro rfl (And.intro rfl (Exists.intro s5 (Exists.intro (some (.inl v4)) (And.intro (tX9_fault l (d + 198) hcv4) (And.intro (fun hb => ?_) (fun hb => ?_))))))))))))))))))
  · have hf := am_it hf hb
    show X 2120 [(0, .inr (.inr ((28, 0, 0), 237))), (1, .inr (.inr ((9, 0, 0), 0))), (2, .inr (.inr ((10, 0, 0), 215))), (3, .inl x3)] [] s5
    exact am_wkL hX [0, 1, 2, 3] (hJ s5 hf)
  · have hf := am_if hf hb
    show X 448 [(0, .inr (.inr ((28, 0, 0), 237))), (1, .inr (.inr ((9, 0, 0), 0))), (2, .inr (.inr ((10, 0, 0), 215))), (3, .inl x3)] [] s5
    exact am_l0 hf
def fLc4 (xs : Nat → Int32) (L : Nat) (J : AS → Option (AS × Int32)) (s0 : AS) (x3 : Int32) : Option (AS × Int32) :=
  am_g (¬ ((x3 + (1 : Int32)) < 0 ∨ L ≤ (x3 + (1 : Int32)).toNatClampNeg)) (am_g (¬ ((x3 + (2 : Int32)) < 0 ∨ L ≤ (x3 + (2 : Int32)).toNatClampNeg)) (am_r (fX8_road s0 (xs ((x3 + (1 : Int32)).toNatClampNeg)) (xs ((x3 + (2 : Int32)).toNatClampNeg))) (fun (v3 : Int32) => am_g (¬ ((x3 + (1 : Int32)) < 0 ∨ L ≤ (x3 + (1 : Int32)).toNatClampNeg)) (am_g (¬ ((x3 + (2 : Int32)) < 0 ∨ L ≤ (x3 + (2 : Int32)).toNatClampNeg)) (am_c (fX9_road s0 (xs ((x3 + (1 : Int32)).toNatClampNeg)) (xs ((x3 + (2 : Int32)).toNatClampNeg))) (fun (s7 : AS) (v6 : Int32) => if v3 = v6 then (J s7) else (some (s7, (0 : Int32)))))))))
set_option maxHeartbeats 4000000 in
set_option maxRecDepth 100000 in
theorem tLc4 {l : Launch} {d : Nat} {xs : Nat → Int32} {L : Nat} {X : Nat → AL → List AV → AS → Prop} (hX : am_cloL kLaw.flatten xs L (am_Ct l (d + 199)) X) {J : AS → Option (AS × Int32)} {sE : AS} {x3 : Int32} (hJ : ∀ s, J s = some (sE, 1) → X 2120 [(0, .inr (.inr ((28, 0, 0), 237))), (1, .inr (.inr ((9, 0, 0), 0))), (2, .inr (.inr ((10, 0, 0), 215))), (3, .inl x3)] [] s) (s0 : AS) (hf : fLc4 xs L J s0 x3 = some (sE, 1)) : X 450 [(0, .inr (.inr ((28, 0, 0), 237))), (1, .inr (.inr ((9, 0, 0), 0))), (2, .inr (.inr ((10, 0, 0), 215))), (3, .inl x3)] [] s0 := by
  unfold fLc4 at hf
  obtain ⟨g1, hf⟩ := am_g_of hf
  obtain ⟨g2, hf⟩ := am_g_of hf
  obtain ⟨v3, hcv3, hf⟩ := am_r_of hf
  obtain ⟨g4, hf⟩ := am_g_of hf
  obtain ⟨g5, hf⟩ := am_g_of hf
  obtain ⟨s7, v6, hcv6, hf⟩ := am_c_of hf
  refine am_blkL hX ikLc4 0 25 (And.intro rfl (And.intro rfl (And.intro g1 (And.intro rfl (And.intro rfl (And.intro g2 (And.intro rfl (And.intro rfl (Exists.intro s0 (Exists.intro (some (.inl v3)) (And.intro (tX8_road l (d + 197) hcv3) (And.intro rfl (And.intro rfl (And.intro g4 (And.intro rfl (And.intro rfl (And.intro g5 (And.intro rfl (And.intro rfl (Exists.intro s7 (Exists.intro (some (.inl v6)) (And.intro (tX9_road l (d + 197) hcv6) (And.intro (fun hb => ?_) (fun hb => ?_))))))))))))))))))))))))
  · have hf := am_it hf hb
    show X 2120 [(0, .inr (.inr ((28, 0, 0), 237))), (1, .inr (.inr ((9, 0, 0), 0))), (2, .inr (.inr ((10, 0, 0), 215))), (3, .inl x3)] [] s7
    exact am_wkL hX [0, 1, 2, 3] (hJ s7 hf)
  · have hf := am_if hf hb
    show X 481 [(0, .inr (.inr ((28, 0, 0), 237))), (1, .inr (.inr ((9, 0, 0), 0))), (2, .inr (.inr ((10, 0, 0), 215))), (3, .inl x3)] [] s7
    exact am_l0 hf
def fLc5 (xs : Nat → Int32) (L : Nat) (J : AS → Option (AS × Int32)) (s0 : AS) (x3 : Int32) : Option (AS × Int32) :=
  am_g (¬ ((x3 + (1 : Int32)) < 0 ∨ L ≤ (x3 + (1 : Int32)).toNatClampNeg)) (am_g (¬ ((x3 + (2 : Int32)) < 0 ∨ L ≤ (x3 + (2 : Int32)).toNatClampNeg)) (am_r (fX8_person s0 (xs ((x3 + (1 : Int32)).toNatClampNeg)) (xs ((x3 + (2 : Int32)).toNatClampNeg))) (fun (v3 : Int32) => am_g (¬ ((x3 + (1 : Int32)) < 0 ∨ L ≤ (x3 + (1 : Int32)).toNatClampNeg)) (am_g (¬ ((x3 + (2 : Int32)) < 0 ∨ L ≤ (x3 + (2 : Int32)).toNatClampNeg)) (am_c (fX9_person s0 (xs ((x3 + (1 : Int32)).toNatClampNeg)) (xs ((x3 + (2 : Int32)).toNatClampNeg))) (fun (s7 : AS) (v6 : Int32) => if v3 = v6 then (J s7) else (some (s7, (0 : Int32)))))))))
set_option maxHeartbeats 4000000 in
set_option maxRecDepth 100000 in
theorem tLc5 {l : Launch} {d : Nat} {xs : Nat → Int32} {L : Nat} {X : Nat → AL → List AV → AS → Prop} (hX : am_cloL kLaw.flatten xs L (am_Ct l (d + 199)) X) {J : AS → Option (AS × Int32)} {sE : AS} {x3 : Int32} (hJ : ∀ s, J s = some (sE, 1) → X 2120 [(0, .inr (.inr ((28, 0, 0), 237))), (1, .inr (.inr ((9, 0, 0), 0))), (2, .inr (.inr ((10, 0, 0), 215))), (3, .inl x3)] [] s) (s0 : AS) (hf : fLc5 xs L J s0 x3 = some (sE, 1)) : X 483 [(0, .inr (.inr ((28, 0, 0), 237))), (1, .inr (.inr ((9, 0, 0), 0))), (2, .inr (.inr ((10, 0, 0), 215))), (3, .inl x3)] [] s0 := by
  unfold fLc5 at hf
  obtain ⟨g1, hf⟩ := am_g_of hf
  obtain ⟨g2, hf⟩ := am_g_of hf
  obtain ⟨v3, hcv3, hf⟩ := am_r_of hf
  obtain ⟨g4, hf⟩ := am_g_of hf
  obtain ⟨g5, hf⟩ := am_g_of hf
  obtain ⟨s7, v6, hcv6, hf⟩ := am_c_of hf
  refine am_blkL hX ikLc5 0 25 (And.intro rfl (And.intro rfl (And.intro g1 (And.intro rfl (And.intro rfl (And.intro g2 (And.intro rfl (And.intro rfl (Exists.intro s0 (Exists.intro (some (.inl v3)) (And.intro (tX8_person l (d + 197) hcv3) (And.intro rfl (And.intro rfl (And.intro g4 (And.intro rfl (And.intro rfl (And.intro g5 (And.intro rfl (And.intro rfl (Exists.intro s7 (Exists.intro (some (.inl v6)) (And.intro (tX9_person l (d + 196) hcv6) (And.intro (fun hb => ?_) (fun hb => ?_))))))))))))))))))))))))
  · have hf := am_it hf hb
    show X 2120 [(0, .inr (.inr ((28, 0, 0), 237))), (1, .inr (.inr ((9, 0, 0), 0))), (2, .inr (.inr ((10, 0, 0), 215))), (3, .inl x3)] [] s7
    exact am_wkL hX [0, 1, 2, 3] (hJ s7 hf)
  · have hf := am_if hf hb
    show X 514 [(0, .inr (.inr ((28, 0, 0), 237))), (1, .inr (.inr ((9, 0, 0), 0))), (2, .inr (.inr ((10, 0, 0), 215))), (3, .inl x3)] [] s7
    exact am_l0 hf
def fLc6 (xs : Nat → Int32) (L : Nat) (J : AS → Option (AS × Int32)) (s0 : AS) (x3 : Int32) : Option (AS × Int32) :=
  am_g (¬ ((x3 + (1 : Int32)) < 0 ∨ L ≤ (x3 + (1 : Int32)).toNatClampNeg)) (am_g (¬ ((x3 + (2 : Int32)) < 0 ∨ L ≤ (x3 + (2 : Int32)).toNatClampNeg)) (am_c (fX8_way s0 (xs ((x3 + (1 : Int32)).toNatClampNeg)) (xs ((x3 + (2 : Int32)).toNatClampNeg))) (fun (s4 : AS) (v3 : Int32) => am_g (¬ ((x3 + (1 : Int32)) < 0 ∨ L ≤ (x3 + (1 : Int32)).toNatClampNeg)) (am_g (¬ ((x3 + (2 : Int32)) < 0 ∨ L ≤ (x3 + (2 : Int32)).toNatClampNeg)) (am_c (fX9_way s4 (xs ((x3 + (1 : Int32)).toNatClampNeg)) (xs ((x3 + (2 : Int32)).toNatClampNeg))) (fun (s8 : AS) (v7 : Int32) => if v3 = v7 then (J s8) else (some (s8, (0 : Int32)))))))))
set_option maxHeartbeats 4000000 in
set_option maxRecDepth 100000 in
theorem tLc6 {l : Launch} {d : Nat} {xs : Nat → Int32} {L : Nat} {X : Nat → AL → List AV → AS → Prop} (hX : am_cloL kLaw.flatten xs L (am_Ct l (d + 199)) X) {J : AS → Option (AS × Int32)} {sE : AS} {x3 : Int32} (hJ : ∀ s, J s = some (sE, 1) → X 2120 [(0, .inr (.inr ((28, 0, 0), 237))), (1, .inr (.inr ((9, 0, 0), 0))), (2, .inr (.inr ((10, 0, 0), 215))), (3, .inl x3)] [] s) (s0 : AS) (hf : fLc6 xs L J s0 x3 = some (sE, 1)) : X 516 [(0, .inr (.inr ((28, 0, 0), 237))), (1, .inr (.inr ((9, 0, 0), 0))), (2, .inr (.inr ((10, 0, 0), 215))), (3, .inl x3)] [] s0 := by
  unfold fLc6 at hf
  obtain ⟨g1, hf⟩ := am_g_of hf
  obtain ⟨g2, hf⟩ := am_g_of hf
  obtain ⟨s4, v3, hcv3, hf⟩ := am_c_of hf
  obtain ⟨g5, hf⟩ := am_g_of hf
  obtain ⟨g6, hf⟩ := am_g_of hf
  obtain ⟨s8, v7, hcv7, hf⟩ := am_c_of hf
  refine am_blkL hX ikLc6 0 25 (And.intro rfl (And.intro rfl (And.intro g1 (And.intro rfl (And.intro rfl (And.intro g2 (And.intro rfl (And.intro rfl (Exists.intro s4 (Exists.intro (some (.inl v3)) (And.intro (tX8_way l (d + 193) hcv3) (And.intro rfl (And.intro rfl (And.intro g5 (And.intro rfl (And.intro rfl (And.intro g6 (And.intro rfl (And.intro rfl (Exists.intro s8 (Exists.intro (some (.inl v7)) (And.intro (tX9_way l (d + 195) hcv7) (And.intro (fun hb => ?_) (fun hb => ?_))))))))))))))))))))))))
  · have hf := am_it hf hb
    show X 2120 [(0, .inr (.inr ((28, 0, 0), 237))), (1, .inr (.inr ((9, 0, 0), 0))), (2, .inr (.inr ((10, 0, 0), 215))), (3, .inl x3)] [] s8
    exact am_wkL hX [0, 1, 2, 3] (hJ s8 hf)
  · have hf := am_if hf hb
    show X 547 [(0, .inr (.inr ((28, 0, 0), 237))), (1, .inr (.inr ((9, 0, 0), 0))), (2, .inr (.inr ((10, 0, 0), 215))), (3, .inl x3)] [] s8
    exact am_l0 hf
def fLc7 (xs : Nat → Int32) (L : Nat) (J : AS → Option (AS × Int32)) (s0 : AS) (x3 : Int32) : Option (AS × Int32) :=
  am_g (¬ ((x3 + (1 : Int32)) < 0 ∨ L ≤ (x3 + (1 : Int32)).toNatClampNeg)) (am_g (¬ ((x3 + (2 : Int32)) < 0 ∨ L ≤ (x3 + (2 : Int32)).toNatClampNeg)) (am_c (fX8_next s0 (xs ((x3 + (1 : Int32)).toNatClampNeg)) (xs ((x3 + (2 : Int32)).toNatClampNeg))) (fun (s4 : AS) (v3 : Int32) => am_g (¬ ((x3 + (1 : Int32)) < 0 ∨ L ≤ (x3 + (1 : Int32)).toNatClampNeg)) (am_g (¬ ((x3 + (2 : Int32)) < 0 ∨ L ≤ (x3 + (2 : Int32)).toNatClampNeg)) (am_c (fX9_next s4 (xs ((x3 + (1 : Int32)).toNatClampNeg)) (xs ((x3 + (2 : Int32)).toNatClampNeg))) (fun (s8 : AS) (v7 : Int32) => if v3 = v7 then (J s8) else (some (s8, (0 : Int32)))))))))
set_option maxHeartbeats 4000000 in
set_option maxRecDepth 100000 in
theorem tLc7 {l : Launch} {d : Nat} {xs : Nat → Int32} {L : Nat} {X : Nat → AL → List AV → AS → Prop} (hX : am_cloL kLaw.flatten xs L (am_Ct l (d + 199)) X) {J : AS → Option (AS × Int32)} {sE : AS} {x3 : Int32} (hJ : ∀ s, J s = some (sE, 1) → X 2120 [(0, .inr (.inr ((28, 0, 0), 237))), (1, .inr (.inr ((9, 0, 0), 0))), (2, .inr (.inr ((10, 0, 0), 215))), (3, .inl x3)] [] s) (s0 : AS) (hf : fLc7 xs L J s0 x3 = some (sE, 1)) : X 549 [(0, .inr (.inr ((28, 0, 0), 237))), (1, .inr (.inr ((9, 0, 0), 0))), (2, .inr (.inr ((10, 0, 0), 215))), (3, .inl x3)] [] s0 := by
  unfold fLc7 at hf
  obtain ⟨g1, hf⟩ := am_g_of hf
  obtain ⟨g2, hf⟩ := am_g_of hf
  obtain ⟨s4, v3, hcv3, hf⟩ := am_c_of hf
  obtain ⟨g5, hf⟩ := am_g_of hf
  obtain ⟨g6, hf⟩ := am_g_of hf
  obtain ⟨s8, v7, hcv7, hf⟩ := am_c_of hf
  refine am_blkL hX ikLc7 0 25 (And.intro rfl (And.intro rfl (And.intro g1 (And.intro rfl (And.intro rfl (And.intro g2 (And.intro rfl (And.intro rfl (Exists.intro s4 (Exists.intro (some (.inl v3)) (And.intro (tX8_next l (d + 193) hcv3) (And.intro rfl (And.intro rfl (And.intro g5 (And.intro rfl (And.intro rfl (And.intro g6 (And.intro rfl (And.intro rfl (Exists.intro s8 (Exists.intro (some (.inl v7)) (And.intro (tX9_next l (d + 195) hcv7) (And.intro (fun hb => ?_) (fun hb => ?_))))))))))))))))))))))))
  · have hf := am_it hf hb
    show X 2120 [(0, .inr (.inr ((28, 0, 0), 237))), (1, .inr (.inr ((9, 0, 0), 0))), (2, .inr (.inr ((10, 0, 0), 215))), (3, .inl x3)] [] s8
    exact am_wkL hX [0, 1, 2, 3] (hJ s8 hf)
  · have hf := am_if hf hb
    show X 580 [(0, .inr (.inr ((28, 0, 0), 237))), (1, .inr (.inr ((9, 0, 0), 0))), (2, .inr (.inr ((10, 0, 0), 215))), (3, .inl x3)] [] s8
    exact am_l0 hf
def fLc8 (xs : Nat → Int32) (L : Nat) (J : AS → Option (AS × Int32)) (s0 : AS) (x3 : Int32) : Option (AS × Int32) :=
  am_g (¬ ((x3 + (1 : Int32)) < 0 ∨ L ≤ (x3 + (1 : Int32)).toNatClampNeg)) (am_c (fX8_reach s0 (xs ((x3 + (1 : Int32)).toNatClampNeg))) (fun (s3 : AS) (v2 : Int32) => am_g (¬ ((x3 + (1 : Int32)) < 0 ∨ L ≤ (x3 + (1 : Int32)).toNatClampNeg)) (am_c (fX9_reach s3 (xs ((x3 + (1 : Int32)).toNatClampNeg))) (fun (s6 : AS) (v5 : Int32) => if v2 = v5 then (J s6) else (some (s6, (0 : Int32)))))))
set_option maxHeartbeats 4000000 in
set_option maxRecDepth 100000 in
theorem tLc8 {l : Launch} {d : Nat} {xs : Nat → Int32} {L : Nat} {X : Nat → AL → List AV → AS → Prop} (hX : am_cloL kLaw.flatten xs L (am_Ct l (d + 199)) X) {J : AS → Option (AS × Int32)} {sE : AS} {x3 : Int32} (hJ : ∀ s, J s = some (sE, 1) → X 2120 [(0, .inr (.inr ((28, 0, 0), 237))), (1, .inr (.inr ((9, 0, 0), 0))), (2, .inr (.inr ((10, 0, 0), 215))), (3, .inl x3)] [] s) (s0 : AS) (hf : fLc8 xs L J s0 x3 = some (sE, 1)) : X 582 [(0, .inr (.inr ((28, 0, 0), 237))), (1, .inr (.inr ((9, 0, 0), 0))), (2, .inr (.inr ((10, 0, 0), 215))), (3, .inl x3)] [] s0 := by
  unfold fLc8 at hf
  obtain ⟨g1, hf⟩ := am_g_of hf
  obtain ⟨s3, v2, hcv2, hf⟩ := am_c_of hf
  obtain ⟨g4, hf⟩ := am_g_of hf
  obtain ⟨s6, v5, hcv5, hf⟩ := am_c_of hf
  refine am_blkL hX ikLc8 0 15 (And.intro rfl (And.intro rfl (And.intro g1 (And.intro rfl (And.intro rfl (Exists.intro s3 (Exists.intro (some (.inl v2)) (And.intro (tX8_reach l (d + 193) hcv2) (And.intro rfl (And.intro rfl (And.intro g4 (And.intro rfl (And.intro rfl (Exists.intro s6 (Exists.intro (some (.inl v5)) (And.intro (tX9_reach l (d + 195) hcv5) (And.intro (fun hb => ?_) (fun hb => ?_))))))))))))))))))
  · have hf := am_it hf hb
    show X 2120 [(0, .inr (.inr ((28, 0, 0), 237))), (1, .inr (.inr ((9, 0, 0), 0))), (2, .inr (.inr ((10, 0, 0), 215))), (3, .inl x3)] [] s6
    exact am_wkL hX [0, 1, 2, 3] (hJ s6 hf)
  · have hf := am_if hf hb
    show X 603 [(0, .inr (.inr ((28, 0, 0), 237))), (1, .inr (.inr ((9, 0, 0), 0))), (2, .inr (.inr ((10, 0, 0), 215))), (3, .inl x3)] [] s6
    exact am_l0 hf
def fLc9 (xs : Nat → Int32) (L : Nat) (J : AS → Option (AS × Int32)) (s0 : AS) (x3 : Int32) : Option (AS × Int32) :=
  am_g (¬ ((x3 + (1 : Int32)) < 0 ∨ L ≤ (x3 + (1 : Int32)).toNatClampNeg)) (am_c (fX8_at s0 (xs ((x3 + (1 : Int32)).toNatClampNeg))) (fun (s3 : AS) (v2 : Int32) => am_g (¬ ((x3 + (1 : Int32)) < 0 ∨ L ≤ (x3 + (1 : Int32)).toNatClampNeg)) (am_c (fX9_at s3 (xs ((x3 + (1 : Int32)).toNatClampNeg))) (fun (s6 : AS) (v5 : Int32) => if v2 = v5 then (J s6) else (some (s6, (0 : Int32)))))))
set_option maxHeartbeats 4000000 in
set_option maxRecDepth 100000 in
theorem tLc9 {l : Launch} {d : Nat} {xs : Nat → Int32} {L : Nat} {X : Nat → AL → List AV → AS → Prop} (hX : am_cloL kLaw.flatten xs L (am_Ct l (d + 199)) X) {J : AS → Option (AS × Int32)} {sE : AS} {x3 : Int32} (hJ : ∀ s, J s = some (sE, 1) → X 2120 [(0, .inr (.inr ((28, 0, 0), 237))), (1, .inr (.inr ((9, 0, 0), 0))), (2, .inr (.inr ((10, 0, 0), 215))), (3, .inl x3)] [] s) (s0 : AS) (hf : fLc9 xs L J s0 x3 = some (sE, 1)) : X 605 [(0, .inr (.inr ((28, 0, 0), 237))), (1, .inr (.inr ((9, 0, 0), 0))), (2, .inr (.inr ((10, 0, 0), 215))), (3, .inl x3)] [] s0 := by
  unfold fLc9 at hf
  obtain ⟨g1, hf⟩ := am_g_of hf
  obtain ⟨s3, v2, hcv2, hf⟩ := am_c_of hf
  obtain ⟨g4, hf⟩ := am_g_of hf
  obtain ⟨s6, v5, hcv5, hf⟩ := am_c_of hf
  refine am_blkL hX ikLc9 0 15 (And.intro rfl (And.intro rfl (And.intro g1 (And.intro rfl (And.intro rfl (Exists.intro s3 (Exists.intro (some (.inl v2)) (And.intro (tX8_at l (d + 193) hcv2) (And.intro rfl (And.intro rfl (And.intro g4 (And.intro rfl (And.intro rfl (Exists.intro s6 (Exists.intro (some (.inl v5)) (And.intro (tX9_at l (d + 193) hcv5) (And.intro (fun hb => ?_) (fun hb => ?_))))))))))))))))))
  · have hf := am_it hf hb
    show X 2120 [(0, .inr (.inr ((28, 0, 0), 237))), (1, .inr (.inr ((9, 0, 0), 0))), (2, .inr (.inr ((10, 0, 0), 215))), (3, .inl x3)] [] s6
    exact am_wkL hX [0, 1, 2, 3] (hJ s6 hf)
  · have hf := am_if hf hb
    show X 626 [(0, .inr (.inr ((28, 0, 0), 237))), (1, .inr (.inr ((9, 0, 0), 0))), (2, .inr (.inr ((10, 0, 0), 215))), (3, .inl x3)] [] s6
    exact am_l0 hf
def fLc10 (xs : Nat → Int32) (L : Nat) (J : AS → Option (AS × Int32)) (s0 : AS) (x3 : Int32) : Option (AS × Int32) :=
  am_g (¬ ((x3 + (1 : Int32)) < 0 ∨ L ≤ (x3 + (1 : Int32)).toNatClampNeg)) (am_c (fX8_crowd s0 (xs ((x3 + (1 : Int32)).toNatClampNeg))) (fun (s3 : AS) (v2 : Int32) => am_g (¬ ((x3 + (1 : Int32)) < 0 ∨ L ≤ (x3 + (1 : Int32)).toNatClampNeg)) (am_c (fX9_crowd s3 (xs ((x3 + (1 : Int32)).toNatClampNeg))) (fun (s6 : AS) (v5 : Int32) => if v2 = v5 then (J s6) else (some (s6, (0 : Int32)))))))
set_option maxHeartbeats 4000000 in
set_option maxRecDepth 100000 in
theorem tLc10 {l : Launch} {d : Nat} {xs : Nat → Int32} {L : Nat} {X : Nat → AL → List AV → AS → Prop} (hX : am_cloL kLaw.flatten xs L (am_Ct l (d + 199)) X) {J : AS → Option (AS × Int32)} {sE : AS} {x3 : Int32} (hJ : ∀ s, J s = some (sE, 1) → X 2120 [(0, .inr (.inr ((28, 0, 0), 237))), (1, .inr (.inr ((9, 0, 0), 0))), (2, .inr (.inr ((10, 0, 0), 215))), (3, .inl x3)] [] s) (s0 : AS) (hf : fLc10 xs L J s0 x3 = some (sE, 1)) : X 628 [(0, .inr (.inr ((28, 0, 0), 237))), (1, .inr (.inr ((9, 0, 0), 0))), (2, .inr (.inr ((10, 0, 0), 215))), (3, .inl x3)] [] s0 := by
  unfold fLc10 at hf
  obtain ⟨g1, hf⟩ := am_g_of hf
  obtain ⟨s3, v2, hcv2, hf⟩ := am_c_of hf
  obtain ⟨g4, hf⟩ := am_g_of hf
  obtain ⟨s6, v5, hcv5, hf⟩ := am_c_of hf
  refine am_blkL hX ikLc10 0 15 (And.intro rfl (And.intro rfl (And.intro g1 (And.intro rfl (And.intro rfl (Exists.intro s3 (Exists.intro (some (.inl v2)) (And.intro (tX8_crowd l (d + 193) hcv2) (And.intro rfl (And.intro rfl (And.intro g4 (And.intro rfl (And.intro rfl (Exists.intro s6 (Exists.intro (some (.inl v5)) (And.intro (tX9_crowd l (d + 193) hcv5) (And.intro (fun hb => ?_) (fun hb => ?_))))))))))))))))))
  · have hf := am_it hf hb
    show X 2120 [(0, .inr (.inr ((28, 0, 0), 237))), (1, .inr (.inr ((9, 0, 0), 0))), (2, .inr (.inr ((10, 0, 0), 215))), (3, .inl x3)] [] s6
    exact am_wkL hX [0, 1, 2, 3] (hJ s6 hf)
  · have hf := am_if hf hb
    show X 649 [(0, .inr (.inr ((28, 0, 0), 237))), (1, .inr (.inr ((9, 0, 0), 0))), (2, .inr (.inr ((10, 0, 0), 215))), (3, .inl x3)] [] s6
    exact am_l0 hf
def fLc11 (xs : Nat → Int32) (L : Nat) (J : AS → Option (AS × Int32)) (s0 : AS) (x3 : Int32) : Option (AS × Int32) :=
  am_g (¬ ((x3 + (1 : Int32)) < 0 ∨ L ≤ (x3 + (1 : Int32)).toNatClampNeg)) (am_g (¬ ((x3 + (2 : Int32)) < 0 ∨ L ≤ (x3 + (2 : Int32)).toNatClampNeg)) (am_c (fX8_votes s0 (xs ((x3 + (1 : Int32)).toNatClampNeg)) (xs ((x3 + (2 : Int32)).toNatClampNeg))) (fun (s4 : AS) (v3 : Int32) => am_g (¬ ((x3 + (1 : Int32)) < 0 ∨ L ≤ (x3 + (1 : Int32)).toNatClampNeg)) (am_g (¬ ((x3 + (2 : Int32)) < 0 ∨ L ≤ (x3 + (2 : Int32)).toNatClampNeg)) (am_c (fX9_votes s4 (xs ((x3 + (1 : Int32)).toNatClampNeg)) (xs ((x3 + (2 : Int32)).toNatClampNeg))) (fun (s8 : AS) (v7 : Int32) => if v3 = v7 then (J s8) else (some (s8, (0 : Int32)))))))))
set_option maxHeartbeats 4000000 in
set_option maxRecDepth 100000 in
theorem tLc11 {l : Launch} {d : Nat} {xs : Nat → Int32} {L : Nat} {X : Nat → AL → List AV → AS → Prop} (hX : am_cloL kLaw.flatten xs L (am_Ct l (d + 199)) X) {J : AS → Option (AS × Int32)} {sE : AS} {x3 : Int32} (hJ : ∀ s, J s = some (sE, 1) → X 2120 [(0, .inr (.inr ((28, 0, 0), 237))), (1, .inr (.inr ((9, 0, 0), 0))), (2, .inr (.inr ((10, 0, 0), 215))), (3, .inl x3)] [] s) (s0 : AS) (hf : fLc11 xs L J s0 x3 = some (sE, 1)) : X 651 [(0, .inr (.inr ((28, 0, 0), 237))), (1, .inr (.inr ((9, 0, 0), 0))), (2, .inr (.inr ((10, 0, 0), 215))), (3, .inl x3)] [] s0 := by
  unfold fLc11 at hf
  obtain ⟨g1, hf⟩ := am_g_of hf
  obtain ⟨g2, hf⟩ := am_g_of hf
  obtain ⟨s4, v3, hcv3, hf⟩ := am_c_of hf
  obtain ⟨g5, hf⟩ := am_g_of hf
  obtain ⟨g6, hf⟩ := am_g_of hf
  obtain ⟨s8, v7, hcv7, hf⟩ := am_c_of hf
  refine am_blkL hX ikLc11 0 25 (And.intro rfl (And.intro rfl (And.intro g1 (And.intro rfl (And.intro rfl (And.intro g2 (And.intro rfl (And.intro rfl (Exists.intro s4 (Exists.intro (some (.inl v3)) (And.intro (tX8_votes l (d + 193) hcv3) (And.intro rfl (And.intro rfl (And.intro g5 (And.intro rfl (And.intro rfl (And.intro g6 (And.intro rfl (And.intro rfl (Exists.intro s8 (Exists.intro (some (.inl v7)) (And.intro (tX9_votes l (d + 193) hcv7) (And.intro (fun hb => ?_) (fun hb => ?_))))))))))))))))))))))))
  · have hf := am_it hf hb
    show X 2120 [(0, .inr (.inr ((28, 0, 0), 237))), (1, .inr (.inr ((9, 0, 0), 0))), (2, .inr (.inr ((10, 0, 0), 215))), (3, .inl x3)] [] s8
    exact am_wkL hX [0, 1, 2, 3] (hJ s8 hf)
  · have hf := am_if hf hb
    show X 682 [(0, .inr (.inr ((28, 0, 0), 237))), (1, .inr (.inr ((9, 0, 0), 0))), (2, .inr (.inr ((10, 0, 0), 215))), (3, .inl x3)] [] s8
    exact am_l0 hf
def fLc12 (xs : Nat → Int32) (L : Nat) (J : AS → Option (AS × Int32)) (s0 : AS) (x3 : Int32) : Option (AS × Int32) :=
  am_g (¬ ((x3 + (1 : Int32)) < 0 ∨ L ≤ (x3 + (1 : Int32)).toNatClampNeg)) (am_c (fX8_joins s0 (xs ((x3 + (1 : Int32)).toNatClampNeg))) (fun (s3 : AS) (v2 : Int32) => am_g (¬ ((x3 + (1 : Int32)) < 0 ∨ L ≤ (x3 + (1 : Int32)).toNatClampNeg)) (am_c (fX9_joins s3 (xs ((x3 + (1 : Int32)).toNatClampNeg))) (fun (s6 : AS) (v5 : Int32) => if v2 = v5 then (J s6) else (some (s6, (0 : Int32)))))))
set_option maxHeartbeats 4000000 in
set_option maxRecDepth 100000 in
theorem tLc12 {l : Launch} {d : Nat} {xs : Nat → Int32} {L : Nat} {X : Nat → AL → List AV → AS → Prop} (hX : am_cloL kLaw.flatten xs L (am_Ct l (d + 199)) X) {J : AS → Option (AS × Int32)} {sE : AS} {x3 : Int32} (hJ : ∀ s, J s = some (sE, 1) → X 2120 [(0, .inr (.inr ((28, 0, 0), 237))), (1, .inr (.inr ((9, 0, 0), 0))), (2, .inr (.inr ((10, 0, 0), 215))), (3, .inl x3)] [] s) (s0 : AS) (hf : fLc12 xs L J s0 x3 = some (sE, 1)) : X 684 [(0, .inr (.inr ((28, 0, 0), 237))), (1, .inr (.inr ((9, 0, 0), 0))), (2, .inr (.inr ((10, 0, 0), 215))), (3, .inl x3)] [] s0 := by
  unfold fLc12 at hf
  obtain ⟨g1, hf⟩ := am_g_of hf
  obtain ⟨s3, v2, hcv2, hf⟩ := am_c_of hf
  obtain ⟨g4, hf⟩ := am_g_of hf
  obtain ⟨s6, v5, hcv5, hf⟩ := am_c_of hf
  refine am_blkL hX ikLc12 0 15 (And.intro rfl (And.intro rfl (And.intro g1 (And.intro rfl (And.intro rfl (Exists.intro s3 (Exists.intro (some (.inl v2)) (And.intro (tX8_joins l (d + 193) hcv2) (And.intro rfl (And.intro rfl (And.intro g4 (And.intro rfl (And.intro rfl (Exists.intro s6 (Exists.intro (some (.inl v5)) (And.intro (tX9_joins l (d + 193) hcv5) (And.intro (fun hb => ?_) (fun hb => ?_))))))))))))))))))
  · have hf := am_it hf hb
    show X 2120 [(0, .inr (.inr ((28, 0, 0), 237))), (1, .inr (.inr ((9, 0, 0), 0))), (2, .inr (.inr ((10, 0, 0), 215))), (3, .inl x3)] [] s6
    exact am_wkL hX [0, 1, 2, 3] (hJ s6 hf)
  · have hf := am_if hf hb
    show X 705 [(0, .inr (.inr ((28, 0, 0), 237))), (1, .inr (.inr ((9, 0, 0), 0))), (2, .inr (.inr ((10, 0, 0), 215))), (3, .inl x3)] [] s6
    exact am_l0 hf
def fLc13 (xs : Nat → Int32) (L : Nat) (J : AS → Option (AS × Int32)) (s0 : AS) (x3 : Int32) : Option (AS × Int32) :=
  am_g (¬ ((x3 + (1 : Int32)) < 0 ∨ L ≤ (x3 + (1 : Int32)).toNatClampNeg)) (am_c (fX8_leaves s0 (xs ((x3 + (1 : Int32)).toNatClampNeg))) (fun (s3 : AS) (v2 : Int32) => am_g (¬ ((x3 + (1 : Int32)) < 0 ∨ L ≤ (x3 + (1 : Int32)).toNatClampNeg)) (am_c (fX9_leaves s3 (xs ((x3 + (1 : Int32)).toNatClampNeg))) (fun (s6 : AS) (v5 : Int32) => if v2 = v5 then (J s6) else (some (s6, (0 : Int32)))))))
set_option maxHeartbeats 4000000 in
set_option maxRecDepth 100000 in
theorem tLc13 {l : Launch} {d : Nat} {xs : Nat → Int32} {L : Nat} {X : Nat → AL → List AV → AS → Prop} (hX : am_cloL kLaw.flatten xs L (am_Ct l (d + 199)) X) {J : AS → Option (AS × Int32)} {sE : AS} {x3 : Int32} (hJ : ∀ s, J s = some (sE, 1) → X 2120 [(0, .inr (.inr ((28, 0, 0), 237))), (1, .inr (.inr ((9, 0, 0), 0))), (2, .inr (.inr ((10, 0, 0), 215))), (3, .inl x3)] [] s) (s0 : AS) (hf : fLc13 xs L J s0 x3 = some (sE, 1)) : X 707 [(0, .inr (.inr ((28, 0, 0), 237))), (1, .inr (.inr ((9, 0, 0), 0))), (2, .inr (.inr ((10, 0, 0), 215))), (3, .inl x3)] [] s0 := by
  unfold fLc13 at hf
  obtain ⟨g1, hf⟩ := am_g_of hf
  obtain ⟨s3, v2, hcv2, hf⟩ := am_c_of hf
  obtain ⟨g4, hf⟩ := am_g_of hf
  obtain ⟨s6, v5, hcv5, hf⟩ := am_c_of hf
  refine am_blkL hX ikLc13 0 15 (And.intro rfl (And.intro rfl (And.intro g1 (And.intro rfl (And.intro rfl (Exists.intro s3 (Exists.intro (some (.inl v2)) (And.intro (tX8_leaves l (d + 193) hcv2) (And.intro rfl (And.intro rfl (And.intro g4 (And.intro rfl (And.intro rfl (Exists.intro s6 (Exists.intro (some (.inl v5)) (And.intro (tX9_leaves l (d + 193) hcv5) (And.intro (fun hb => ?_) (fun hb => ?_))))))))))))))))))
  · have hf := am_it hf hb
    show X 2120 [(0, .inr (.inr ((28, 0, 0), 237))), (1, .inr (.inr ((9, 0, 0), 0))), (2, .inr (.inr ((10, 0, 0), 215))), (3, .inl x3)] [] s6
    exact am_wkL hX [0, 1, 2, 3] (hJ s6 hf)
  · have hf := am_if hf hb
    show X 728 [(0, .inr (.inr ((28, 0, 0), 237))), (1, .inr (.inr ((9, 0, 0), 0))), (2, .inr (.inr ((10, 0, 0), 215))), (3, .inl x3)] [] s6
    exact am_l0 hf
def fLc14 (xs : Nat → Int32) (L : Nat) (J : AS → Option (AS × Int32)) (s0 : AS) (x3 : Int32) : Option (AS × Int32) :=
  am_c (fX8_over s0) (fun (s2 : AS) (v1 : Int32) => am_c (fX9_over s2) (fun (s4 : AS) (v3 : Int32) => if v1 = v3 then (J s4) else (some (s4, (0 : Int32)))))
set_option maxHeartbeats 4000000 in
set_option maxRecDepth 100000 in
theorem tLc14 {l : Launch} {d : Nat} {xs : Nat → Int32} {L : Nat} {X : Nat → AL → List AV → AS → Prop} (hX : am_cloL kLaw.flatten xs L (am_Ct l (d + 199)) X) {J : AS → Option (AS × Int32)} {sE : AS} {x3 : Int32} (hJ : ∀ s, J s = some (sE, 1) → X 2120 [(0, .inr (.inr ((28, 0, 0), 237))), (1, .inr (.inr ((9, 0, 0), 0))), (2, .inr (.inr ((10, 0, 0), 215))), (3, .inl x3)] [] s) (s0 : AS) (hf : fLc14 xs L J s0 x3 = some (sE, 1)) : X 730 [(0, .inr (.inr ((28, 0, 0), 237))), (1, .inr (.inr ((9, 0, 0), 0))), (2, .inr (.inr ((10, 0, 0), 215))), (3, .inl x3)] [] s0 := by
  unfold fLc14 at hf
  obtain ⟨s2, v1, hcv1, hf⟩ := am_c_of hf
  obtain ⟨s4, v3, hcv3, hf⟩ := am_c_of hf
  refine am_blkL hX ikLc14 0 5 (And.intro rfl (And.intro rfl (Exists.intro s2 (Exists.intro (some (.inl v1)) (And.intro (tX8_over l (d + 193) hcv1) (And.intro rfl (And.intro rfl (Exists.intro s4 (Exists.intro (some (.inl v3)) (And.intro (tX9_over l (d + 193) hcv3) (And.intro (fun hb => ?_) (fun hb => ?_))))))))))))
  · have hf := am_it hf hb
    show X 2120 [(0, .inr (.inr ((28, 0, 0), 237))), (1, .inr (.inr ((9, 0, 0), 0))), (2, .inr (.inr ((10, 0, 0), 215))), (3, .inl x3)] [] s4
    exact am_wkL hX [0, 1, 2, 3] (hJ s4 hf)
  · have hf := am_if hf hb
    show X 741 [(0, .inr (.inr ((28, 0, 0), 237))), (1, .inr (.inr ((9, 0, 0), 0))), (2, .inr (.inr ((10, 0, 0), 215))), (3, .inl x3)] [] s4
    exact am_l0 hf
def fLc15 (xs : Nat → Int32) (L : Nat) (J : AS → Option (AS × Int32)) (s0 : AS) (x3 : Int32) : Option (AS × Int32) :=
  am_c (fX8_why s0) (fun (s2 : AS) (v1 : Int32) => am_c (fX9_why s2) (fun (s4 : AS) (v3 : Int32) => if v1 = v3 then (J s4) else (some (s4, (0 : Int32)))))
set_option maxHeartbeats 4000000 in
set_option maxRecDepth 100000 in
theorem tLc15 {l : Launch} {d : Nat} {xs : Nat → Int32} {L : Nat} {X : Nat → AL → List AV → AS → Prop} (hX : am_cloL kLaw.flatten xs L (am_Ct l (d + 199)) X) {J : AS → Option (AS × Int32)} {sE : AS} {x3 : Int32} (hJ : ∀ s, J s = some (sE, 1) → X 2120 [(0, .inr (.inr ((28, 0, 0), 237))), (1, .inr (.inr ((9, 0, 0), 0))), (2, .inr (.inr ((10, 0, 0), 215))), (3, .inl x3)] [] s) (s0 : AS) (hf : fLc15 xs L J s0 x3 = some (sE, 1)) : X 743 [(0, .inr (.inr ((28, 0, 0), 237))), (1, .inr (.inr ((9, 0, 0), 0))), (2, .inr (.inr ((10, 0, 0), 215))), (3, .inl x3)] [] s0 := by
  unfold fLc15 at hf
  obtain ⟨s2, v1, hcv1, hf⟩ := am_c_of hf
  obtain ⟨s4, v3, hcv3, hf⟩ := am_c_of hf
  refine am_blkL hX ikLc15 0 5 (And.intro rfl (And.intro rfl (Exists.intro s2 (Exists.intro (some (.inl v1)) (And.intro (tX8_why l (d + 193) hcv1) (And.intro rfl (And.intro rfl (Exists.intro s4 (Exists.intro (some (.inl v3)) (And.intro (tX9_why l (d + 193) hcv3) (And.intro (fun hb => ?_) (fun hb => ?_))))))))))))
  · have hf := am_it hf hb
    show X 2120 [(0, .inr (.inr ((28, 0, 0), 237))), (1, .inr (.inr ((9, 0, 0), 0))), (2, .inr (.inr ((10, 0, 0), 215))), (3, .inl x3)] [] s4
    exact am_wkL hX [0, 1, 2, 3] (hJ s4 hf)
  · have hf := am_if hf hb
    show X 754 [(0, .inr (.inr ((28, 0, 0), 237))), (1, .inr (.inr ((9, 0, 0), 0))), (2, .inr (.inr ((10, 0, 0), 215))), (3, .inl x3)] [] s4
    exact am_l0 hf
def fLc16 (xs : Nat → Int32) (L : Nat) (J : AS → Option (AS × Int32)) (s0 : AS) (x3 : Int32) : Option (AS × Int32) :=
  am_g (¬ ((x3 + (1 : Int32)) < 0 ∨ L ≤ (x3 + (1 : Int32)).toNatClampNeg)) (am_c (fX8_comes s0 (xs ((x3 + (1 : Int32)).toNatClampNeg))) (fun (s3 : AS) (v2 : Int32) => am_g (¬ ((x3 + (1 : Int32)) < 0 ∨ L ≤ (x3 + (1 : Int32)).toNatClampNeg)) (am_c (fX9_comes s3 (xs ((x3 + (1 : Int32)).toNatClampNeg))) (fun (s6 : AS) (v5 : Int32) => if v2 = v5 then (J s6) else (some (s6, (0 : Int32)))))))
set_option maxHeartbeats 4000000 in
set_option maxRecDepth 100000 in
theorem tLc16 {l : Launch} {d : Nat} {xs : Nat → Int32} {L : Nat} {X : Nat → AL → List AV → AS → Prop} (hX : am_cloL kLaw.flatten xs L (am_Ct l (d + 199)) X) {J : AS → Option (AS × Int32)} {sE : AS} {x3 : Int32} (hJ : ∀ s, J s = some (sE, 1) → X 2120 [(0, .inr (.inr ((28, 0, 0), 237))), (1, .inr (.inr ((9, 0, 0), 0))), (2, .inr (.inr ((10, 0, 0), 215))), (3, .inl x3)] [] s) (s0 : AS) (hf : fLc16 xs L J s0 x3 = some (sE, 1)) : X 756 [(0, .inr (.inr ((28, 0, 0), 237))), (1, .inr (.inr ((9, 0, 0), 0))), (2, .inr (.inr ((10, 0, 0), 215))), (3, .inl x3)] [] s0 := by
  unfold fLc16 at hf
  obtain ⟨g1, hf⟩ := am_g_of hf
  obtain ⟨s3, v2, hcv2, hf⟩ := am_c_of hf
  obtain ⟨g4, hf⟩ := am_g_of hf
  obtain ⟨s6, v5, hcv5, hf⟩ := am_c_of hf
  refine am_blkL hX ikLc16 0 15 (And.intro rfl (And.intro rfl (And.intro g1 (And.intro rfl (And.intro rfl (Exists.intro s3 (Exists.intro (some (.inl v2)) (And.intro (tX8_comes l (d + 193) hcv2) (And.intro rfl (And.intro rfl (And.intro g4 (And.intro rfl (And.intro rfl (Exists.intro s6 (Exists.intro (some (.inl v5)) (And.intro (tX9_comes l (d + 193) hcv5) (And.intro (fun hb => ?_) (fun hb => ?_))))))))))))))))))
  · have hf := am_it hf hb
    show X 2120 [(0, .inr (.inr ((28, 0, 0), 237))), (1, .inr (.inr ((9, 0, 0), 0))), (2, .inr (.inr ((10, 0, 0), 215))), (3, .inl x3)] [] s6
    exact am_wkL hX [0, 1, 2, 3] (hJ s6 hf)
  · have hf := am_if hf hb
    show X 777 [(0, .inr (.inr ((28, 0, 0), 237))), (1, .inr (.inr ((9, 0, 0), 0))), (2, .inr (.inr ((10, 0, 0), 215))), (3, .inl x3)] [] s6
    exact am_l0 hf
def fLc17 (xs : Nat → Int32) (L : Nat) (J : AS → Option (AS × Int32)) (s0 : AS) (x3 : Int32) : Option (AS × Int32) :=
  am_g (¬ ((x3 + (1 : Int32)) < 0 ∨ L ≤ (x3 + (1 : Int32)).toNatClampNeg)) (am_c (fX8_often s0 (xs ((x3 + (1 : Int32)).toNatClampNeg))) (fun (s3 : AS) (v2 : Int32) => am_g (¬ ((x3 + (1 : Int32)) < 0 ∨ L ≤ (x3 + (1 : Int32)).toNatClampNeg)) (am_c (fX9_often s3 (xs ((x3 + (1 : Int32)).toNatClampNeg))) (fun (s6 : AS) (v5 : Int32) => if v2 = v5 then (J s6) else (some (s6, (0 : Int32)))))))
set_option maxHeartbeats 4000000 in
set_option maxRecDepth 100000 in
theorem tLc17 {l : Launch} {d : Nat} {xs : Nat → Int32} {L : Nat} {X : Nat → AL → List AV → AS → Prop} (hX : am_cloL kLaw.flatten xs L (am_Ct l (d + 199)) X) {J : AS → Option (AS × Int32)} {sE : AS} {x3 : Int32} (hJ : ∀ s, J s = some (sE, 1) → X 2120 [(0, .inr (.inr ((28, 0, 0), 237))), (1, .inr (.inr ((9, 0, 0), 0))), (2, .inr (.inr ((10, 0, 0), 215))), (3, .inl x3)] [] s) (s0 : AS) (hf : fLc17 xs L J s0 x3 = some (sE, 1)) : X 779 [(0, .inr (.inr ((28, 0, 0), 237))), (1, .inr (.inr ((9, 0, 0), 0))), (2, .inr (.inr ((10, 0, 0), 215))), (3, .inl x3)] [] s0 := by
  unfold fLc17 at hf
  obtain ⟨g1, hf⟩ := am_g_of hf
  obtain ⟨s3, v2, hcv2, hf⟩ := am_c_of hf
  obtain ⟨g4, hf⟩ := am_g_of hf
  obtain ⟨s6, v5, hcv5, hf⟩ := am_c_of hf
  refine am_blkL hX ikLc17 0 15 (And.intro rfl (And.intro rfl (And.intro g1 (And.intro rfl (And.intro rfl (Exists.intro s3 (Exists.intro (some (.inl v2)) (And.intro (tX8_often l (d + 193) hcv2) (And.intro rfl (And.intro rfl (And.intro g4 (And.intro rfl (And.intro rfl (Exists.intro s6 (Exists.intro (some (.inl v5)) (And.intro (tX9_often l (d + 193) hcv5) (And.intro (fun hb => ?_) (fun hb => ?_))))))))))))))))))
  · have hf := am_it hf hb
    show X 2120 [(0, .inr (.inr ((28, 0, 0), 237))), (1, .inr (.inr ((9, 0, 0), 0))), (2, .inr (.inr ((10, 0, 0), 215))), (3, .inl x3)] [] s6
    exact am_wkL hX [0, 1, 2, 3] (hJ s6 hf)
  · have hf := am_if hf hb
    show X 800 [(0, .inr (.inr ((28, 0, 0), 237))), (1, .inr (.inr ((9, 0, 0), 0))), (2, .inr (.inr ((10, 0, 0), 215))), (3, .inl x3)] [] s6
    exact am_l0 hf
def fLc18 (xs : Nat → Int32) (L : Nat) (J : AS → Option (AS × Int32)) (s0 : AS) (x3 : Int32) : Option (AS × Int32) :=
  am_g (¬ ((x3 + (1 : Int32)) < 0 ∨ L ≤ (x3 + (1 : Int32)).toNatClampNeg)) (am_c (fX8_paces s0 (xs ((x3 + (1 : Int32)).toNatClampNeg))) (fun (s3 : AS) (v2 : Int32) => am_g (¬ ((x3 + (1 : Int32)) < 0 ∨ L ≤ (x3 + (1 : Int32)).toNatClampNeg)) (am_c (fX9_paces s3 (xs ((x3 + (1 : Int32)).toNatClampNeg))) (fun (s6 : AS) (v5 : Int32) => if v2 = v5 then (J s6) else (some (s6, (0 : Int32)))))))
set_option maxHeartbeats 4000000 in
set_option maxRecDepth 100000 in
theorem tLc18 {l : Launch} {d : Nat} {xs : Nat → Int32} {L : Nat} {X : Nat → AL → List AV → AS → Prop} (hX : am_cloL kLaw.flatten xs L (am_Ct l (d + 199)) X) {J : AS → Option (AS × Int32)} {sE : AS} {x3 : Int32} (hJ : ∀ s, J s = some (sE, 1) → X 2120 [(0, .inr (.inr ((28, 0, 0), 237))), (1, .inr (.inr ((9, 0, 0), 0))), (2, .inr (.inr ((10, 0, 0), 215))), (3, .inl x3)] [] s) (s0 : AS) (hf : fLc18 xs L J s0 x3 = some (sE, 1)) : X 802 [(0, .inr (.inr ((28, 0, 0), 237))), (1, .inr (.inr ((9, 0, 0), 0))), (2, .inr (.inr ((10, 0, 0), 215))), (3, .inl x3)] [] s0 := by
  unfold fLc18 at hf
  obtain ⟨g1, hf⟩ := am_g_of hf
  obtain ⟨s3, v2, hcv2, hf⟩ := am_c_of hf
  obtain ⟨g4, hf⟩ := am_g_of hf
  obtain ⟨s6, v5, hcv5, hf⟩ := am_c_of hf
  refine am_blkL hX ikLc18 0 15 (And.intro rfl (And.intro rfl (And.intro g1 (And.intro rfl (And.intro rfl (Exists.intro s3 (Exists.intro (some (.inl v2)) (And.intro (tX8_paces l (d + 193) hcv2) (And.intro rfl (And.intro rfl (And.intro g4 (And.intro rfl (And.intro rfl (Exists.intro s6 (Exists.intro (some (.inl v5)) (And.intro (tX9_paces l (d + 193) hcv5) (And.intro (fun hb => ?_) (fun hb => ?_))))))))))))))))))
  · have hf := am_it hf hb
    show X 2120 [(0, .inr (.inr ((28, 0, 0), 237))), (1, .inr (.inr ((9, 0, 0), 0))), (2, .inr (.inr ((10, 0, 0), 215))), (3, .inl x3)] [] s6
    exact am_wkL hX [0, 1, 2, 3] (hJ s6 hf)
  · have hf := am_if hf hb
    show X 823 [(0, .inr (.inr ((28, 0, 0), 237))), (1, .inr (.inr ((9, 0, 0), 0))), (2, .inr (.inr ((10, 0, 0), 215))), (3, .inl x3)] [] s6
    exact am_l0 hf
def fLc19 (xs : Nat → Int32) (L : Nat) (J : AS → Option (AS × Int32)) (s0 : AS) (x3 : Int32) : Option (AS × Int32) :=
  am_c (fX8_most s0) (fun (s2 : AS) (v1 : Int32) => am_c (fX9_most s2) (fun (s4 : AS) (v3 : Int32) => if v1 = v3 then (J s4) else (some (s4, (0 : Int32)))))
set_option maxHeartbeats 4000000 in
set_option maxRecDepth 100000 in
theorem tLc19 {l : Launch} {d : Nat} {xs : Nat → Int32} {L : Nat} {X : Nat → AL → List AV → AS → Prop} (hX : am_cloL kLaw.flatten xs L (am_Ct l (d + 199)) X) {J : AS → Option (AS × Int32)} {sE : AS} {x3 : Int32} (hJ : ∀ s, J s = some (sE, 1) → X 2120 [(0, .inr (.inr ((28, 0, 0), 237))), (1, .inr (.inr ((9, 0, 0), 0))), (2, .inr (.inr ((10, 0, 0), 215))), (3, .inl x3)] [] s) (s0 : AS) (hf : fLc19 xs L J s0 x3 = some (sE, 1)) : X 825 [(0, .inr (.inr ((28, 0, 0), 237))), (1, .inr (.inr ((9, 0, 0), 0))), (2, .inr (.inr ((10, 0, 0), 215))), (3, .inl x3)] [] s0 := by
  unfold fLc19 at hf
  obtain ⟨s2, v1, hcv1, hf⟩ := am_c_of hf
  obtain ⟨s4, v3, hcv3, hf⟩ := am_c_of hf
  refine am_blkL hX ikLc19 0 5 (And.intro rfl (And.intro rfl (Exists.intro s2 (Exists.intro (some (.inl v1)) (And.intro (tX8_most l (d + 193) hcv1) (And.intro rfl (And.intro rfl (Exists.intro s4 (Exists.intro (some (.inl v3)) (And.intro (tX9_most l (d + 193) hcv3) (And.intro (fun hb => ?_) (fun hb => ?_))))))))))))
  · have hf := am_it hf hb
    show X 2120 [(0, .inr (.inr ((28, 0, 0), 237))), (1, .inr (.inr ((9, 0, 0), 0))), (2, .inr (.inr ((10, 0, 0), 215))), (3, .inl x3)] [] s4
    exact am_wkL hX [0, 1, 2, 3] (hJ s4 hf)
  · have hf := am_if hf hb
    show X 836 [(0, .inr (.inr ((28, 0, 0), 237))), (1, .inr (.inr ((9, 0, 0), 0))), (2, .inr (.inr ((10, 0, 0), 215))), (3, .inl x3)] [] s4
    exact am_l0 hf
def fLc20 (xs : Nat → Int32) (L : Nat) (J : AS → Option (AS × Int32)) (s0 : AS) (x3 : Int32) : Option (AS × Int32) :=
  am_c (fX8_peak s0) (fun (s2 : AS) (v1 : Int32) => am_c (fX9_peak s2) (fun (s4 : AS) (v3 : Int32) => if v1 = v3 then (J s4) else (some (s4, (0 : Int32)))))
set_option maxHeartbeats 4000000 in
set_option maxRecDepth 100000 in
theorem tLc20 {l : Launch} {d : Nat} {xs : Nat → Int32} {L : Nat} {X : Nat → AL → List AV → AS → Prop} (hX : am_cloL kLaw.flatten xs L (am_Ct l (d + 199)) X) {J : AS → Option (AS × Int32)} {sE : AS} {x3 : Int32} (hJ : ∀ s, J s = some (sE, 1) → X 2120 [(0, .inr (.inr ((28, 0, 0), 237))), (1, .inr (.inr ((9, 0, 0), 0))), (2, .inr (.inr ((10, 0, 0), 215))), (3, .inl x3)] [] s) (s0 : AS) (hf : fLc20 xs L J s0 x3 = some (sE, 1)) : X 838 [(0, .inr (.inr ((28, 0, 0), 237))), (1, .inr (.inr ((9, 0, 0), 0))), (2, .inr (.inr ((10, 0, 0), 215))), (3, .inl x3)] [] s0 := by
  unfold fLc20 at hf
  obtain ⟨s2, v1, hcv1, hf⟩ := am_c_of hf
  obtain ⟨s4, v3, hcv3, hf⟩ := am_c_of hf
  refine am_blkL hX ikLc20 0 5 (And.intro rfl (And.intro rfl (Exists.intro s2 (Exists.intro (some (.inl v1)) (And.intro (tX8_peak l (d + 193) hcv1) (And.intro rfl (And.intro rfl (Exists.intro s4 (Exists.intro (some (.inl v3)) (And.intro (tX9_peak l (d + 193) hcv3) (And.intro (fun hb => ?_) (fun hb => ?_))))))))))))
  · have hf := am_it hf hb
    show X 2120 [(0, .inr (.inr ((28, 0, 0), 237))), (1, .inr (.inr ((9, 0, 0), 0))), (2, .inr (.inr ((10, 0, 0), 215))), (3, .inl x3)] [] s4
    exact am_wkL hX [0, 1, 2, 3] (hJ s4 hf)
  · have hf := am_if hf hb
    show X 849 [(0, .inr (.inr ((28, 0, 0), 237))), (1, .inr (.inr ((9, 0, 0), 0))), (2, .inr (.inr ((10, 0, 0), 215))), (3, .inl x3)] [] s4
    exact am_l0 hf
def fLc21 (xs : Nat → Int32) (L : Nat) (J : AS → Option (AS × Int32)) (s0 : AS) (x3 : Int32) : Option (AS × Int32) :=
  am_g (¬ ((x3 + (1 : Int32)) < 0 ∨ L ≤ (x3 + (1 : Int32)).toNatClampNeg)) (am_c (fX8_boards s0 (xs ((x3 + (1 : Int32)).toNatClampNeg))) (fun (s3 : AS) (v2 : Int32) => am_g (¬ ((x3 + (1 : Int32)) < 0 ∨ L ≤ (x3 + (1 : Int32)).toNatClampNeg)) (am_c (fX9_boards s3 (xs ((x3 + (1 : Int32)).toNatClampNeg))) (fun (s6 : AS) (v5 : Int32) => if v2 = v5 then (J s6) else (some (s6, (0 : Int32)))))))
set_option maxHeartbeats 4000000 in
set_option maxRecDepth 100000 in
theorem tLc21 {l : Launch} {d : Nat} {xs : Nat → Int32} {L : Nat} {X : Nat → AL → List AV → AS → Prop} (hX : am_cloL kLaw.flatten xs L (am_Ct l (d + 199)) X) {J : AS → Option (AS × Int32)} {sE : AS} {x3 : Int32} (hJ : ∀ s, J s = some (sE, 1) → X 2120 [(0, .inr (.inr ((28, 0, 0), 237))), (1, .inr (.inr ((9, 0, 0), 0))), (2, .inr (.inr ((10, 0, 0), 215))), (3, .inl x3)] [] s) (s0 : AS) (hf : fLc21 xs L J s0 x3 = some (sE, 1)) : X 851 [(0, .inr (.inr ((28, 0, 0), 237))), (1, .inr (.inr ((9, 0, 0), 0))), (2, .inr (.inr ((10, 0, 0), 215))), (3, .inl x3)] [] s0 := by
  unfold fLc21 at hf
  obtain ⟨g1, hf⟩ := am_g_of hf
  obtain ⟨s3, v2, hcv2, hf⟩ := am_c_of hf
  obtain ⟨g4, hf⟩ := am_g_of hf
  obtain ⟨s6, v5, hcv5, hf⟩ := am_c_of hf
  refine am_blkL hX ikLc21 0 15 (And.intro rfl (And.intro rfl (And.intro g1 (And.intro rfl (And.intro rfl (Exists.intro s3 (Exists.intro (some (.inl v2)) (And.intro (tX8_boards l (d + 193) hcv2) (And.intro rfl (And.intro rfl (And.intro g4 (And.intro rfl (And.intro rfl (Exists.intro s6 (Exists.intro (some (.inl v5)) (And.intro (tX9_boards l (d + 193) hcv5) (And.intro (fun hb => ?_) (fun hb => ?_))))))))))))))))))
  · have hf := am_it hf hb
    show X 2120 [(0, .inr (.inr ((28, 0, 0), 237))), (1, .inr (.inr ((9, 0, 0), 0))), (2, .inr (.inr ((10, 0, 0), 215))), (3, .inl x3)] [] s6
    exact am_wkL hX [0, 1, 2, 3] (hJ s6 hf)
  · have hf := am_if hf hb
    show X 872 [(0, .inr (.inr ((28, 0, 0), 237))), (1, .inr (.inr ((9, 0, 0), 0))), (2, .inr (.inr ((10, 0, 0), 215))), (3, .inl x3)] [] s6
    exact am_l0 hf
def fLc22 (xs : Nat → Int32) (L : Nat) (J : AS → Option (AS × Int32)) (s0 : AS) (x3 : Int32) : Option (AS × Int32) :=
  am_g (¬ ((x3 + (1 : Int32)) < 0 ∨ L ≤ (x3 + (1 : Int32)).toNatClampNeg)) (am_c (fX8_cause s0 (xs ((x3 + (1 : Int32)).toNatClampNeg))) (fun (s3 : AS) (v2 : Int32) => am_g (¬ ((x3 + (1 : Int32)) < 0 ∨ L ≤ (x3 + (1 : Int32)).toNatClampNeg)) (am_c (fX9_cause s3 (xs ((x3 + (1 : Int32)).toNatClampNeg))) (fun (s6 : AS) (v5 : Int32) => if v2 = v5 then (J s6) else (some (s6, (0 : Int32)))))))
set_option maxHeartbeats 4000000 in
set_option maxRecDepth 100000 in
theorem tLc22 {l : Launch} {d : Nat} {xs : Nat → Int32} {L : Nat} {X : Nat → AL → List AV → AS → Prop} (hX : am_cloL kLaw.flatten xs L (am_Ct l (d + 199)) X) {J : AS → Option (AS × Int32)} {sE : AS} {x3 : Int32} (hJ : ∀ s, J s = some (sE, 1) → X 2120 [(0, .inr (.inr ((28, 0, 0), 237))), (1, .inr (.inr ((9, 0, 0), 0))), (2, .inr (.inr ((10, 0, 0), 215))), (3, .inl x3)] [] s) (s0 : AS) (hf : fLc22 xs L J s0 x3 = some (sE, 1)) : X 874 [(0, .inr (.inr ((28, 0, 0), 237))), (1, .inr (.inr ((9, 0, 0), 0))), (2, .inr (.inr ((10, 0, 0), 215))), (3, .inl x3)] [] s0 := by
  unfold fLc22 at hf
  obtain ⟨g1, hf⟩ := am_g_of hf
  obtain ⟨s3, v2, hcv2, hf⟩ := am_c_of hf
  obtain ⟨g4, hf⟩ := am_g_of hf
  obtain ⟨s6, v5, hcv5, hf⟩ := am_c_of hf
  refine am_blkL hX ikLc22 0 15 (And.intro rfl (And.intro rfl (And.intro g1 (And.intro rfl (And.intro rfl (Exists.intro s3 (Exists.intro (some (.inl v2)) (And.intro (tX8_cause l (d + 193) hcv2) (And.intro rfl (And.intro rfl (And.intro g4 (And.intro rfl (And.intro rfl (Exists.intro s6 (Exists.intro (some (.inl v5)) (And.intro (tX9_cause l (d + 193) hcv5) (And.intro (fun hb => ?_) (fun hb => ?_))))))))))))))))))
  · have hf := am_it hf hb
    show X 2120 [(0, .inr (.inr ((28, 0, 0), 237))), (1, .inr (.inr ((9, 0, 0), 0))), (2, .inr (.inr ((10, 0, 0), 215))), (3, .inl x3)] [] s6
    exact am_wkL hX [0, 1, 2, 3] (hJ s6 hf)
  · have hf := am_if hf hb
    show X 895 [(0, .inr (.inr ((28, 0, 0), 237))), (1, .inr (.inr ((9, 0, 0), 0))), (2, .inr (.inr ((10, 0, 0), 215))), (3, .inl x3)] [] s6
    exact am_l0 hf
def fLc23 (xs : Nat → Int32) (L : Nat) (J : AS → Option (AS × Int32)) (s0 : AS) (x3 : Int32) : Option (AS × Int32) :=
  am_g (¬ ((x3 + (1 : Int32)) < 0 ∨ L ≤ (x3 + (1 : Int32)).toNatClampNeg)) (am_c (fX8_weighs s0 (xs ((x3 + (1 : Int32)).toNatClampNeg))) (fun (s3 : AS) (v2 : Int32) => am_g (¬ ((x3 + (1 : Int32)) < 0 ∨ L ≤ (x3 + (1 : Int32)).toNatClampNeg)) (am_c (fX9_weighs s3 (xs ((x3 + (1 : Int32)).toNatClampNeg))) (fun (s6 : AS) (v5 : Int32) => if v2 = v5 then (J s6) else (some (s6, (0 : Int32)))))))
set_option maxHeartbeats 4000000 in
set_option maxRecDepth 100000 in
theorem tLc23 {l : Launch} {d : Nat} {xs : Nat → Int32} {L : Nat} {X : Nat → AL → List AV → AS → Prop} (hX : am_cloL kLaw.flatten xs L (am_Ct l (d + 199)) X) {J : AS → Option (AS × Int32)} {sE : AS} {x3 : Int32} (hJ : ∀ s, J s = some (sE, 1) → X 2120 [(0, .inr (.inr ((28, 0, 0), 237))), (1, .inr (.inr ((9, 0, 0), 0))), (2, .inr (.inr ((10, 0, 0), 215))), (3, .inl x3)] [] s) (s0 : AS) (hf : fLc23 xs L J s0 x3 = some (sE, 1)) : X 897 [(0, .inr (.inr ((28, 0, 0), 237))), (1, .inr (.inr ((9, 0, 0), 0))), (2, .inr (.inr ((10, 0, 0), 215))), (3, .inl x3)] [] s0 := by
  unfold fLc23 at hf
  obtain ⟨g1, hf⟩ := am_g_of hf
  obtain ⟨s3, v2, hcv2, hf⟩ := am_c_of hf
  obtain ⟨g4, hf⟩ := am_g_of hf
  obtain ⟨s6, v5, hcv5, hf⟩ := am_c_of hf
  refine am_blkL hX ikLc23 0 15 (And.intro rfl (And.intro rfl (And.intro g1 (And.intro rfl (And.intro rfl (Exists.intro s3 (Exists.intro (some (.inl v2)) (And.intro (tX8_weighs l (d + 193) hcv2) (And.intro rfl (And.intro rfl (And.intro g4 (And.intro rfl (And.intro rfl (Exists.intro s6 (Exists.intro (some (.inl v5)) (And.intro (tX9_weighs l (d + 193) hcv5) (And.intro (fun hb => ?_) (fun hb => ?_))))))))))))))))))
  · have hf := am_it hf hb
    show X 2120 [(0, .inr (.inr ((28, 0, 0), 237))), (1, .inr (.inr ((9, 0, 0), 0))), (2, .inr (.inr ((10, 0, 0), 215))), (3, .inl x3)] [] s6
    exact am_wkL hX [0, 1, 2, 3] (hJ s6 hf)
  · have hf := am_if hf hb
    show X 918 [(0, .inr (.inr ((28, 0, 0), 237))), (1, .inr (.inr ((9, 0, 0), 0))), (2, .inr (.inr ((10, 0, 0), 215))), (3, .inl x3)] [] s6
    exact am_l0 hf
def fLc24 (xs : Nat → Int32) (L : Nat) (J : AS → Option (AS × Int32)) (s0 : AS) (x3 : Int32) : Option (AS × Int32) :=
  am_g (¬ ((x3 + (1 : Int32)) < 0 ∨ L ≤ (x3 + (1 : Int32)).toNatClampNeg)) (am_c (fX8_splits s0 (xs ((x3 + (1 : Int32)).toNatClampNeg))) (fun (s3 : AS) (v2 : Int32) => am_g (¬ ((x3 + (1 : Int32)) < 0 ∨ L ≤ (x3 + (1 : Int32)).toNatClampNeg)) (am_c (fX9_splits s3 (xs ((x3 + (1 : Int32)).toNatClampNeg))) (fun (s6 : AS) (v5 : Int32) => if v2 = v5 then (J s6) else (some (s6, (0 : Int32)))))))
set_option maxHeartbeats 4000000 in
set_option maxRecDepth 100000 in
theorem tLc24 {l : Launch} {d : Nat} {xs : Nat → Int32} {L : Nat} {X : Nat → AL → List AV → AS → Prop} (hX : am_cloL kLaw.flatten xs L (am_Ct l (d + 199)) X) {J : AS → Option (AS × Int32)} {sE : AS} {x3 : Int32} (hJ : ∀ s, J s = some (sE, 1) → X 2120 [(0, .inr (.inr ((28, 0, 0), 237))), (1, .inr (.inr ((9, 0, 0), 0))), (2, .inr (.inr ((10, 0, 0), 215))), (3, .inl x3)] [] s) (s0 : AS) (hf : fLc24 xs L J s0 x3 = some (sE, 1)) : X 920 [(0, .inr (.inr ((28, 0, 0), 237))), (1, .inr (.inr ((9, 0, 0), 0))), (2, .inr (.inr ((10, 0, 0), 215))), (3, .inl x3)] [] s0 := by
  unfold fLc24 at hf
  obtain ⟨g1, hf⟩ := am_g_of hf
  obtain ⟨s3, v2, hcv2, hf⟩ := am_c_of hf
  obtain ⟨g4, hf⟩ := am_g_of hf
  obtain ⟨s6, v5, hcv5, hf⟩ := am_c_of hf
  refine am_blkL hX ikLc24 0 15 (And.intro rfl (And.intro rfl (And.intro g1 (And.intro rfl (And.intro rfl (Exists.intro s3 (Exists.intro (some (.inl v2)) (And.intro (tX8_splits l (d + 193) hcv2) (And.intro rfl (And.intro rfl (And.intro g4 (And.intro rfl (And.intro rfl (Exists.intro s6 (Exists.intro (some (.inl v5)) (And.intro (tX9_splits l (d + 193) hcv5) (And.intro (fun hb => ?_) (fun hb => ?_))))))))))))))))))
  · have hf := am_it hf hb
    show X 2120 [(0, .inr (.inr ((28, 0, 0), 237))), (1, .inr (.inr ((9, 0, 0), 0))), (2, .inr (.inr ((10, 0, 0), 215))), (3, .inl x3)] [] s6
    exact am_wkL hX [0, 1, 2, 3] (hJ s6 hf)
  · have hf := am_if hf hb
    show X 941 [(0, .inr (.inr ((28, 0, 0), 237))), (1, .inr (.inr ((9, 0, 0), 0))), (2, .inr (.inr ((10, 0, 0), 215))), (3, .inl x3)] [] s6
    exact am_l0 hf
def fLc25 (xs : Nat → Int32) (L : Nat) (J : AS → Option (AS × Int32)) (s0 : AS) (x3 : Int32) : Option (AS × Int32) :=
  am_g (¬ ((x3 + (1 : Int32)) < 0 ∨ L ≤ (x3 + (1 : Int32)).toNatClampNeg)) (am_c (fX8_carries s0 (xs ((x3 + (1 : Int32)).toNatClampNeg))) (fun (s3 : AS) (v2 : Int32) => am_g (¬ ((x3 + (1 : Int32)) < 0 ∨ L ≤ (x3 + (1 : Int32)).toNatClampNeg)) (am_c (fX9_carries s3 (xs ((x3 + (1 : Int32)).toNatClampNeg))) (fun (s6 : AS) (v5 : Int32) => if v2 = v5 then (J s6) else (some (s6, (0 : Int32)))))))
set_option maxHeartbeats 4000000 in
set_option maxRecDepth 100000 in
theorem tLc25 {l : Launch} {d : Nat} {xs : Nat → Int32} {L : Nat} {X : Nat → AL → List AV → AS → Prop} (hX : am_cloL kLaw.flatten xs L (am_Ct l (d + 199)) X) {J : AS → Option (AS × Int32)} {sE : AS} {x3 : Int32} (hJ : ∀ s, J s = some (sE, 1) → X 2120 [(0, .inr (.inr ((28, 0, 0), 237))), (1, .inr (.inr ((9, 0, 0), 0))), (2, .inr (.inr ((10, 0, 0), 215))), (3, .inl x3)] [] s) (s0 : AS) (hf : fLc25 xs L J s0 x3 = some (sE, 1)) : X 943 [(0, .inr (.inr ((28, 0, 0), 237))), (1, .inr (.inr ((9, 0, 0), 0))), (2, .inr (.inr ((10, 0, 0), 215))), (3, .inl x3)] [] s0 := by
  unfold fLc25 at hf
  obtain ⟨g1, hf⟩ := am_g_of hf
  obtain ⟨s3, v2, hcv2, hf⟩ := am_c_of hf
  obtain ⟨g4, hf⟩ := am_g_of hf
  obtain ⟨s6, v5, hcv5, hf⟩ := am_c_of hf
  refine am_blkL hX ikLc25 0 15 (And.intro rfl (And.intro rfl (And.intro g1 (And.intro rfl (And.intro rfl (Exists.intro s3 (Exists.intro (some (.inl v2)) (And.intro (tX8_carries l (d + 193) hcv2) (And.intro rfl (And.intro rfl (And.intro g4 (And.intro rfl (And.intro rfl (Exists.intro s6 (Exists.intro (some (.inl v5)) (And.intro (tX9_carries l (d + 193) hcv5) (And.intro (fun hb => ?_) (fun hb => ?_))))))))))))))))))
  · have hf := am_it hf hb
    show X 2120 [(0, .inr (.inr ((28, 0, 0), 237))), (1, .inr (.inr ((9, 0, 0), 0))), (2, .inr (.inr ((10, 0, 0), 215))), (3, .inl x3)] [] s6
    exact am_wkL hX [0, 1, 2, 3] (hJ s6 hf)
  · have hf := am_if hf hb
    show X 964 [(0, .inr (.inr ((28, 0, 0), 237))), (1, .inr (.inr ((9, 0, 0), 0))), (2, .inr (.inr ((10, 0, 0), 215))), (3, .inl x3)] [] s6
    exact am_l0 hf
def fLc26 (xs : Nat → Int32) (L : Nat) (J : AS → Option (AS × Int32)) (s0 : AS) (x3 : Int32) : Option (AS × Int32) :=
  am_g (¬ ((x3 + (1 : Int32)) < 0 ∨ L ≤ (x3 + (1 : Int32)).toNatClampNeg)) (am_c (fX8_parties s0 (xs ((x3 + (1 : Int32)).toNatClampNeg))) (fun (s3 : AS) (v2 : Int32) => am_g (¬ ((x3 + (1 : Int32)) < 0 ∨ L ≤ (x3 + (1 : Int32)).toNatClampNeg)) (am_c (fX9_parties s3 (xs ((x3 + (1 : Int32)).toNatClampNeg))) (fun (s6 : AS) (v5 : Int32) => if v2 = v5 then (J s6) else (some (s6, (0 : Int32)))))))
set_option maxHeartbeats 4000000 in
set_option maxRecDepth 100000 in
theorem tLc26 {l : Launch} {d : Nat} {xs : Nat → Int32} {L : Nat} {X : Nat → AL → List AV → AS → Prop} (hX : am_cloL kLaw.flatten xs L (am_Ct l (d + 199)) X) {J : AS → Option (AS × Int32)} {sE : AS} {x3 : Int32} (hJ : ∀ s, J s = some (sE, 1) → X 2120 [(0, .inr (.inr ((28, 0, 0), 237))), (1, .inr (.inr ((9, 0, 0), 0))), (2, .inr (.inr ((10, 0, 0), 215))), (3, .inl x3)] [] s) (s0 : AS) (hf : fLc26 xs L J s0 x3 = some (sE, 1)) : X 966 [(0, .inr (.inr ((28, 0, 0), 237))), (1, .inr (.inr ((9, 0, 0), 0))), (2, .inr (.inr ((10, 0, 0), 215))), (3, .inl x3)] [] s0 := by
  unfold fLc26 at hf
  obtain ⟨g1, hf⟩ := am_g_of hf
  obtain ⟨s3, v2, hcv2, hf⟩ := am_c_of hf
  obtain ⟨g4, hf⟩ := am_g_of hf
  obtain ⟨s6, v5, hcv5, hf⟩ := am_c_of hf
  refine am_blkL hX ikLc26 0 15 (And.intro rfl (And.intro rfl (And.intro g1 (And.intro rfl (And.intro rfl (Exists.intro s3 (Exists.intro (some (.inl v2)) (And.intro (tX8_parties l (d + 193) hcv2) (And.intro rfl (And.intro rfl (And.intro g4 (And.intro rfl (And.intro rfl (Exists.intro s6 (Exists.intro (some (.inl v5)) (And.intro (tX9_parties l (d + 193) hcv5) (And.intro (fun hb => ?_) (fun hb => ?_))))))))))))))))))
  · have hf := am_it hf hb
    show X 2120 [(0, .inr (.inr ((28, 0, 0), 237))), (1, .inr (.inr ((9, 0, 0), 0))), (2, .inr (.inr ((10, 0, 0), 215))), (3, .inl x3)] [] s6
    exact am_wkL hX [0, 1, 2, 3] (hJ s6 hf)
  · have hf := am_if hf hb
    show X 987 [(0, .inr (.inr ((28, 0, 0), 237))), (1, .inr (.inr ((9, 0, 0), 0))), (2, .inr (.inr ((10, 0, 0), 215))), (3, .inl x3)] [] s6
    exact am_l0 hf
def fLc27 (xs : Nat → Int32) (L : Nat) (J : AS → Option (AS × Int32)) (s0 : AS) (x3 : Int32) : Option (AS × Int32) :=
  am_g (¬ ((x3 + (1 : Int32)) < 0 ∨ L ≤ (x3 + (1 : Int32)).toNatClampNeg)) (am_g (¬ ((x3 + (2 : Int32)) < 0 ∨ L ≤ (x3 + (2 : Int32)).toNatClampNeg)) (am_c (fX8_together s0 (xs ((x3 + (1 : Int32)).toNatClampNeg)) (xs ((x3 + (2 : Int32)).toNatClampNeg))) (fun (s4 : AS) (v3 : Int32) => am_g (¬ ((x3 + (1 : Int32)) < 0 ∨ L ≤ (x3 + (1 : Int32)).toNatClampNeg)) (am_g (¬ ((x3 + (2 : Int32)) < 0 ∨ L ≤ (x3 + (2 : Int32)).toNatClampNeg)) (am_c (fX9_together s4 (xs ((x3 + (1 : Int32)).toNatClampNeg)) (xs ((x3 + (2 : Int32)).toNatClampNeg))) (fun (s8 : AS) (v7 : Int32) => if v3 = v7 then (J s8) else (some (s8, (0 : Int32)))))))))
set_option maxHeartbeats 4000000 in
set_option maxRecDepth 100000 in
theorem tLc27 {l : Launch} {d : Nat} {xs : Nat → Int32} {L : Nat} {X : Nat → AL → List AV → AS → Prop} (hX : am_cloL kLaw.flatten xs L (am_Ct l (d + 199)) X) {J : AS → Option (AS × Int32)} {sE : AS} {x3 : Int32} (hJ : ∀ s, J s = some (sE, 1) → X 2120 [(0, .inr (.inr ((28, 0, 0), 237))), (1, .inr (.inr ((9, 0, 0), 0))), (2, .inr (.inr ((10, 0, 0), 215))), (3, .inl x3)] [] s) (s0 : AS) (hf : fLc27 xs L J s0 x3 = some (sE, 1)) : X 989 [(0, .inr (.inr ((28, 0, 0), 237))), (1, .inr (.inr ((9, 0, 0), 0))), (2, .inr (.inr ((10, 0, 0), 215))), (3, .inl x3)] [] s0 := by
  unfold fLc27 at hf
  obtain ⟨g1, hf⟩ := am_g_of hf
  obtain ⟨g2, hf⟩ := am_g_of hf
  obtain ⟨s4, v3, hcv3, hf⟩ := am_c_of hf
  obtain ⟨g5, hf⟩ := am_g_of hf
  obtain ⟨g6, hf⟩ := am_g_of hf
  obtain ⟨s8, v7, hcv7, hf⟩ := am_c_of hf
  refine am_blkL hX ikLc27 0 25 (And.intro rfl (And.intro rfl (And.intro g1 (And.intro rfl (And.intro rfl (And.intro g2 (And.intro rfl (And.intro rfl (Exists.intro s4 (Exists.intro (some (.inl v3)) (And.intro (tX8_together l (d + 193) hcv3) (And.intro rfl (And.intro rfl (And.intro g5 (And.intro rfl (And.intro rfl (And.intro g6 (And.intro rfl (And.intro rfl (Exists.intro s8 (Exists.intro (some (.inl v7)) (And.intro (tX9_together l (d + 193) hcv7) (And.intro (fun hb => ?_) (fun hb => ?_))))))))))))))))))))))))
  · have hf := am_it hf hb
    show X 2120 [(0, .inr (.inr ((28, 0, 0), 237))), (1, .inr (.inr ((9, 0, 0), 0))), (2, .inr (.inr ((10, 0, 0), 215))), (3, .inl x3)] [] s8
    exact am_wkL hX [0, 1, 2, 3] (hJ s8 hf)
  · have hf := am_if hf hb
    show X 1020 [(0, .inr (.inr ((28, 0, 0), 237))), (1, .inr (.inr ((9, 0, 0), 0))), (2, .inr (.inr ((10, 0, 0), 215))), (3, .inl x3)] [] s8
    exact am_l0 hf
def fLc28 (xs : Nat → Int32) (L : Nat) (J : AS → Option (AS × Int32)) (s0 : AS) (x3 : Int32) : Option (AS × Int32) :=
  am_g (¬ ((x3 + (1 : Int32)) < 0 ∨ L ≤ (x3 + (1 : Int32)).toNatClampNeg)) (am_c (fX8_walks s0 (xs ((x3 + (1 : Int32)).toNatClampNeg))) (fun (s3 : AS) (v2 : Int32) => am_g (¬ ((x3 + (1 : Int32)) < 0 ∨ L ≤ (x3 + (1 : Int32)).toNatClampNeg)) (am_c (fX9_walks s3 (xs ((x3 + (1 : Int32)).toNatClampNeg))) (fun (s6 : AS) (v5 : Int32) => if v2 = v5 then (J s6) else (some (s6, (0 : Int32)))))))
set_option maxHeartbeats 4000000 in
set_option maxRecDepth 100000 in
theorem tLc28 {l : Launch} {d : Nat} {xs : Nat → Int32} {L : Nat} {X : Nat → AL → List AV → AS → Prop} (hX : am_cloL kLaw.flatten xs L (am_Ct l (d + 199)) X) {J : AS → Option (AS × Int32)} {sE : AS} {x3 : Int32} (hJ : ∀ s, J s = some (sE, 1) → X 2120 [(0, .inr (.inr ((28, 0, 0), 237))), (1, .inr (.inr ((9, 0, 0), 0))), (2, .inr (.inr ((10, 0, 0), 215))), (3, .inl x3)] [] s) (s0 : AS) (hf : fLc28 xs L J s0 x3 = some (sE, 1)) : X 1022 [(0, .inr (.inr ((28, 0, 0), 237))), (1, .inr (.inr ((9, 0, 0), 0))), (2, .inr (.inr ((10, 0, 0), 215))), (3, .inl x3)] [] s0 := by
  unfold fLc28 at hf
  obtain ⟨g1, hf⟩ := am_g_of hf
  obtain ⟨s3, v2, hcv2, hf⟩ := am_c_of hf
  obtain ⟨g4, hf⟩ := am_g_of hf
  obtain ⟨s6, v5, hcv5, hf⟩ := am_c_of hf
  refine am_blkL hX ikLc28 0 15 (And.intro rfl (And.intro rfl (And.intro g1 (And.intro rfl (And.intro rfl (Exists.intro s3 (Exists.intro (some (.inl v2)) (And.intro (tX8_walks l (d + 193) hcv2) (And.intro rfl (And.intro rfl (And.intro g4 (And.intro rfl (And.intro rfl (Exists.intro s6 (Exists.intro (some (.inl v5)) (And.intro (tX9_walks l (d + 193) hcv5) (And.intro (fun hb => ?_) (fun hb => ?_))))))))))))))))))
  · have hf := am_it hf hb
    show X 2120 [(0, .inr (.inr ((28, 0, 0), 237))), (1, .inr (.inr ((9, 0, 0), 0))), (2, .inr (.inr ((10, 0, 0), 215))), (3, .inl x3)] [] s6
    exact am_wkL hX [0, 1, 2, 3] (hJ s6 hf)
  · have hf := am_if hf hb
    show X 1043 [(0, .inr (.inr ((28, 0, 0), 237))), (1, .inr (.inr ((9, 0, 0), 0))), (2, .inr (.inr ((10, 0, 0), 215))), (3, .inl x3)] [] s6
    exact am_l0 hf
def fLc29 (xs : Nat → Int32) (L : Nat) (J : AS → Option (AS × Int32)) (s0 : AS) (x3 : Int32) : Option (AS × Int32) :=
  am_g (¬ ((x3 + (1 : Int32)) < 0 ∨ L ≤ (x3 + (1 : Int32)).toNatClampNeg)) (am_c (fX8_turned s0 (xs ((x3 + (1 : Int32)).toNatClampNeg))) (fun (s3 : AS) (v2 : Int32) => am_g (¬ ((x3 + (1 : Int32)) < 0 ∨ L ≤ (x3 + (1 : Int32)).toNatClampNeg)) (am_c (fX9_turned s3 (xs ((x3 + (1 : Int32)).toNatClampNeg))) (fun (s6 : AS) (v5 : Int32) => if v2 = v5 then (J s6) else (some (s6, (0 : Int32)))))))
set_option maxHeartbeats 4000000 in
set_option maxRecDepth 100000 in
theorem tLc29 {l : Launch} {d : Nat} {xs : Nat → Int32} {L : Nat} {X : Nat → AL → List AV → AS → Prop} (hX : am_cloL kLaw.flatten xs L (am_Ct l (d + 199)) X) {J : AS → Option (AS × Int32)} {sE : AS} {x3 : Int32} (hJ : ∀ s, J s = some (sE, 1) → X 2120 [(0, .inr (.inr ((28, 0, 0), 237))), (1, .inr (.inr ((9, 0, 0), 0))), (2, .inr (.inr ((10, 0, 0), 215))), (3, .inl x3)] [] s) (s0 : AS) (hf : fLc29 xs L J s0 x3 = some (sE, 1)) : X 1045 [(0, .inr (.inr ((28, 0, 0), 237))), (1, .inr (.inr ((9, 0, 0), 0))), (2, .inr (.inr ((10, 0, 0), 215))), (3, .inl x3)] [] s0 := by
  unfold fLc29 at hf
  obtain ⟨g1, hf⟩ := am_g_of hf
  obtain ⟨s3, v2, hcv2, hf⟩ := am_c_of hf
  obtain ⟨g4, hf⟩ := am_g_of hf
  obtain ⟨s6, v5, hcv5, hf⟩ := am_c_of hf
  refine am_blkL hX ikLc29 0 15 (And.intro rfl (And.intro rfl (And.intro g1 (And.intro rfl (And.intro rfl (Exists.intro s3 (Exists.intro (some (.inl v2)) (And.intro (tX8_turned l (d + 193) hcv2) (And.intro rfl (And.intro rfl (And.intro g4 (And.intro rfl (And.intro rfl (Exists.intro s6 (Exists.intro (some (.inl v5)) (And.intro (tX9_turned l (d + 193) hcv5) (And.intro (fun hb => ?_) (fun hb => ?_))))))))))))))))))
  · have hf := am_it hf hb
    show X 2120 [(0, .inr (.inr ((28, 0, 0), 237))), (1, .inr (.inr ((9, 0, 0), 0))), (2, .inr (.inr ((10, 0, 0), 215))), (3, .inl x3)] [] s6
    exact am_wkL hX [0, 1, 2, 3] (hJ s6 hf)
  · have hf := am_if hf hb
    show X 1066 [(0, .inr (.inr ((28, 0, 0), 237))), (1, .inr (.inr ((9, 0, 0), 0))), (2, .inr (.inr ((10, 0, 0), 215))), (3, .inl x3)] [] s6
    exact am_l0 hf
def fLc30 (xs : Nat → Int32) (L : Nat) (J : AS → Option (AS × Int32)) (s0 : AS) (x3 : Int32) : Option (AS × Int32) :=
  am_c (fX8_loop s0) (fun (s2 : AS) (v1 : Int32) => am_c (fX9_loop s2) (fun (s4 : AS) (v3 : Int32) => if v1 = v3 then (J s4) else (some (s4, (0 : Int32)))))
set_option maxHeartbeats 4000000 in
set_option maxRecDepth 100000 in
theorem tLc30 {l : Launch} {d : Nat} {xs : Nat → Int32} {L : Nat} {X : Nat → AL → List AV → AS → Prop} (hX : am_cloL kLaw.flatten xs L (am_Ct l (d + 199)) X) {J : AS → Option (AS × Int32)} {sE : AS} {x3 : Int32} (hJ : ∀ s, J s = some (sE, 1) → X 2120 [(0, .inr (.inr ((28, 0, 0), 237))), (1, .inr (.inr ((9, 0, 0), 0))), (2, .inr (.inr ((10, 0, 0), 215))), (3, .inl x3)] [] s) (s0 : AS) (hf : fLc30 xs L J s0 x3 = some (sE, 1)) : X 1068 [(0, .inr (.inr ((28, 0, 0), 237))), (1, .inr (.inr ((9, 0, 0), 0))), (2, .inr (.inr ((10, 0, 0), 215))), (3, .inl x3)] [] s0 := by
  unfold fLc30 at hf
  obtain ⟨s2, v1, hcv1, hf⟩ := am_c_of hf
  obtain ⟨s4, v3, hcv3, hf⟩ := am_c_of hf
  refine am_blkL hX ikLc30 0 5 (And.intro rfl (And.intro rfl (Exists.intro s2 (Exists.intro (some (.inl v1)) (And.intro (tX8_loop l (d + 193) hcv1) (And.intro rfl (And.intro rfl (Exists.intro s4 (Exists.intro (some (.inl v3)) (And.intro (tX9_loop l (d + 193) hcv3) (And.intro (fun hb => ?_) (fun hb => ?_))))))))))))
  · have hf := am_it hf hb
    show X 2120 [(0, .inr (.inr ((28, 0, 0), 237))), (1, .inr (.inr ((9, 0, 0), 0))), (2, .inr (.inr ((10, 0, 0), 215))), (3, .inl x3)] [] s4
    exact am_wkL hX [0, 1, 2, 3] (hJ s4 hf)
  · have hf := am_if hf hb
    show X 1079 [(0, .inr (.inr ((28, 0, 0), 237))), (1, .inr (.inr ((9, 0, 0), 0))), (2, .inr (.inr ((10, 0, 0), 215))), (3, .inl x3)] [] s4
    exact am_l0 hf
def fLc31 (xs : Nat → Int32) (L : Nat) (J : AS → Option (AS × Int32)) (s0 : AS) (x3 : Int32) : Option (AS × Int32) :=
  am_c (fX8_farthest s0) (fun (s2 : AS) (v1 : Int32) => am_c (fX9_farthest s2) (fun (s4 : AS) (v3 : Int32) => if v1 = v3 then (J s4) else (some (s4, (0 : Int32)))))
set_option maxHeartbeats 4000000 in
set_option maxRecDepth 100000 in
theorem tLc31 {l : Launch} {d : Nat} {xs : Nat → Int32} {L : Nat} {X : Nat → AL → List AV → AS → Prop} (hX : am_cloL kLaw.flatten xs L (am_Ct l (d + 199)) X) {J : AS → Option (AS × Int32)} {sE : AS} {x3 : Int32} (hJ : ∀ s, J s = some (sE, 1) → X 2120 [(0, .inr (.inr ((28, 0, 0), 237))), (1, .inr (.inr ((9, 0, 0), 0))), (2, .inr (.inr ((10, 0, 0), 215))), (3, .inl x3)] [] s) (s0 : AS) (hf : fLc31 xs L J s0 x3 = some (sE, 1)) : X 1081 [(0, .inr (.inr ((28, 0, 0), 237))), (1, .inr (.inr ((9, 0, 0), 0))), (2, .inr (.inr ((10, 0, 0), 215))), (3, .inl x3)] [] s0 := by
  unfold fLc31 at hf
  obtain ⟨s2, v1, hcv1, hf⟩ := am_c_of hf
  obtain ⟨s4, v3, hcv3, hf⟩ := am_c_of hf
  refine am_blkL hX ikLc31 0 5 (And.intro rfl (And.intro rfl (Exists.intro s2 (Exists.intro (some (.inl v1)) (And.intro (tX8_farthest l (d + 193) hcv1) (And.intro rfl (And.intro rfl (Exists.intro s4 (Exists.intro (some (.inl v3)) (And.intro (tX9_farthest l (d + 193) hcv3) (And.intro (fun hb => ?_) (fun hb => ?_))))))))))))
  · have hf := am_it hf hb
    show X 2120 [(0, .inr (.inr ((28, 0, 0), 237))), (1, .inr (.inr ((9, 0, 0), 0))), (2, .inr (.inr ((10, 0, 0), 215))), (3, .inl x3)] [] s4
    exact am_wkL hX [0, 1, 2, 3] (hJ s4 hf)
  · have hf := am_if hf hb
    show X 1092 [(0, .inr (.inr ((28, 0, 0), 237))), (1, .inr (.inr ((9, 0, 0), 0))), (2, .inr (.inr ((10, 0, 0), 215))), (3, .inl x3)] [] s4
    exact am_l0 hf
def fLc32 (xs : Nat → Int32) (L : Nat) (J : AS → Option (AS × Int32)) (s0 : AS) (x3 : Int32) : Option (AS × Int32) :=
  am_g (¬ ((x3 + (1 : Int32)) < 0 ∨ L ≤ (x3 + (1 : Int32)).toNatClampNeg)) (am_r (fX8_crew s0 (xs ((x3 + (1 : Int32)).toNatClampNeg))) (fun (v2 : Int32) => am_g (¬ ((x3 + (1 : Int32)) < 0 ∨ L ≤ (x3 + (1 : Int32)).toNatClampNeg)) (am_c (fX9_crew s0 (xs ((x3 + (1 : Int32)).toNatClampNeg))) (fun (s5 : AS) (v4 : Int32) => if v2 = v4 then (J s5) else (some (s5, (0 : Int32)))))))
set_option maxHeartbeats 4000000 in
set_option maxRecDepth 100000 in
theorem tLc32 {l : Launch} {d : Nat} {xs : Nat → Int32} {L : Nat} {X : Nat → AL → List AV → AS → Prop} (hX : am_cloL kLaw.flatten xs L (am_Ct l (d + 199)) X) {J : AS → Option (AS × Int32)} {sE : AS} {x3 : Int32} (hJ : ∀ s, J s = some (sE, 1) → X 2120 [(0, .inr (.inr ((28, 0, 0), 237))), (1, .inr (.inr ((9, 0, 0), 0))), (2, .inr (.inr ((10, 0, 0), 215))), (3, .inl x3)] [] s) (s0 : AS) (hf : fLc32 xs L J s0 x3 = some (sE, 1)) : X 1094 [(0, .inr (.inr ((28, 0, 0), 237))), (1, .inr (.inr ((9, 0, 0), 0))), (2, .inr (.inr ((10, 0, 0), 215))), (3, .inl x3)] [] s0 := by
  unfold fLc32 at hf
  obtain ⟨g1, hf⟩ := am_g_of hf
  obtain ⟨v2, hcv2, hf⟩ := am_r_of hf
  obtain ⟨g3, hf⟩ := am_g_of hf
  obtain ⟨s5, v4, hcv4, hf⟩ := am_c_of hf
  refine am_blkL hX ikLc32 0 15 (And.intro rfl (And.intro rfl (And.intro g1 (And.intro rfl (And.intro rfl (Exists.intro s0 (Exists.intro (some (.inl v2)) (And.intro (tX8_crew l (d + 197) hcv2) (And.intro rfl (And.intro rfl (And.intro g3 (And.intro rfl (And.intro rfl (Exists.intro s5 (Exists.intro (some (.inl v4)) (And.intro (tX9_crew l (d + 196) hcv4) (And.intro (fun hb => ?_) (fun hb => ?_))))))))))))))))))
  · have hf := am_it hf hb
    show X 2120 [(0, .inr (.inr ((28, 0, 0), 237))), (1, .inr (.inr ((9, 0, 0), 0))), (2, .inr (.inr ((10, 0, 0), 215))), (3, .inl x3)] [] s5
    exact am_wkL hX [0, 1, 2, 3] (hJ s5 hf)
  · have hf := am_if hf hb
    show X 1115 [(0, .inr (.inr ((28, 0, 0), 237))), (1, .inr (.inr ((9, 0, 0), 0))), (2, .inr (.inr ((10, 0, 0), 215))), (3, .inl x3)] [] s5
    exact am_l0 hf
def fLc33 (xs : Nat → Int32) (L : Nat) (J : AS → Option (AS × Int32)) (s0 : AS) (x3 : Int32) : Option (AS × Int32) :=
  am_g (¬ ((x3 + (1 : Int32)) < 0 ∨ L ≤ (x3 + (1 : Int32)).toNatClampNeg)) (am_c (fX8_eldest s0 (xs ((x3 + (1 : Int32)).toNatClampNeg))) (fun (s3 : AS) (v2 : Int32) => am_g (¬ ((x3 + (1 : Int32)) < 0 ∨ L ≤ (x3 + (1 : Int32)).toNatClampNeg)) (am_c (fX9_eldest s3 (xs ((x3 + (1 : Int32)).toNatClampNeg))) (fun (s6 : AS) (v5 : Int32) => if v2 = v5 then (J s6) else (some (s6, (0 : Int32)))))))
set_option maxHeartbeats 4000000 in
set_option maxRecDepth 100000 in
theorem tLc33 {l : Launch} {d : Nat} {xs : Nat → Int32} {L : Nat} {X : Nat → AL → List AV → AS → Prop} (hX : am_cloL kLaw.flatten xs L (am_Ct l (d + 199)) X) {J : AS → Option (AS × Int32)} {sE : AS} {x3 : Int32} (hJ : ∀ s, J s = some (sE, 1) → X 2120 [(0, .inr (.inr ((28, 0, 0), 237))), (1, .inr (.inr ((9, 0, 0), 0))), (2, .inr (.inr ((10, 0, 0), 215))), (3, .inl x3)] [] s) (s0 : AS) (hf : fLc33 xs L J s0 x3 = some (sE, 1)) : X 1117 [(0, .inr (.inr ((28, 0, 0), 237))), (1, .inr (.inr ((9, 0, 0), 0))), (2, .inr (.inr ((10, 0, 0), 215))), (3, .inl x3)] [] s0 := by
  unfold fLc33 at hf
  obtain ⟨g1, hf⟩ := am_g_of hf
  obtain ⟨s3, v2, hcv2, hf⟩ := am_c_of hf
  obtain ⟨g4, hf⟩ := am_g_of hf
  obtain ⟨s6, v5, hcv5, hf⟩ := am_c_of hf
  refine am_blkL hX ikLc33 0 15 (And.intro rfl (And.intro rfl (And.intro g1 (And.intro rfl (And.intro rfl (Exists.intro s3 (Exists.intro (some (.inl v2)) (And.intro (tX8_eldest l (d + 193) hcv2) (And.intro rfl (And.intro rfl (And.intro g4 (And.intro rfl (And.intro rfl (Exists.intro s6 (Exists.intro (some (.inl v5)) (And.intro (tX9_eldest l (d + 193) hcv5) (And.intro (fun hb => ?_) (fun hb => ?_))))))))))))))))))
  · have hf := am_it hf hb
    show X 2120 [(0, .inr (.inr ((28, 0, 0), 237))), (1, .inr (.inr ((9, 0, 0), 0))), (2, .inr (.inr ((10, 0, 0), 215))), (3, .inl x3)] [] s6
    exact am_wkL hX [0, 1, 2, 3] (hJ s6 hf)
  · have hf := am_if hf hb
    show X 1138 [(0, .inr (.inr ((28, 0, 0), 237))), (1, .inr (.inr ((9, 0, 0), 0))), (2, .inr (.inr ((10, 0, 0), 215))), (3, .inl x3)] [] s6
    exact am_l0 hf
def fLc34 (xs : Nat → Int32) (L : Nat) (J : AS → Option (AS × Int32)) (s0 : AS) (x3 : Int32) : Option (AS × Int32) :=
  am_g (¬ ((x3 + (1 : Int32)) < 0 ∨ L ≤ (x3 + (1 : Int32)).toNatClampNeg)) (am_c (fX8_waits s0 (xs ((x3 + (1 : Int32)).toNatClampNeg))) (fun (s3 : AS) (v2 : Int32) => am_g (¬ ((x3 + (1 : Int32)) < 0 ∨ L ≤ (x3 + (1 : Int32)).toNatClampNeg)) (am_c (fX9_waits s3 (xs ((x3 + (1 : Int32)).toNatClampNeg))) (fun (s6 : AS) (v5 : Int32) => if v2 = v5 then (J s6) else (some (s6, (0 : Int32)))))))
set_option maxHeartbeats 4000000 in
set_option maxRecDepth 100000 in
theorem tLc34 {l : Launch} {d : Nat} {xs : Nat → Int32} {L : Nat} {X : Nat → AL → List AV → AS → Prop} (hX : am_cloL kLaw.flatten xs L (am_Ct l (d + 199)) X) {J : AS → Option (AS × Int32)} {sE : AS} {x3 : Int32} (hJ : ∀ s, J s = some (sE, 1) → X 2120 [(0, .inr (.inr ((28, 0, 0), 237))), (1, .inr (.inr ((9, 0, 0), 0))), (2, .inr (.inr ((10, 0, 0), 215))), (3, .inl x3)] [] s) (s0 : AS) (hf : fLc34 xs L J s0 x3 = some (sE, 1)) : X 1140 [(0, .inr (.inr ((28, 0, 0), 237))), (1, .inr (.inr ((9, 0, 0), 0))), (2, .inr (.inr ((10, 0, 0), 215))), (3, .inl x3)] [] s0 := by
  unfold fLc34 at hf
  obtain ⟨g1, hf⟩ := am_g_of hf
  obtain ⟨s3, v2, hcv2, hf⟩ := am_c_of hf
  obtain ⟨g4, hf⟩ := am_g_of hf
  obtain ⟨s6, v5, hcv5, hf⟩ := am_c_of hf
  refine am_blkL hX ikLc34 0 15 (And.intro rfl (And.intro rfl (And.intro g1 (And.intro rfl (And.intro rfl (Exists.intro s3 (Exists.intro (some (.inl v2)) (And.intro (tX8_waits l (d + 193) hcv2) (And.intro rfl (And.intro rfl (And.intro g4 (And.intro rfl (And.intro rfl (Exists.intro s6 (Exists.intro (some (.inl v5)) (And.intro (tX9_waits l (d + 193) hcv5) (And.intro (fun hb => ?_) (fun hb => ?_))))))))))))))))))
  · have hf := am_it hf hb
    show X 2120 [(0, .inr (.inr ((28, 0, 0), 237))), (1, .inr (.inr ((9, 0, 0), 0))), (2, .inr (.inr ((10, 0, 0), 215))), (3, .inl x3)] [] s6
    exact am_wkL hX [0, 1, 2, 3] (hJ s6 hf)
  · have hf := am_if hf hb
    show X 1161 [(0, .inr (.inr ((28, 0, 0), 237))), (1, .inr (.inr ((9, 0, 0), 0))), (2, .inr (.inr ((10, 0, 0), 215))), (3, .inl x3)] [] s6
    exact am_l0 hf
def fLc35 (xs : Nat → Int32) (L : Nat) (J : AS → Option (AS × Int32)) (s0 : AS) (x3 : Int32) : Option (AS × Int32) :=
  am_c (fX8_missed s0) (fun (s2 : AS) (v1 : Int32) => am_c (fX9_missed s2) (fun (s4 : AS) (v3 : Int32) => if v1 = v3 then (J s4) else (some (s4, (0 : Int32)))))
set_option maxHeartbeats 4000000 in
set_option maxRecDepth 100000 in
theorem tLc35 {l : Launch} {d : Nat} {xs : Nat → Int32} {L : Nat} {X : Nat → AL → List AV → AS → Prop} (hX : am_cloL kLaw.flatten xs L (am_Ct l (d + 199)) X) {J : AS → Option (AS × Int32)} {sE : AS} {x3 : Int32} (hJ : ∀ s, J s = some (sE, 1) → X 2120 [(0, .inr (.inr ((28, 0, 0), 237))), (1, .inr (.inr ((9, 0, 0), 0))), (2, .inr (.inr ((10, 0, 0), 215))), (3, .inl x3)] [] s) (s0 : AS) (hf : fLc35 xs L J s0 x3 = some (sE, 1)) : X 1163 [(0, .inr (.inr ((28, 0, 0), 237))), (1, .inr (.inr ((9, 0, 0), 0))), (2, .inr (.inr ((10, 0, 0), 215))), (3, .inl x3)] [] s0 := by
  unfold fLc35 at hf
  obtain ⟨s2, v1, hcv1, hf⟩ := am_c_of hf
  obtain ⟨s4, v3, hcv3, hf⟩ := am_c_of hf
  refine am_blkL hX ikLc35 0 5 (And.intro rfl (And.intro rfl (Exists.intro s2 (Exists.intro (some (.inl v1)) (And.intro (tX8_missed l (d + 193) hcv1) (And.intro rfl (And.intro rfl (Exists.intro s4 (Exists.intro (some (.inl v3)) (And.intro (tX9_missed l (d + 193) hcv3) (And.intro (fun hb => ?_) (fun hb => ?_))))))))))))
  · have hf := am_it hf hb
    show X 2120 [(0, .inr (.inr ((28, 0, 0), 237))), (1, .inr (.inr ((9, 0, 0), 0))), (2, .inr (.inr ((10, 0, 0), 215))), (3, .inl x3)] [] s4
    exact am_wkL hX [0, 1, 2, 3] (hJ s4 hf)
  · have hf := am_if hf hb
    show X 1174 [(0, .inr (.inr ((28, 0, 0), 237))), (1, .inr (.inr ((9, 0, 0), 0))), (2, .inr (.inr ((10, 0, 0), 215))), (3, .inl x3)] [] s4
    exact am_l0 hf
def fLc36 (xs : Nat → Int32) (L : Nat) (J : AS → Option (AS × Int32)) (s0 : AS) (x3 : Int32) : Option (AS × Int32) :=
  am_g (¬ ((x3 + (1 : Int32)) < 0 ∨ L ≤ (x3 + (1 : Int32)).toNatClampNeg)) (am_c (fX8_needed s0 (xs ((x3 + (1 : Int32)).toNatClampNeg))) (fun (s3 : AS) (v2 : Int32) => am_g (¬ ((x3 + (1 : Int32)) < 0 ∨ L ≤ (x3 + (1 : Int32)).toNatClampNeg)) (am_c (fX9_needed s3 (xs ((x3 + (1 : Int32)).toNatClampNeg))) (fun (s6 : AS) (v5 : Int32) => if v2 = v5 then (J s6) else (some (s6, (0 : Int32)))))))
set_option maxHeartbeats 4000000 in
set_option maxRecDepth 100000 in
theorem tLc36 {l : Launch} {d : Nat} {xs : Nat → Int32} {L : Nat} {X : Nat → AL → List AV → AS → Prop} (hX : am_cloL kLaw.flatten xs L (am_Ct l (d + 199)) X) {J : AS → Option (AS × Int32)} {sE : AS} {x3 : Int32} (hJ : ∀ s, J s = some (sE, 1) → X 2120 [(0, .inr (.inr ((28, 0, 0), 237))), (1, .inr (.inr ((9, 0, 0), 0))), (2, .inr (.inr ((10, 0, 0), 215))), (3, .inl x3)] [] s) (s0 : AS) (hf : fLc36 xs L J s0 x3 = some (sE, 1)) : X 1176 [(0, .inr (.inr ((28, 0, 0), 237))), (1, .inr (.inr ((9, 0, 0), 0))), (2, .inr (.inr ((10, 0, 0), 215))), (3, .inl x3)] [] s0 := by
  unfold fLc36 at hf
  obtain ⟨g1, hf⟩ := am_g_of hf
  obtain ⟨s3, v2, hcv2, hf⟩ := am_c_of hf
  obtain ⟨g4, hf⟩ := am_g_of hf
  obtain ⟨s6, v5, hcv5, hf⟩ := am_c_of hf
  refine am_blkL hX ikLc36 0 15 (And.intro rfl (And.intro rfl (And.intro g1 (And.intro rfl (And.intro rfl (Exists.intro s3 (Exists.intro (some (.inl v2)) (And.intro (tX8_needed l (d + 193) hcv2) (And.intro rfl (And.intro rfl (And.intro g4 (And.intro rfl (And.intro rfl (Exists.intro s6 (Exists.intro (some (.inl v5)) (And.intro (tX9_needed l (d + 193) hcv5) (And.intro (fun hb => ?_) (fun hb => ?_))))))))))))))))))
  · have hf := am_it hf hb
    show X 2120 [(0, .inr (.inr ((28, 0, 0), 237))), (1, .inr (.inr ((9, 0, 0), 0))), (2, .inr (.inr ((10, 0, 0), 215))), (3, .inl x3)] [] s6
    exact am_wkL hX [0, 1, 2, 3] (hJ s6 hf)
  · have hf := am_if hf hb
    show X 1197 [(0, .inr (.inr ((28, 0, 0), 237))), (1, .inr (.inr ((9, 0, 0), 0))), (2, .inr (.inr ((10, 0, 0), 215))), (3, .inl x3)] [] s6
    exact am_l0 hf
def fLc37 (xs : Nat → Int32) (L : Nat) (J : AS → Option (AS × Int32)) (s0 : AS) (x3 : Int32) : Option (AS × Int32) :=
  am_g (¬ ((x3 + (1 : Int32)) < 0 ∨ L ≤ (x3 + (1 : Int32)).toNatClampNeg)) (am_g (¬ ((x3 + (2 : Int32)) < 0 ∨ L ≤ (x3 + (2 : Int32)).toNatClampNeg)) (am_c (fX8_trap s0 (xs ((x3 + (1 : Int32)).toNatClampNeg)) (xs ((x3 + (2 : Int32)).toNatClampNeg))) (fun (s4 : AS) (v3 : Int32) => am_g (¬ ((x3 + (1 : Int32)) < 0 ∨ L ≤ (x3 + (1 : Int32)).toNatClampNeg)) (am_g (¬ ((x3 + (2 : Int32)) < 0 ∨ L ≤ (x3 + (2 : Int32)).toNatClampNeg)) (am_c (fX9_trap s4 (xs ((x3 + (1 : Int32)).toNatClampNeg)) (xs ((x3 + (2 : Int32)).toNatClampNeg))) (fun (s8 : AS) (v7 : Int32) => if v3 = v7 then (J s8) else (some (s8, (0 : Int32)))))))))
set_option maxHeartbeats 4000000 in
set_option maxRecDepth 100000 in
theorem tLc37 {l : Launch} {d : Nat} {xs : Nat → Int32} {L : Nat} {X : Nat → AL → List AV → AS → Prop} (hX : am_cloL kLaw.flatten xs L (am_Ct l (d + 199)) X) {J : AS → Option (AS × Int32)} {sE : AS} {x3 : Int32} (hJ : ∀ s, J s = some (sE, 1) → X 2120 [(0, .inr (.inr ((28, 0, 0), 237))), (1, .inr (.inr ((9, 0, 0), 0))), (2, .inr (.inr ((10, 0, 0), 215))), (3, .inl x3)] [] s) (s0 : AS) (hf : fLc37 xs L J s0 x3 = some (sE, 1)) : X 1199 [(0, .inr (.inr ((28, 0, 0), 237))), (1, .inr (.inr ((9, 0, 0), 0))), (2, .inr (.inr ((10, 0, 0), 215))), (3, .inl x3)] [] s0 := by
  unfold fLc37 at hf
  obtain ⟨g1, hf⟩ := am_g_of hf
  obtain ⟨g2, hf⟩ := am_g_of hf
  obtain ⟨s4, v3, hcv3, hf⟩ := am_c_of hf
  obtain ⟨g5, hf⟩ := am_g_of hf
  obtain ⟨g6, hf⟩ := am_g_of hf
  obtain ⟨s8, v7, hcv7, hf⟩ := am_c_of hf
  refine am_blkL hX ikLc37 0 25 (And.intro rfl (And.intro rfl (And.intro g1 (And.intro rfl (And.intro rfl (And.intro g2 (And.intro rfl (And.intro rfl (Exists.intro s4 (Exists.intro (some (.inl v3)) (And.intro (tX8_trap l (d + 193) hcv3) (And.intro rfl (And.intro rfl (And.intro g5 (And.intro rfl (And.intro rfl (And.intro g6 (And.intro rfl (And.intro rfl (Exists.intro s8 (Exists.intro (some (.inl v7)) (And.intro (tX9_trap l (d + 194) hcv7) (And.intro (fun hb => ?_) (fun hb => ?_))))))))))))))))))))))))
  · have hf := am_it hf hb
    show X 2120 [(0, .inr (.inr ((28, 0, 0), 237))), (1, .inr (.inr ((9, 0, 0), 0))), (2, .inr (.inr ((10, 0, 0), 215))), (3, .inl x3)] [] s8
    exact am_wkL hX [0, 1, 2, 3] (hJ s8 hf)
  · have hf := am_if hf hb
    show X 1230 [(0, .inr (.inr ((28, 0, 0), 237))), (1, .inr (.inr ((9, 0, 0), 0))), (2, .inr (.inr ((10, 0, 0), 215))), (3, .inl x3)] [] s8
    exact am_l0 hf
def fLc38 (xs : Nat → Int32) (L : Nat) (J : AS → Option (AS × Int32)) (s0 : AS) (x3 : Int32) : Option (AS × Int32) :=
  am_g (¬ ((x3 + (1 : Int32)) < 0 ∨ L ≤ (x3 + (1 : Int32)).toNatClampNeg)) (am_c (fX8_stop s0 (xs ((x3 + (1 : Int32)).toNatClampNeg))) (fun (s3 : AS) (v2 : Int32) => am_g (¬ ((x3 + (1 : Int32)) < 0 ∨ L ≤ (x3 + (1 : Int32)).toNatClampNeg)) (am_c (fX9_stop s3 (xs ((x3 + (1 : Int32)).toNatClampNeg))) (fun (s6 : AS) (v5 : Int32) => if v2 = v5 then (J s6) else (some (s6, (0 : Int32)))))))
set_option maxHeartbeats 4000000 in
set_option maxRecDepth 100000 in
theorem tLc38 {l : Launch} {d : Nat} {xs : Nat → Int32} {L : Nat} {X : Nat → AL → List AV → AS → Prop} (hX : am_cloL kLaw.flatten xs L (am_Ct l (d + 199)) X) {J : AS → Option (AS × Int32)} {sE : AS} {x3 : Int32} (hJ : ∀ s, J s = some (sE, 1) → X 2120 [(0, .inr (.inr ((28, 0, 0), 237))), (1, .inr (.inr ((9, 0, 0), 0))), (2, .inr (.inr ((10, 0, 0), 215))), (3, .inl x3)] [] s) (s0 : AS) (hf : fLc38 xs L J s0 x3 = some (sE, 1)) : X 1232 [(0, .inr (.inr ((28, 0, 0), 237))), (1, .inr (.inr ((9, 0, 0), 0))), (2, .inr (.inr ((10, 0, 0), 215))), (3, .inl x3)] [] s0 := by
  unfold fLc38 at hf
  obtain ⟨g1, hf⟩ := am_g_of hf
  obtain ⟨s3, v2, hcv2, hf⟩ := am_c_of hf
  obtain ⟨g4, hf⟩ := am_g_of hf
  obtain ⟨s6, v5, hcv5, hf⟩ := am_c_of hf
  refine am_blkL hX ikLc38 0 15 (And.intro rfl (And.intro rfl (And.intro g1 (And.intro rfl (And.intro rfl (Exists.intro s3 (Exists.intro (some (.inl v2)) (And.intro (tX8_stop l (d + 192) hcv2) (And.intro rfl (And.intro rfl (And.intro g4 (And.intro rfl (And.intro rfl (Exists.intro s6 (Exists.intro (some (.inl v5)) (And.intro (tX9_stop l (d + 193) hcv5) (And.intro (fun hb => ?_) (fun hb => ?_))))))))))))))))))
  · have hf := am_it hf hb
    show X 2120 [(0, .inr (.inr ((28, 0, 0), 237))), (1, .inr (.inr ((9, 0, 0), 0))), (2, .inr (.inr ((10, 0, 0), 215))), (3, .inl x3)] [] s6
    exact am_wkL hX [0, 1, 2, 3] (hJ s6 hf)
  · have hf := am_if hf hb
    show X 1253 [(0, .inr (.inr ((28, 0, 0), 237))), (1, .inr (.inr ((9, 0, 0), 0))), (2, .inr (.inr ((10, 0, 0), 215))), (3, .inl x3)] [] s6
    exact am_l0 hf
def fLc39 (xs : Nat → Int32) (L : Nat) (J : AS → Option (AS × Int32)) (s0 : AS) (x3 : Int32) : Option (AS × Int32) :=
  am_g (¬ ((x3 + (1 : Int32)) < 0 ∨ L ≤ (x3 + (1 : Int32)).toNatClampNeg)) (am_c (fX8_stops s0 (xs ((x3 + (1 : Int32)).toNatClampNeg))) (fun (s3 : AS) (v2 : Int32) => am_g (¬ ((x3 + (1 : Int32)) < 0 ∨ L ≤ (x3 + (1 : Int32)).toNatClampNeg)) (am_c (fX9_stops s3 (xs ((x3 + (1 : Int32)).toNatClampNeg))) (fun (s6 : AS) (v5 : Int32) => if v2 = v5 then (J s6) else (some (s6, (0 : Int32)))))))
set_option maxHeartbeats 4000000 in
set_option maxRecDepth 100000 in
theorem tLc39 {l : Launch} {d : Nat} {xs : Nat → Int32} {L : Nat} {X : Nat → AL → List AV → AS → Prop} (hX : am_cloL kLaw.flatten xs L (am_Ct l (d + 199)) X) {J : AS → Option (AS × Int32)} {sE : AS} {x3 : Int32} (hJ : ∀ s, J s = some (sE, 1) → X 2120 [(0, .inr (.inr ((28, 0, 0), 237))), (1, .inr (.inr ((9, 0, 0), 0))), (2, .inr (.inr ((10, 0, 0), 215))), (3, .inl x3)] [] s) (s0 : AS) (hf : fLc39 xs L J s0 x3 = some (sE, 1)) : X 1255 [(0, .inr (.inr ((28, 0, 0), 237))), (1, .inr (.inr ((9, 0, 0), 0))), (2, .inr (.inr ((10, 0, 0), 215))), (3, .inl x3)] [] s0 := by
  unfold fLc39 at hf
  obtain ⟨g1, hf⟩ := am_g_of hf
  obtain ⟨s3, v2, hcv2, hf⟩ := am_c_of hf
  obtain ⟨g4, hf⟩ := am_g_of hf
  obtain ⟨s6, v5, hcv5, hf⟩ := am_c_of hf
  refine am_blkL hX ikLc39 0 15 (And.intro rfl (And.intro rfl (And.intro g1 (And.intro rfl (And.intro rfl (Exists.intro s3 (Exists.intro (some (.inl v2)) (And.intro (tX8_stops l (d + 192) hcv2) (And.intro rfl (And.intro rfl (And.intro g4 (And.intro rfl (And.intro rfl (Exists.intro s6 (Exists.intro (some (.inl v5)) (And.intro (tX9_stops l (d + 193) hcv5) (And.intro (fun hb => ?_) (fun hb => ?_))))))))))))))))))
  · have hf := am_it hf hb
    show X 2120 [(0, .inr (.inr ((28, 0, 0), 237))), (1, .inr (.inr ((9, 0, 0), 0))), (2, .inr (.inr ((10, 0, 0), 215))), (3, .inl x3)] [] s6
    exact am_wkL hX [0, 1, 2, 3] (hJ s6 hf)
  · have hf := am_if hf hb
    show X 1276 [(0, .inr (.inr ((28, 0, 0), 237))), (1, .inr (.inr ((9, 0, 0), 0))), (2, .inr (.inr ((10, 0, 0), 215))), (3, .inl x3)] [] s6
    exact am_l0 hf
def fLc40 (xs : Nat → Int32) (L : Nat) (J : AS → Option (AS × Int32)) (s0 : AS) (x3 : Int32) : Option (AS × Int32) :=
  am_c (fX8_soonest s0) (fun (s2 : AS) (v1 : Int32) => am_c (fX9_soonest s2) (fun (s4 : AS) (v3 : Int32) => if v1 = v3 then (J s4) else (some (s4, (0 : Int32)))))
set_option maxHeartbeats 4000000 in
set_option maxRecDepth 100000 in
theorem tLc40 {l : Launch} {d : Nat} {xs : Nat → Int32} {L : Nat} {X : Nat → AL → List AV → AS → Prop} (hX : am_cloL kLaw.flatten xs L (am_Ct l (d + 199)) X) {J : AS → Option (AS × Int32)} {sE : AS} {x3 : Int32} (hJ : ∀ s, J s = some (sE, 1) → X 2120 [(0, .inr (.inr ((28, 0, 0), 237))), (1, .inr (.inr ((9, 0, 0), 0))), (2, .inr (.inr ((10, 0, 0), 215))), (3, .inl x3)] [] s) (s0 : AS) (hf : fLc40 xs L J s0 x3 = some (sE, 1)) : X 1278 [(0, .inr (.inr ((28, 0, 0), 237))), (1, .inr (.inr ((9, 0, 0), 0))), (2, .inr (.inr ((10, 0, 0), 215))), (3, .inl x3)] [] s0 := by
  unfold fLc40 at hf
  obtain ⟨s2, v1, hcv1, hf⟩ := am_c_of hf
  obtain ⟨s4, v3, hcv3, hf⟩ := am_c_of hf
  refine am_blkL hX ikLc40 0 5 (And.intro rfl (And.intro rfl (Exists.intro s2 (Exists.intro (some (.inl v1)) (And.intro (tX8_soonest l (d + 192) hcv1) (And.intro rfl (And.intro rfl (Exists.intro s4 (Exists.intro (some (.inl v3)) (And.intro (tX9_soonest l (d + 193) hcv3) (And.intro (fun hb => ?_) (fun hb => ?_))))))))))))
  · have hf := am_it hf hb
    show X 2120 [(0, .inr (.inr ((28, 0, 0), 237))), (1, .inr (.inr ((9, 0, 0), 0))), (2, .inr (.inr ((10, 0, 0), 215))), (3, .inl x3)] [] s4
    exact am_wkL hX [0, 1, 2, 3] (hJ s4 hf)
  · have hf := am_if hf hb
    show X 1289 [(0, .inr (.inr ((28, 0, 0), 237))), (1, .inr (.inr ((9, 0, 0), 0))), (2, .inr (.inr ((10, 0, 0), 215))), (3, .inl x3)] [] s4
    exact am_l0 hf
def fLc41 (xs : Nat → Int32) (L : Nat) (J : AS → Option (AS × Int32)) (s0 : AS) (x3 : Int32) : Option (AS × Int32) :=
  am_c (fX8_ends s0) (fun (s2 : AS) (v1 : Int32) => am_c (fX9_ends s2) (fun (s4 : AS) (v3 : Int32) => if v1 = v3 then (J s4) else (some (s4, (0 : Int32)))))
set_option maxHeartbeats 4000000 in
set_option maxRecDepth 100000 in
theorem tLc41 {l : Launch} {d : Nat} {xs : Nat → Int32} {L : Nat} {X : Nat → AL → List AV → AS → Prop} (hX : am_cloL kLaw.flatten xs L (am_Ct l (d + 199)) X) {J : AS → Option (AS × Int32)} {sE : AS} {x3 : Int32} (hJ : ∀ s, J s = some (sE, 1) → X 2120 [(0, .inr (.inr ((28, 0, 0), 237))), (1, .inr (.inr ((9, 0, 0), 0))), (2, .inr (.inr ((10, 0, 0), 215))), (3, .inl x3)] [] s) (s0 : AS) (hf : fLc41 xs L J s0 x3 = some (sE, 1)) : X 1291 [(0, .inr (.inr ((28, 0, 0), 237))), (1, .inr (.inr ((9, 0, 0), 0))), (2, .inr (.inr ((10, 0, 0), 215))), (3, .inl x3)] [] s0 := by
  unfold fLc41 at hf
  obtain ⟨s2, v1, hcv1, hf⟩ := am_c_of hf
  obtain ⟨s4, v3, hcv3, hf⟩ := am_c_of hf
  refine am_blkL hX ikLc41 0 5 (And.intro rfl (And.intro rfl (Exists.intro s2 (Exists.intro (some (.inl v1)) (And.intro (tX8_ends l (d + 192) hcv1) (And.intro rfl (And.intro rfl (Exists.intro s4 (Exists.intro (some (.inl v3)) (And.intro (tX9_ends l (d + 193) hcv3) (And.intro (fun hb => ?_) (fun hb => ?_))))))))))))
  · have hf := am_it hf hb
    show X 2120 [(0, .inr (.inr ((28, 0, 0), 237))), (1, .inr (.inr ((9, 0, 0), 0))), (2, .inr (.inr ((10, 0, 0), 215))), (3, .inl x3)] [] s4
    exact am_wkL hX [0, 1, 2, 3] (hJ s4 hf)
  · have hf := am_if hf hb
    show X 1302 [(0, .inr (.inr ((28, 0, 0), 237))), (1, .inr (.inr ((9, 0, 0), 0))), (2, .inr (.inr ((10, 0, 0), 215))), (3, .inl x3)] [] s4
    exact am_l0 hf
def fLc42 (xs : Nat → Int32) (L : Nat) (J : AS → Option (AS × Int32)) (s0 : AS) (x3 : Int32) : Option (AS × Int32) :=
  am_g (¬ ((x3 + (1 : Int32)) < 0 ∨ L ≤ (x3 + (1 : Int32)).toNatClampNeg)) (am_r (fX8_content s0 (xs ((x3 + (1 : Int32)).toNatClampNeg))) (fun (v2 : Int32) => am_g (¬ ((x3 + (1 : Int32)) < 0 ∨ L ≤ (x3 + (1 : Int32)).toNatClampNeg)) (am_c (fX9_content s0 (xs ((x3 + (1 : Int32)).toNatClampNeg))) (fun (s5 : AS) (v4 : Int32) => if v2 = v4 then (J s5) else (some (s5, (0 : Int32)))))))
set_option maxHeartbeats 4000000 in
set_option maxRecDepth 100000 in
theorem tLc42 {l : Launch} {d : Nat} {xs : Nat → Int32} {L : Nat} {X : Nat → AL → List AV → AS → Prop} (hX : am_cloL kLaw.flatten xs L (am_Ct l (d + 199)) X) {J : AS → Option (AS × Int32)} {sE : AS} {x3 : Int32} (hJ : ∀ s, J s = some (sE, 1) → X 2120 [(0, .inr (.inr ((28, 0, 0), 237))), (1, .inr (.inr ((9, 0, 0), 0))), (2, .inr (.inr ((10, 0, 0), 215))), (3, .inl x3)] [] s) (s0 : AS) (hf : fLc42 xs L J s0 x3 = some (sE, 1)) : X 1304 [(0, .inr (.inr ((28, 0, 0), 237))), (1, .inr (.inr ((9, 0, 0), 0))), (2, .inr (.inr ((10, 0, 0), 215))), (3, .inl x3)] [] s0 := by
  unfold fLc42 at hf
  obtain ⟨g1, hf⟩ := am_g_of hf
  obtain ⟨v2, hcv2, hf⟩ := am_r_of hf
  obtain ⟨g3, hf⟩ := am_g_of hf
  obtain ⟨s5, v4, hcv4, hf⟩ := am_c_of hf
  refine am_blkL hX ikLc42 0 15 (And.intro rfl (And.intro rfl (And.intro g1 (And.intro rfl (And.intro rfl (Exists.intro s0 (Exists.intro (some (.inl v2)) (And.intro (tX8_content l (d + 196) hcv2) (And.intro rfl (And.intro rfl (And.intro g3 (And.intro rfl (And.intro rfl (Exists.intro s5 (Exists.intro (some (.inl v4)) (And.intro (tX9_content l (d + 196) hcv4) (And.intro (fun hb => ?_) (fun hb => ?_))))))))))))))))))
  · have hf := am_it hf hb
    show X 2120 [(0, .inr (.inr ((28, 0, 0), 237))), (1, .inr (.inr ((9, 0, 0), 0))), (2, .inr (.inr ((10, 0, 0), 215))), (3, .inl x3)] [] s5
    exact am_wkL hX [0, 1, 2, 3] (hJ s5 hf)
  · have hf := am_if hf hb
    show X 1325 [(0, .inr (.inr ((28, 0, 0), 237))), (1, .inr (.inr ((9, 0, 0), 0))), (2, .inr (.inr ((10, 0, 0), 215))), (3, .inl x3)] [] s5
    exact am_l0 hf
def fLc43 (xs : Nat → Int32) (L : Nat) (J : AS → Option (AS × Int32)) (s0 : AS) (x3 : Int32) : Option (AS × Int32) :=
  am_g (¬ ((x3 + (1 : Int32)) < 0 ∨ L ≤ (x3 + (1 : Int32)).toNatClampNeg)) (am_r (fX8_buys s0 (xs ((x3 + (1 : Int32)).toNatClampNeg))) (fun (v2 : Int32) => am_g (¬ ((x3 + (1 : Int32)) < 0 ∨ L ≤ (x3 + (1 : Int32)).toNatClampNeg)) (am_c (fX9_buys s0 (xs ((x3 + (1 : Int32)).toNatClampNeg))) (fun (s5 : AS) (v4 : Int32) => if v2 = v4 then (J s5) else (some (s5, (0 : Int32)))))))
set_option maxHeartbeats 4000000 in
set_option maxRecDepth 100000 in
theorem tLc43 {l : Launch} {d : Nat} {xs : Nat → Int32} {L : Nat} {X : Nat → AL → List AV → AS → Prop} (hX : am_cloL kLaw.flatten xs L (am_Ct l (d + 199)) X) {J : AS → Option (AS × Int32)} {sE : AS} {x3 : Int32} (hJ : ∀ s, J s = some (sE, 1) → X 2120 [(0, .inr (.inr ((28, 0, 0), 237))), (1, .inr (.inr ((9, 0, 0), 0))), (2, .inr (.inr ((10, 0, 0), 215))), (3, .inl x3)] [] s) (s0 : AS) (hf : fLc43 xs L J s0 x3 = some (sE, 1)) : X 1327 [(0, .inr (.inr ((28, 0, 0), 237))), (1, .inr (.inr ((9, 0, 0), 0))), (2, .inr (.inr ((10, 0, 0), 215))), (3, .inl x3)] [] s0 := by
  unfold fLc43 at hf
  obtain ⟨g1, hf⟩ := am_g_of hf
  obtain ⟨v2, hcv2, hf⟩ := am_r_of hf
  obtain ⟨g3, hf⟩ := am_g_of hf
  obtain ⟨s5, v4, hcv4, hf⟩ := am_c_of hf
  refine am_blkL hX ikLc43 0 15 (And.intro rfl (And.intro rfl (And.intro g1 (And.intro rfl (And.intro rfl (Exists.intro s0 (Exists.intro (some (.inl v2)) (And.intro (tX8_buys l (d + 196) hcv2) (And.intro rfl (And.intro rfl (And.intro g3 (And.intro rfl (And.intro rfl (Exists.intro s5 (Exists.intro (some (.inl v4)) (And.intro (tX9_buys l (d + 196) hcv4) (And.intro (fun hb => ?_) (fun hb => ?_))))))))))))))))))
  · have hf := am_it hf hb
    show X 2120 [(0, .inr (.inr ((28, 0, 0), 237))), (1, .inr (.inr ((9, 0, 0), 0))), (2, .inr (.inr ((10, 0, 0), 215))), (3, .inl x3)] [] s5
    exact am_wkL hX [0, 1, 2, 3] (hJ s5 hf)
  · have hf := am_if hf hb
    show X 1348 [(0, .inr (.inr ((28, 0, 0), 237))), (1, .inr (.inr ((9, 0, 0), 0))), (2, .inr (.inr ((10, 0, 0), 215))), (3, .inl x3)] [] s5
    exact am_l0 hf
def fLc44 (xs : Nat → Int32) (L : Nat) (J : AS → Option (AS × Int32)) (s0 : AS) (x3 : Int32) : Option (AS × Int32) :=
  am_g (¬ ((x3 + (1 : Int32)) < 0 ∨ L ≤ (x3 + (1 : Int32)).toNatClampNeg)) (am_c (fX8_shut s0 (xs ((x3 + (1 : Int32)).toNatClampNeg))) (fun (s3 : AS) (v2 : Int32) => am_g (¬ ((x3 + (1 : Int32)) < 0 ∨ L ≤ (x3 + (1 : Int32)).toNatClampNeg)) (am_c (fX9_shut s3 (xs ((x3 + (1 : Int32)).toNatClampNeg))) (fun (s6 : AS) (v5 : Int32) => if v2 = v5 then (J s6) else (some (s6, (0 : Int32)))))))
set_option maxHeartbeats 4000000 in
set_option maxRecDepth 100000 in
theorem tLc44 {l : Launch} {d : Nat} {xs : Nat → Int32} {L : Nat} {X : Nat → AL → List AV → AS → Prop} (hX : am_cloL kLaw.flatten xs L (am_Ct l (d + 199)) X) {J : AS → Option (AS × Int32)} {sE : AS} {x3 : Int32} (hJ : ∀ s, J s = some (sE, 1) → X 2120 [(0, .inr (.inr ((28, 0, 0), 237))), (1, .inr (.inr ((9, 0, 0), 0))), (2, .inr (.inr ((10, 0, 0), 215))), (3, .inl x3)] [] s) (s0 : AS) (hf : fLc44 xs L J s0 x3 = some (sE, 1)) : X 1350 [(0, .inr (.inr ((28, 0, 0), 237))), (1, .inr (.inr ((9, 0, 0), 0))), (2, .inr (.inr ((10, 0, 0), 215))), (3, .inl x3)] [] s0 := by
  unfold fLc44 at hf
  obtain ⟨g1, hf⟩ := am_g_of hf
  obtain ⟨s3, v2, hcv2, hf⟩ := am_c_of hf
  obtain ⟨g4, hf⟩ := am_g_of hf
  obtain ⟨s6, v5, hcv5, hf⟩ := am_c_of hf
  refine am_blkL hX ikLc44 0 15 (And.intro rfl (And.intro rfl (And.intro g1 (And.intro rfl (And.intro rfl (Exists.intro s3 (Exists.intro (some (.inl v2)) (And.intro (tX8_shut l (d + 192) hcv2) (And.intro rfl (And.intro rfl (And.intro g4 (And.intro rfl (And.intro rfl (Exists.intro s6 (Exists.intro (some (.inl v5)) (And.intro (tX9_shut l (d + 193) hcv5) (And.intro (fun hb => ?_) (fun hb => ?_))))))))))))))))))
  · have hf := am_it hf hb
    show X 2120 [(0, .inr (.inr ((28, 0, 0), 237))), (1, .inr (.inr ((9, 0, 0), 0))), (2, .inr (.inr ((10, 0, 0), 215))), (3, .inl x3)] [] s6
    exact am_wkL hX [0, 1, 2, 3] (hJ s6 hf)
  · have hf := am_if hf hb
    show X 1371 [(0, .inr (.inr ((28, 0, 0), 237))), (1, .inr (.inr ((9, 0, 0), 0))), (2, .inr (.inr ((10, 0, 0), 215))), (3, .inl x3)] [] s6
    exact am_l0 hf
def fLc45 (xs : Nat → Int32) (L : Nat) (J : AS → Option (AS × Int32)) (s0 : AS) (x3 : Int32) : Option (AS × Int32) :=
  am_g (¬ ((x3 + (1 : Int32)) < 0 ∨ L ≤ (x3 + (1 : Int32)).toNatClampNeg)) (am_c (fX8_shuts s0 (xs ((x3 + (1 : Int32)).toNatClampNeg))) (fun (s3 : AS) (v2 : Int32) => am_g (¬ ((x3 + (1 : Int32)) < 0 ∨ L ≤ (x3 + (1 : Int32)).toNatClampNeg)) (am_c (fX9_shuts s3 (xs ((x3 + (1 : Int32)).toNatClampNeg))) (fun (s6 : AS) (v5 : Int32) => if v2 = v5 then (J s6) else (some (s6, (0 : Int32)))))))
set_option maxHeartbeats 4000000 in
set_option maxRecDepth 100000 in
theorem tLc45 {l : Launch} {d : Nat} {xs : Nat → Int32} {L : Nat} {X : Nat → AL → List AV → AS → Prop} (hX : am_cloL kLaw.flatten xs L (am_Ct l (d + 199)) X) {J : AS → Option (AS × Int32)} {sE : AS} {x3 : Int32} (hJ : ∀ s, J s = some (sE, 1) → X 2120 [(0, .inr (.inr ((28, 0, 0), 237))), (1, .inr (.inr ((9, 0, 0), 0))), (2, .inr (.inr ((10, 0, 0), 215))), (3, .inl x3)] [] s) (s0 : AS) (hf : fLc45 xs L J s0 x3 = some (sE, 1)) : X 1373 [(0, .inr (.inr ((28, 0, 0), 237))), (1, .inr (.inr ((9, 0, 0), 0))), (2, .inr (.inr ((10, 0, 0), 215))), (3, .inl x3)] [] s0 := by
  unfold fLc45 at hf
  obtain ⟨g1, hf⟩ := am_g_of hf
  obtain ⟨s3, v2, hcv2, hf⟩ := am_c_of hf
  obtain ⟨g4, hf⟩ := am_g_of hf
  obtain ⟨s6, v5, hcv5, hf⟩ := am_c_of hf
  refine am_blkL hX ikLc45 0 15 (And.intro rfl (And.intro rfl (And.intro g1 (And.intro rfl (And.intro rfl (Exists.intro s3 (Exists.intro (some (.inl v2)) (And.intro (tX8_shuts l (d + 192) hcv2) (And.intro rfl (And.intro rfl (And.intro g4 (And.intro rfl (And.intro rfl (Exists.intro s6 (Exists.intro (some (.inl v5)) (And.intro (tX9_shuts l (d + 193) hcv5) (And.intro (fun hb => ?_) (fun hb => ?_))))))))))))))))))
  · have hf := am_it hf hb
    show X 2120 [(0, .inr (.inr ((28, 0, 0), 237))), (1, .inr (.inr ((9, 0, 0), 0))), (2, .inr (.inr ((10, 0, 0), 215))), (3, .inl x3)] [] s6
    exact am_wkL hX [0, 1, 2, 3] (hJ s6 hf)
  · have hf := am_if hf hb
    show X 1394 [(0, .inr (.inr ((28, 0, 0), 237))), (1, .inr (.inr ((9, 0, 0), 0))), (2, .inr (.inr ((10, 0, 0), 215))), (3, .inl x3)] [] s6
    exact am_l0 hf
def fLc46 (xs : Nat → Int32) (L : Nat) (J : AS → Option (AS × Int32)) (s0 : AS) (x3 : Int32) : Option (AS × Int32) :=
  am_g (¬ ((x3 + (1 : Int32)) < 0 ∨ L ≤ (x3 + (1 : Int32)).toNatClampNeg)) (am_g (¬ ((x3 + (2 : Int32)) < 0 ∨ L ≤ (x3 + (2 : Int32)).toNatClampNeg)) (am_r (fX8_cut s0 (xs ((x3 + (1 : Int32)).toNatClampNeg)) (xs ((x3 + (2 : Int32)).toNatClampNeg))) (fun (v3 : Int32) => am_g (¬ ((x3 + (1 : Int32)) < 0 ∨ L ≤ (x3 + (1 : Int32)).toNatClampNeg)) (am_g (¬ ((x3 + (2 : Int32)) < 0 ∨ L ≤ (x3 + (2 : Int32)).toNatClampNeg)) (am_c (fX9_cut_ s0 (xs ((x3 + (1 : Int32)).toNatClampNeg)) (xs ((x3 + (2 : Int32)).toNatClampNeg))) (fun (s7 : AS) (v6 : Int32) => if v3 = v6 then (J s7) else (some (s7, (0 : Int32)))))))))
set_option maxHeartbeats 4000000 in
set_option maxRecDepth 100000 in
theorem tLc46 {l : Launch} {d : Nat} {xs : Nat → Int32} {L : Nat} {X : Nat → AL → List AV → AS → Prop} (hX : am_cloL kLaw.flatten xs L (am_Ct l (d + 199)) X) {J : AS → Option (AS × Int32)} {sE : AS} {x3 : Int32} (hJ : ∀ s, J s = some (sE, 1) → X 2120 [(0, .inr (.inr ((28, 0, 0), 237))), (1, .inr (.inr ((9, 0, 0), 0))), (2, .inr (.inr ((10, 0, 0), 215))), (3, .inl x3)] [] s) (s0 : AS) (hf : fLc46 xs L J s0 x3 = some (sE, 1)) : X 1396 [(0, .inr (.inr ((28, 0, 0), 237))), (1, .inr (.inr ((9, 0, 0), 0))), (2, .inr (.inr ((10, 0, 0), 215))), (3, .inl x3)] [] s0 := by
  unfold fLc46 at hf
  obtain ⟨g1, hf⟩ := am_g_of hf
  obtain ⟨g2, hf⟩ := am_g_of hf
  obtain ⟨v3, hcv3, hf⟩ := am_r_of hf
  obtain ⟨g4, hf⟩ := am_g_of hf
  obtain ⟨g5, hf⟩ := am_g_of hf
  obtain ⟨s7, v6, hcv6, hf⟩ := am_c_of hf
  refine am_blkL hX ikLc46 0 25 (And.intro rfl (And.intro rfl (And.intro g1 (And.intro rfl (And.intro rfl (And.intro g2 (And.intro rfl (And.intro rfl (Exists.intro s0 (Exists.intro (some (.inl v3)) (And.intro (tX8_cut l (d + 196) hcv3) (And.intro rfl (And.intro rfl (And.intro g4 (And.intro rfl (And.intro rfl (And.intro g5 (And.intro rfl (And.intro rfl (Exists.intro s7 (Exists.intro (some (.inl v6)) (And.intro (tX9_cut_ l (d + 195) hcv6) (And.intro (fun hb => ?_) (fun hb => ?_))))))))))))))))))))))))
  · have hf := am_it hf hb
    show X 2120 [(0, .inr (.inr ((28, 0, 0), 237))), (1, .inr (.inr ((9, 0, 0), 0))), (2, .inr (.inr ((10, 0, 0), 215))), (3, .inl x3)] [] s7
    exact am_wkL hX [0, 1, 2, 3] (hJ s7 hf)
  · have hf := am_if hf hb
    show X 1427 [(0, .inr (.inr ((28, 0, 0), 237))), (1, .inr (.inr ((9, 0, 0), 0))), (2, .inr (.inr ((10, 0, 0), 215))), (3, .inl x3)] [] s7
    exact am_l0 hf
def fLc47 (xs : Nat → Int32) (L : Nat) (J : AS → Option (AS × Int32)) (s0 : AS) (x3 : Int32) : Option (AS × Int32) :=
  am_g (¬ ((x3 + (1 : Int32)) < 0 ∨ L ≤ (x3 + (1 : Int32)).toNatClampNeg)) (am_c (fX8_starts s0 (xs ((x3 + (1 : Int32)).toNatClampNeg))) (fun (s3 : AS) (v2 : Int32) => am_g (¬ ((x3 + (1 : Int32)) < 0 ∨ L ≤ (x3 + (1 : Int32)).toNatClampNeg)) (am_c (fX9_starts s3 (xs ((x3 + (1 : Int32)).toNatClampNeg))) (fun (s6 : AS) (v5 : Int32) => if v2 = v5 then (J s6) else (some (s6, (0 : Int32)))))))
set_option maxHeartbeats 4000000 in
set_option maxRecDepth 100000 in
theorem tLc47 {l : Launch} {d : Nat} {xs : Nat → Int32} {L : Nat} {X : Nat → AL → List AV → AS → Prop} (hX : am_cloL kLaw.flatten xs L (am_Ct l (d + 199)) X) {J : AS → Option (AS × Int32)} {sE : AS} {x3 : Int32} (hJ : ∀ s, J s = some (sE, 1) → X 2120 [(0, .inr (.inr ((28, 0, 0), 237))), (1, .inr (.inr ((9, 0, 0), 0))), (2, .inr (.inr ((10, 0, 0), 215))), (3, .inl x3)] [] s) (s0 : AS) (hf : fLc47 xs L J s0 x3 = some (sE, 1)) : X 1429 [(0, .inr (.inr ((28, 0, 0), 237))), (1, .inr (.inr ((9, 0, 0), 0))), (2, .inr (.inr ((10, 0, 0), 215))), (3, .inl x3)] [] s0 := by
  unfold fLc47 at hf
  obtain ⟨g1, hf⟩ := am_g_of hf
  obtain ⟨s3, v2, hcv2, hf⟩ := am_c_of hf
  obtain ⟨g4, hf⟩ := am_g_of hf
  obtain ⟨s6, v5, hcv5, hf⟩ := am_c_of hf
  refine am_blkL hX ikLc47 0 15 (And.intro rfl (And.intro rfl (And.intro g1 (And.intro rfl (And.intro rfl (Exists.intro s3 (Exists.intro (some (.inl v2)) (And.intro (tX8_starts l (d + 192) hcv2) (And.intro rfl (And.intro rfl (And.intro g4 (And.intro rfl (And.intro rfl (Exists.intro s6 (Exists.intro (some (.inl v5)) (And.intro (tX9_starts l (d + 193) hcv5) (And.intro (fun hb => ?_) (fun hb => ?_))))))))))))))))))
  · have hf := am_it hf hb
    show X 2120 [(0, .inr (.inr ((28, 0, 0), 237))), (1, .inr (.inr ((9, 0, 0), 0))), (2, .inr (.inr ((10, 0, 0), 215))), (3, .inl x3)] [] s6
    exact am_wkL hX [0, 1, 2, 3] (hJ s6 hf)
  · have hf := am_if hf hb
    show X 1450 [(0, .inr (.inr ((28, 0, 0), 237))), (1, .inr (.inr ((9, 0, 0), 0))), (2, .inr (.inr ((10, 0, 0), 215))), (3, .inl x3)] [] s6
    exact am_l0 hf
def fLc48 (xs : Nat → Int32) (L : Nat) (J : AS → Option (AS × Int32)) (s0 : AS) (x3 : Int32) : Option (AS × Int32) :=
  am_g (¬ ((x3 + (1 : Int32)) < 0 ∨ L ≤ (x3 + (1 : Int32)).toNatClampNeg)) (am_c (fX8_ask s0 (xs ((x3 + (1 : Int32)).toNatClampNeg))) (fun (s3 : AS) (v2 : Int32) => am_g (¬ ((x3 + (1 : Int32)) < 0 ∨ L ≤ (x3 + (1 : Int32)).toNatClampNeg)) (am_c (fX9_ask s3 (xs ((x3 + (1 : Int32)).toNatClampNeg))) (fun (s6 : AS) (v5 : Int32) => if v2 = v5 then (J s6) else (some (s6, (0 : Int32)))))))
set_option maxHeartbeats 4000000 in
set_option maxRecDepth 100000 in
theorem tLc48 {l : Launch} {d : Nat} {xs : Nat → Int32} {L : Nat} {X : Nat → AL → List AV → AS → Prop} (hX : am_cloL kLaw.flatten xs L (am_Ct l (d + 199)) X) {J : AS → Option (AS × Int32)} {sE : AS} {x3 : Int32} (hJ : ∀ s, J s = some (sE, 1) → X 2120 [(0, .inr (.inr ((28, 0, 0), 237))), (1, .inr (.inr ((9, 0, 0), 0))), (2, .inr (.inr ((10, 0, 0), 215))), (3, .inl x3)] [] s) (s0 : AS) (hf : fLc48 xs L J s0 x3 = some (sE, 1)) : X 1452 [(0, .inr (.inr ((28, 0, 0), 237))), (1, .inr (.inr ((9, 0, 0), 0))), (2, .inr (.inr ((10, 0, 0), 215))), (3, .inl x3)] [] s0 := by
  unfold fLc48 at hf
  obtain ⟨g1, hf⟩ := am_g_of hf
  obtain ⟨s3, v2, hcv2, hf⟩ := am_c_of hf
  obtain ⟨g4, hf⟩ := am_g_of hf
  obtain ⟨s6, v5, hcv5, hf⟩ := am_c_of hf
  refine am_blkL hX ikLc48 0 15 (And.intro rfl (And.intro rfl (And.intro g1 (And.intro rfl (And.intro rfl (Exists.intro s3 (Exists.intro (some (.inl v2)) (And.intro (tX8_ask l (d + 192) hcv2) (And.intro rfl (And.intro rfl (And.intro g4 (And.intro rfl (And.intro rfl (Exists.intro s6 (Exists.intro (some (.inl v5)) (And.intro (tX9_ask l (d + 193) hcv5) (And.intro (fun hb => ?_) (fun hb => ?_))))))))))))))))))
  · have hf := am_it hf hb
    show X 2120 [(0, .inr (.inr ((28, 0, 0), 237))), (1, .inr (.inr ((9, 0, 0), 0))), (2, .inr (.inr ((10, 0, 0), 215))), (3, .inl x3)] [] s6
    exact am_wkL hX [0, 1, 2, 3] (hJ s6 hf)
  · have hf := am_if hf hb
    show X 1473 [(0, .inr (.inr ((28, 0, 0), 237))), (1, .inr (.inr ((9, 0, 0), 0))), (2, .inr (.inr ((10, 0, 0), 215))), (3, .inl x3)] [] s6
    exact am_l0 hf
def fLc49 (xs : Nat → Int32) (L : Nat) (J : AS → Option (AS × Int32)) (s0 : AS) (x3 : Int32) : Option (AS × Int32) :=
  am_g (¬ ((x3 + (1 : Int32)) < 0 ∨ L ≤ (x3 + (1 : Int32)).toNatClampNeg)) (am_c (fX8_rules s0 (xs ((x3 + (1 : Int32)).toNatClampNeg))) (fun (s3 : AS) (v2 : Int32) => am_g (¬ ((x3 + (1 : Int32)) < 0 ∨ L ≤ (x3 + (1 : Int32)).toNatClampNeg)) (am_c (fX9_rules s3 (xs ((x3 + (1 : Int32)).toNatClampNeg))) (fun (s6 : AS) (v5 : Int32) => if v2 = v5 then (J s6) else (some (s6, (0 : Int32)))))))
set_option maxHeartbeats 4000000 in
set_option maxRecDepth 100000 in
theorem tLc49 {l : Launch} {d : Nat} {xs : Nat → Int32} {L : Nat} {X : Nat → AL → List AV → AS → Prop} (hX : am_cloL kLaw.flatten xs L (am_Ct l (d + 199)) X) {J : AS → Option (AS × Int32)} {sE : AS} {x3 : Int32} (hJ : ∀ s, J s = some (sE, 1) → X 2120 [(0, .inr (.inr ((28, 0, 0), 237))), (1, .inr (.inr ((9, 0, 0), 0))), (2, .inr (.inr ((10, 0, 0), 215))), (3, .inl x3)] [] s) (s0 : AS) (hf : fLc49 xs L J s0 x3 = some (sE, 1)) : X 1475 [(0, .inr (.inr ((28, 0, 0), 237))), (1, .inr (.inr ((9, 0, 0), 0))), (2, .inr (.inr ((10, 0, 0), 215))), (3, .inl x3)] [] s0 := by
  unfold fLc49 at hf
  obtain ⟨g1, hf⟩ := am_g_of hf
  obtain ⟨s3, v2, hcv2, hf⟩ := am_c_of hf
  obtain ⟨g4, hf⟩ := am_g_of hf
  obtain ⟨s6, v5, hcv5, hf⟩ := am_c_of hf
  refine am_blkL hX ikLc49 0 15 (And.intro rfl (And.intro rfl (And.intro g1 (And.intro rfl (And.intro rfl (Exists.intro s3 (Exists.intro (some (.inl v2)) (And.intro (tX8_rules l (d + 192) hcv2) (And.intro rfl (And.intro rfl (And.intro g4 (And.intro rfl (And.intro rfl (Exists.intro s6 (Exists.intro (some (.inl v5)) (And.intro (tX9_rules l (d + 194) hcv5) (And.intro (fun hb => ?_) (fun hb => ?_))))))))))))))))))
  · have hf := am_it hf hb
    show X 2120 [(0, .inr (.inr ((28, 0, 0), 237))), (1, .inr (.inr ((9, 0, 0), 0))), (2, .inr (.inr ((10, 0, 0), 215))), (3, .inl x3)] [] s6
    exact am_wkL hX [0, 1, 2, 3] (hJ s6 hf)
  · have hf := am_if hf hb
    show X 1496 [(0, .inr (.inr ((28, 0, 0), 237))), (1, .inr (.inr ((9, 0, 0), 0))), (2, .inr (.inr ((10, 0, 0), 215))), (3, .inl x3)] [] s6
    exact am_l0 hf
def fLc50 (xs : Nat → Int32) (L : Nat) (J : AS → Option (AS × Int32)) (s0 : AS) (x3 : Int32) : Option (AS × Int32) :=
  am_g (¬ ((x3 + (1 : Int32)) < 0 ∨ L ≤ (x3 + (1 : Int32)).toNatClampNeg)) (am_g (¬ ((x3 + (2 : Int32)) < 0 ∨ L ≤ (x3 + (2 : Int32)).toNatClampNeg)) (am_c (fX8_shams s0 (xs ((x3 + (1 : Int32)).toNatClampNeg)) (xs ((x3 + (2 : Int32)).toNatClampNeg))) (fun (s4 : AS) (v3 : Int32) => am_g (¬ ((x3 + (1 : Int32)) < 0 ∨ L ≤ (x3 + (1 : Int32)).toNatClampNeg)) (am_g (¬ ((x3 + (2 : Int32)) < 0 ∨ L ≤ (x3 + (2 : Int32)).toNatClampNeg)) (am_c (fX9_shams s4 (xs ((x3 + (1 : Int32)).toNatClampNeg)) (xs ((x3 + (2 : Int32)).toNatClampNeg))) (fun (s8 : AS) (v7 : Int32) => if v3 = v7 then (J s8) else (some (s8, (0 : Int32)))))))))
set_option maxHeartbeats 4000000 in
set_option maxRecDepth 100000 in
theorem tLc50 {l : Launch} {d : Nat} {xs : Nat → Int32} {L : Nat} {X : Nat → AL → List AV → AS → Prop} (hX : am_cloL kLaw.flatten xs L (am_Ct l (d + 199)) X) {J : AS → Option (AS × Int32)} {sE : AS} {x3 : Int32} (hJ : ∀ s, J s = some (sE, 1) → X 2120 [(0, .inr (.inr ((28, 0, 0), 237))), (1, .inr (.inr ((9, 0, 0), 0))), (2, .inr (.inr ((10, 0, 0), 215))), (3, .inl x3)] [] s) (s0 : AS) (hf : fLc50 xs L J s0 x3 = some (sE, 1)) : X 1498 [(0, .inr (.inr ((28, 0, 0), 237))), (1, .inr (.inr ((9, 0, 0), 0))), (2, .inr (.inr ((10, 0, 0), 215))), (3, .inl x3)] [] s0 := by
  unfold fLc50 at hf
  obtain ⟨g1, hf⟩ := am_g_of hf
  obtain ⟨g2, hf⟩ := am_g_of hf
  obtain ⟨s4, v3, hcv3, hf⟩ := am_c_of hf
  obtain ⟨g5, hf⟩ := am_g_of hf
  obtain ⟨g6, hf⟩ := am_g_of hf
  obtain ⟨s8, v7, hcv7, hf⟩ := am_c_of hf
  refine am_blkL hX ikLc50 0 25 (And.intro rfl (And.intro rfl (And.intro g1 (And.intro rfl (And.intro rfl (And.intro g2 (And.intro rfl (And.intro rfl (Exists.intro s4 (Exists.intro (some (.inl v3)) (And.intro (tX8_shams l (d + 192) hcv3) (And.intro rfl (And.intro rfl (And.intro g5 (And.intro rfl (And.intro rfl (And.intro g6 (And.intro rfl (And.intro rfl (Exists.intro s8 (Exists.intro (some (.inl v7)) (And.intro (tX9_shams l (d + 192) hcv7) (And.intro (fun hb => ?_) (fun hb => ?_))))))))))))))))))))))))
  · have hf := am_it hf hb
    show X 2120 [(0, .inr (.inr ((28, 0, 0), 237))), (1, .inr (.inr ((9, 0, 0), 0))), (2, .inr (.inr ((10, 0, 0), 215))), (3, .inl x3)] [] s8
    exact am_wkL hX [0, 1, 2, 3] (hJ s8 hf)
  · have hf := am_if hf hb
    show X 1529 [(0, .inr (.inr ((28, 0, 0), 237))), (1, .inr (.inr ((9, 0, 0), 0))), (2, .inr (.inr ((10, 0, 0), 215))), (3, .inl x3)] [] s8
    exact am_l0 hf
def fLc51 (xs : Nat → Int32) (L : Nat) (J : AS → Option (AS × Int32)) (s0 : AS) (x3 : Int32) : Option (AS × Int32) :=
  am_g (¬ ((x3 + (1 : Int32)) < 0 ∨ L ≤ (x3 + (1 : Int32)).toNatClampNeg)) (am_c (fX8_shammers s0 (xs ((x3 + (1 : Int32)).toNatClampNeg))) (fun (s3 : AS) (v2 : Int32) => am_g (¬ ((x3 + (1 : Int32)) < 0 ∨ L ≤ (x3 + (1 : Int32)).toNatClampNeg)) (am_c (fX9_shammers s3 (xs ((x3 + (1 : Int32)).toNatClampNeg))) (fun (s6 : AS) (v5 : Int32) => if v2 = v5 then (J s6) else (some (s6, (0 : Int32)))))))
set_option maxHeartbeats 4000000 in
set_option maxRecDepth 100000 in
theorem tLc51 {l : Launch} {d : Nat} {xs : Nat → Int32} {L : Nat} {X : Nat → AL → List AV → AS → Prop} (hX : am_cloL kLaw.flatten xs L (am_Ct l (d + 199)) X) {J : AS → Option (AS × Int32)} {sE : AS} {x3 : Int32} (hJ : ∀ s, J s = some (sE, 1) → X 2120 [(0, .inr (.inr ((28, 0, 0), 237))), (1, .inr (.inr ((9, 0, 0), 0))), (2, .inr (.inr ((10, 0, 0), 215))), (3, .inl x3)] [] s) (s0 : AS) (hf : fLc51 xs L J s0 x3 = some (sE, 1)) : X 1531 [(0, .inr (.inr ((28, 0, 0), 237))), (1, .inr (.inr ((9, 0, 0), 0))), (2, .inr (.inr ((10, 0, 0), 215))), (3, .inl x3)] [] s0 := by
  unfold fLc51 at hf
  obtain ⟨g1, hf⟩ := am_g_of hf
  obtain ⟨s3, v2, hcv2, hf⟩ := am_c_of hf
  obtain ⟨g4, hf⟩ := am_g_of hf
  obtain ⟨s6, v5, hcv5, hf⟩ := am_c_of hf
  refine am_blkL hX ikLc51 0 15 (And.intro rfl (And.intro rfl (And.intro g1 (And.intro rfl (And.intro rfl (Exists.intro s3 (Exists.intro (some (.inl v2)) (And.intro (tX8_shammers l (d + 192) hcv2) (And.intro rfl (And.intro rfl (And.intro g4 (And.intro rfl (And.intro rfl (Exists.intro s6 (Exists.intro (some (.inl v5)) (And.intro (tX9_shammers l (d + 192) hcv5) (And.intro (fun hb => ?_) (fun hb => ?_))))))))))))))))))
  · have hf := am_it hf hb
    show X 2120 [(0, .inr (.inr ((28, 0, 0), 237))), (1, .inr (.inr ((9, 0, 0), 0))), (2, .inr (.inr ((10, 0, 0), 215))), (3, .inl x3)] [] s6
    exact am_wkL hX [0, 1, 2, 3] (hJ s6 hf)
  · have hf := am_if hf hb
    show X 1552 [(0, .inr (.inr ((28, 0, 0), 237))), (1, .inr (.inr ((9, 0, 0), 0))), (2, .inr (.inr ((10, 0, 0), 215))), (3, .inl x3)] [] s6
    exact am_l0 hf
def fLc52 (xs : Nat → Int32) (L : Nat) (J : AS → Option (AS × Int32)) (s0 : AS) (x3 : Int32) : Option (AS × Int32) :=
  am_g (¬ ((x3 + (1 : Int32)) < 0 ∨ L ≤ (x3 + (1 : Int32)).toNatClampNeg)) (am_g (¬ ((x3 + (2 : Int32)) < 0 ∨ L ≤ (x3 + (2 : Int32)).toNatClampNeg)) (am_g (¬ ((x3 + (3 : Int32)) < 0 ∨ L ≤ (x3 + (3 : Int32)).toNatClampNeg)) (am_c (fX8_chance s0 (xs ((x3 + (1 : Int32)).toNatClampNeg)) (xs ((x3 + (2 : Int32)).toNatClampNeg)) (xs ((x3 + (3 : Int32)).toNatClampNeg))) (fun (s5 : AS) (v4 : Int64) => am_g (¬ ((x3 + (1 : Int32)) < 0 ∨ L ≤ (x3 + (1 : Int32)).toNatClampNeg)) (am_g (¬ ((x3 + (2 : Int32)) < 0 ∨ L ≤ (x3 + (2 : Int32)).toNatClampNeg)) (am_g (¬ ((x3 + (3 : Int32)) < 0 ∨ L ≤ (x3 + (3 : Int32)).toNatClampNeg)) (am_c (fX9_chance s5 (xs ((x3 + (1 : Int32)).toNatClampNeg)) (xs ((x3 + (2 : Int32)).toNatClampNeg)) (xs ((x3 + (3 : Int32)).toNatClampNeg))) (fun (s10 : AS) (v9 : Int64) => if (lg_cmp v4 v9) = 0 then (J s10) else (some (s10, (0 : Int32)))))))))))
set_option maxHeartbeats 4000000 in
set_option maxRecDepth 100000 in
theorem tLc52 {l : Launch} {d : Nat} {xs : Nat → Int32} {L : Nat} {X : Nat → AL → List AV → AS → Prop} (hX : am_cloL kLaw.flatten xs L (am_Ct l (d + 199)) X) {J : AS → Option (AS × Int32)} {sE : AS} {x3 : Int32} (hJ : ∀ s, J s = some (sE, 1) → X 2120 [(0, .inr (.inr ((28, 0, 0), 237))), (1, .inr (.inr ((9, 0, 0), 0))), (2, .inr (.inr ((10, 0, 0), 215))), (3, .inl x3)] [] s) (s0 : AS) (hf : fLc52 xs L J s0 x3 = some (sE, 1)) : X 1554 [(0, .inr (.inr ((28, 0, 0), 237))), (1, .inr (.inr ((9, 0, 0), 0))), (2, .inr (.inr ((10, 0, 0), 215))), (3, .inl x3)] [] s0 := by
  unfold fLc52 at hf
  obtain ⟨g1, hf⟩ := am_g_of hf
  obtain ⟨g2, hf⟩ := am_g_of hf
  obtain ⟨g3, hf⟩ := am_g_of hf
  obtain ⟨s5, v4, hcv4, hf⟩ := am_c_of hf
  obtain ⟨g6, hf⟩ := am_g_of hf
  obtain ⟨g7, hf⟩ := am_g_of hf
  obtain ⟨g8, hf⟩ := am_g_of hf
  obtain ⟨s10, v9, hcv9, hf⟩ := am_c_of hf
  refine am_blkL hX ikLc52 0 36 (And.intro rfl (And.intro rfl (And.intro g1 (And.intro rfl (And.intro rfl (And.intro g2 (And.intro rfl (And.intro rfl (And.intro g3 (And.intro rfl (And.intro rfl (Exists.intro s5 (Exists.intro (some (.inr (.inl v4))) (And.intro (tX8_chance l (d + 193) hcv4) (And.intro rfl (And.intro rfl (And.intro g6 (And.intro rfl (And.intro rfl (And.intro g7 (And.intro rfl (And.intro rfl (And.intro g8 (And.intro rfl (And.intro rfl (Exists.intro s10 (Exists.intro (some (.inr (.inl v9))) (And.intro (tX9_chance l (d + 117) hcv9) (And.intro (fun hb => ?_) (fun hb => ?_))))))))))))))))))))))))))))))
  · have hf := am_it hf hb
    show X 2120 [(0, .inr (.inr ((28, 0, 0), 237))), (1, .inr (.inr ((9, 0, 0), 0))), (2, .inr (.inr ((10, 0, 0), 215))), (3, .inl x3)] [] s10
    exact am_wkL hX [0, 1, 2, 3] (hJ s10 hf)
  · have hf := am_if hf hb
    show X 1596 [(0, .inr (.inr ((28, 0, 0), 237))), (1, .inr (.inr ((9, 0, 0), 0))), (2, .inr (.inr ((10, 0, 0), 215))), (3, .inl x3)] [] s10
    exact am_l0 hf
def fLc53 (xs : Nat → Int32) (L : Nat) (J : AS → Option (AS × Int32)) (s0 : AS) (x3 : Int32) : Option (AS × Int32) :=
  am_g (¬ ((x3 + (1 : Int32)) < 0 ∨ L ≤ (x3 + (1 : Int32)).toNatClampNeg)) (am_g (¬ ((x3 + (2 : Int32)) < 0 ∨ L ≤ (x3 + (2 : Int32)).toNatClampNeg)) (am_c (fX8_mean s0 (xs ((x3 + (1 : Int32)).toNatClampNeg)) (xs ((x3 + (2 : Int32)).toNatClampNeg))) (fun (s4 : AS) (v3 : Int64) => am_g (¬ ((x3 + (1 : Int32)) < 0 ∨ L ≤ (x3 + (1 : Int32)).toNatClampNeg)) (am_g (¬ ((x3 + (2 : Int32)) < 0 ∨ L ≤ (x3 + (2 : Int32)).toNatClampNeg)) (am_c (fX9_mean s4 (xs ((x3 + (1 : Int32)).toNatClampNeg)) (xs ((x3 + (2 : Int32)).toNatClampNeg))) (fun (s8 : AS) (v7 : Int64) => if (lg_cmp v3 v7) = 0 then (J s8) else (some (s8, (0 : Int32)))))))))
set_option maxHeartbeats 4000000 in
set_option maxRecDepth 100000 in
theorem tLc53 {l : Launch} {d : Nat} {xs : Nat → Int32} {L : Nat} {X : Nat → AL → List AV → AS → Prop} (hX : am_cloL kLaw.flatten xs L (am_Ct l (d + 199)) X) {J : AS → Option (AS × Int32)} {sE : AS} {x3 : Int32} (hJ : ∀ s, J s = some (sE, 1) → X 2120 [(0, .inr (.inr ((28, 0, 0), 237))), (1, .inr (.inr ((9, 0, 0), 0))), (2, .inr (.inr ((10, 0, 0), 215))), (3, .inl x3)] [] s) (s0 : AS) (hf : fLc53 xs L J s0 x3 = some (sE, 1)) : X 1598 [(0, .inr (.inr ((28, 0, 0), 237))), (1, .inr (.inr ((9, 0, 0), 0))), (2, .inr (.inr ((10, 0, 0), 215))), (3, .inl x3)] [] s0 := by
  unfold fLc53 at hf
  obtain ⟨g1, hf⟩ := am_g_of hf
  obtain ⟨g2, hf⟩ := am_g_of hf
  obtain ⟨s4, v3, hcv3, hf⟩ := am_c_of hf
  obtain ⟨g5, hf⟩ := am_g_of hf
  obtain ⟨g6, hf⟩ := am_g_of hf
  obtain ⟨s8, v7, hcv7, hf⟩ := am_c_of hf
  refine am_blkL hX ikLc53 0 26 (And.intro rfl (And.intro rfl (And.intro g1 (And.intro rfl (And.intro rfl (And.intro g2 (And.intro rfl (And.intro rfl (Exists.intro s4 (Exists.intro (some (.inr (.inl v3))) (And.intro (tX8_mean l (d + 193) hcv3) (And.intro rfl (And.intro rfl (And.intro g5 (And.intro rfl (And.intro rfl (And.intro g6 (And.intro rfl (And.intro rfl (Exists.intro s8 (Exists.intro (some (.inr (.inl v7))) (And.intro (tX9_mean l (d + 117) hcv7) (And.intro (fun hb => ?_) (fun hb => ?_))))))))))))))))))))))))
  · have hf := am_it hf hb
    show X 2120 [(0, .inr (.inr ((28, 0, 0), 237))), (1, .inr (.inr ((9, 0, 0), 0))), (2, .inr (.inr ((10, 0, 0), 215))), (3, .inl x3)] [] s8
    exact am_wkL hX [0, 1, 2, 3] (hJ s8 hf)
  · have hf := am_if hf hb
    show X 1630 [(0, .inr (.inr ((28, 0, 0), 237))), (1, .inr (.inr ((9, 0, 0), 0))), (2, .inr (.inr ((10, 0, 0), 215))), (3, .inl x3)] [] s8
    exact am_l0 hf
def fLc54 (xs : Nat → Int32) (L : Nat) (J : AS → Option (AS × Int32)) (s0 : AS) (x3 : Int32) : Option (AS × Int32) :=
  am_g (¬ ((x3 + (1 : Int32)) < 0 ∨ L ≤ (x3 + (1 : Int32)).toNatClampNeg)) (am_g (¬ ((x3 + (2 : Int32)) < 0 ∨ L ≤ (x3 + (2 : Int32)).toNatClampNeg)) (am_c (fX8_answer s0 (xs ((x3 + (1 : Int32)).toNatClampNeg)) (xs ((x3 + (2 : Int32)).toNatClampNeg))) (fun (s4 : AS) (v3 : Int32) => am_g (¬ ((x3 + (1 : Int32)) < 0 ∨ L ≤ (x3 + (1 : Int32)).toNatClampNeg)) (am_g (¬ ((x3 + (2 : Int32)) < 0 ∨ L ≤ (x3 + (2 : Int32)).toNatClampNeg)) (am_c (fX9_answer s4 (xs ((x3 + (1 : Int32)).toNatClampNeg)) (xs ((x3 + (2 : Int32)).toNatClampNeg))) (fun (s8 : AS) (v7 : Int32) => if v3 = v7 then (J s8) else (some (s8, (0 : Int32)))))))))
set_option maxHeartbeats 4000000 in
set_option maxRecDepth 100000 in
theorem tLc54 {l : Launch} {d : Nat} {xs : Nat → Int32} {L : Nat} {X : Nat → AL → List AV → AS → Prop} (hX : am_cloL kLaw.flatten xs L (am_Ct l (d + 199)) X) {J : AS → Option (AS × Int32)} {sE : AS} {x3 : Int32} (hJ : ∀ s, J s = some (sE, 1) → X 2120 [(0, .inr (.inr ((28, 0, 0), 237))), (1, .inr (.inr ((9, 0, 0), 0))), (2, .inr (.inr ((10, 0, 0), 215))), (3, .inl x3)] [] s) (s0 : AS) (hf : fLc54 xs L J s0 x3 = some (sE, 1)) : X 1632 [(0, .inr (.inr ((28, 0, 0), 237))), (1, .inr (.inr ((9, 0, 0), 0))), (2, .inr (.inr ((10, 0, 0), 215))), (3, .inl x3)] [] s0 := by
  unfold fLc54 at hf
  obtain ⟨g1, hf⟩ := am_g_of hf
  obtain ⟨g2, hf⟩ := am_g_of hf
  obtain ⟨s4, v3, hcv3, hf⟩ := am_c_of hf
  obtain ⟨g5, hf⟩ := am_g_of hf
  obtain ⟨g6, hf⟩ := am_g_of hf
  obtain ⟨s8, v7, hcv7, hf⟩ := am_c_of hf
  refine am_blkL hX ikLc54 0 25 (And.intro rfl (And.intro rfl (And.intro g1 (And.intro rfl (And.intro rfl (And.intro g2 (And.intro rfl (And.intro rfl (Exists.intro s4 (Exists.intro (some (.inl v3)) (And.intro (tX8_answer l (d + 197) hcv3) (And.intro rfl (And.intro rfl (And.intro g5 (And.intro rfl (And.intro rfl (And.intro g6 (And.intro rfl (And.intro rfl (Exists.intro s8 (Exists.intro (some (.inl v7)) (And.intro (tX9_answer l (d + 196) hcv7) (And.intro (fun hb => ?_) (fun hb => ?_))))))))))))))))))))))))
  · have hf := am_it hf hb
    show X 2120 [(0, .inr (.inr ((28, 0, 0), 237))), (1, .inr (.inr ((9, 0, 0), 0))), (2, .inr (.inr ((10, 0, 0), 215))), (3, .inl x3)] [] s8
    exact am_wkL hX [0, 1, 2, 3] (hJ s8 hf)
  · have hf := am_if hf hb
    show X 1663 [(0, .inr (.inr ((28, 0, 0), 237))), (1, .inr (.inr ((9, 0, 0), 0))), (2, .inr (.inr ((10, 0, 0), 215))), (3, .inl x3)] [] s8
    exact am_l0 hf
def fLc55 (xs : Nat → Int32) (L : Nat) (J : AS → Option (AS × Int32)) (s0 : AS) (x3 : Int32) : Option (AS × Int32) :=
  am_g (¬ ((x3 + (1 : Int32)) < 0 ∨ L ≤ (x3 + (1 : Int32)).toNatClampNeg)) (am_g (¬ ((x3 + (2 : Int32)) < 0 ∨ L ≤ (x3 + (2 : Int32)).toNatClampNeg)) (am_c (fX8_bar s0 (xs ((x3 + (1 : Int32)).toNatClampNeg)) (xs ((x3 + (2 : Int32)).toNatClampNeg))) (fun (s4 : AS) (v3 : Int32) => am_g (¬ ((x3 + (1 : Int32)) < 0 ∨ L ≤ (x3 + (1 : Int32)).toNatClampNeg)) (am_g (¬ ((x3 + (2 : Int32)) < 0 ∨ L ≤ (x3 + (2 : Int32)).toNatClampNeg)) (am_c (fX9_bar s4 (xs ((x3 + (1 : Int32)).toNatClampNeg)) (xs ((x3 + (2 : Int32)).toNatClampNeg))) (fun (s8 : AS) (v7 : Int32) => if v3 = v7 then (J s8) else (some (s8, (0 : Int32)))))))))
set_option maxHeartbeats 4000000 in
set_option maxRecDepth 100000 in
theorem tLc55 {l : Launch} {d : Nat} {xs : Nat → Int32} {L : Nat} {X : Nat → AL → List AV → AS → Prop} (hX : am_cloL kLaw.flatten xs L (am_Ct l (d + 199)) X) {J : AS → Option (AS × Int32)} {sE : AS} {x3 : Int32} (hJ : ∀ s, J s = some (sE, 1) → X 2120 [(0, .inr (.inr ((28, 0, 0), 237))), (1, .inr (.inr ((9, 0, 0), 0))), (2, .inr (.inr ((10, 0, 0), 215))), (3, .inl x3)] [] s) (s0 : AS) (hf : fLc55 xs L J s0 x3 = some (sE, 1)) : X 1665 [(0, .inr (.inr ((28, 0, 0), 237))), (1, .inr (.inr ((9, 0, 0), 0))), (2, .inr (.inr ((10, 0, 0), 215))), (3, .inl x3)] [] s0 := by
  unfold fLc55 at hf
  obtain ⟨g1, hf⟩ := am_g_of hf
  obtain ⟨g2, hf⟩ := am_g_of hf
  obtain ⟨s4, v3, hcv3, hf⟩ := am_c_of hf
  obtain ⟨g5, hf⟩ := am_g_of hf
  obtain ⟨g6, hf⟩ := am_g_of hf
  obtain ⟨s8, v7, hcv7, hf⟩ := am_c_of hf
  refine am_blkL hX ikLc55 0 25 (And.intro rfl (And.intro rfl (And.intro g1 (And.intro rfl (And.intro rfl (And.intro g2 (And.intro rfl (And.intro rfl (Exists.intro s4 (Exists.intro (some (.inl v3)) (And.intro (tX8_bar l (d + 197) hcv3) (And.intro rfl (And.intro rfl (And.intro g5 (And.intro rfl (And.intro rfl (And.intro g6 (And.intro rfl (And.intro rfl (Exists.intro s8 (Exists.intro (some (.inl v7)) (And.intro (tX9_bar l (d + 196) hcv7) (And.intro (fun hb => ?_) (fun hb => ?_))))))))))))))))))))))))
  · have hf := am_it hf hb
    show X 2120 [(0, .inr (.inr ((28, 0, 0), 237))), (1, .inr (.inr ((9, 0, 0), 0))), (2, .inr (.inr ((10, 0, 0), 215))), (3, .inl x3)] [] s8
    exact am_wkL hX [0, 1, 2, 3] (hJ s8 hf)
  · have hf := am_if hf hb
    show X 1696 [(0, .inr (.inr ((28, 0, 0), 237))), (1, .inr (.inr ((9, 0, 0), 0))), (2, .inr (.inr ((10, 0, 0), 215))), (3, .inl x3)] [] s8
    exact am_l0 hf
def fLc56 (xs : Nat → Int32) (L : Nat) (J : AS → Option (AS × Int32)) (s0 : AS) (x3 : Int32) : Option (AS × Int32) :=
  am_r (fX8_answered s0) (fun (v1 : Int32) => am_c (fX9_answered s0) (fun (s3 : AS) (v2 : Int32) => if v1 = v2 then (J s3) else (some (s3, (0 : Int32)))))
set_option maxHeartbeats 4000000 in
set_option maxRecDepth 100000 in
theorem tLc56 {l : Launch} {d : Nat} {xs : Nat → Int32} {L : Nat} {X : Nat → AL → List AV → AS → Prop} (hX : am_cloL kLaw.flatten xs L (am_Ct l (d + 199)) X) {J : AS → Option (AS × Int32)} {sE : AS} {x3 : Int32} (hJ : ∀ s, J s = some (sE, 1) → X 2120 [(0, .inr (.inr ((28, 0, 0), 237))), (1, .inr (.inr ((9, 0, 0), 0))), (2, .inr (.inr ((10, 0, 0), 215))), (3, .inl x3)] [] s) (s0 : AS) (hf : fLc56 xs L J s0 x3 = some (sE, 1)) : X 1698 [(0, .inr (.inr ((28, 0, 0), 237))), (1, .inr (.inr ((9, 0, 0), 0))), (2, .inr (.inr ((10, 0, 0), 215))), (3, .inl x3)] [] s0 := by
  unfold fLc56 at hf
  obtain ⟨v1, hcv1, hf⟩ := am_r_of hf
  obtain ⟨s3, v2, hcv2, hf⟩ := am_c_of hf
  refine am_blkL hX ikLc56 0 5 (And.intro rfl (And.intro rfl (Exists.intro s0 (Exists.intro (some (.inl v1)) (And.intro (tX8_answered l (d + 197) hcv1) (And.intro rfl (And.intro rfl (Exists.intro s3 (Exists.intro (some (.inl v2)) (And.intro (tX9_answered l (d + 197) hcv2) (And.intro (fun hb => ?_) (fun hb => ?_))))))))))))
  · have hf := am_it hf hb
    show X 2120 [(0, .inr (.inr ((28, 0, 0), 237))), (1, .inr (.inr ((9, 0, 0), 0))), (2, .inr (.inr ((10, 0, 0), 215))), (3, .inl x3)] [] s3
    exact am_wkL hX [0, 1, 2, 3] (hJ s3 hf)
  · have hf := am_if hf hb
    show X 1709 [(0, .inr (.inr ((28, 0, 0), 237))), (1, .inr (.inr ((9, 0, 0), 0))), (2, .inr (.inr ((10, 0, 0), 215))), (3, .inl x3)] [] s3
    exact am_l0 hf
def fLc57 (xs : Nat → Int32) (L : Nat) (J : AS → Option (AS × Int32)) (s0 : AS) (x3 : Int32) : Option (AS × Int32) :=
  am_r (fX8_barred s0) (fun (v1 : Int32) => am_c (fX9_barred s0) (fun (s3 : AS) (v2 : Int32) => if v1 = v2 then (J s3) else (some (s3, (0 : Int32)))))
set_option maxHeartbeats 4000000 in
set_option maxRecDepth 100000 in
theorem tLc57 {l : Launch} {d : Nat} {xs : Nat → Int32} {L : Nat} {X : Nat → AL → List AV → AS → Prop} (hX : am_cloL kLaw.flatten xs L (am_Ct l (d + 199)) X) {J : AS → Option (AS × Int32)} {sE : AS} {x3 : Int32} (hJ : ∀ s, J s = some (sE, 1) → X 2120 [(0, .inr (.inr ((28, 0, 0), 237))), (1, .inr (.inr ((9, 0, 0), 0))), (2, .inr (.inr ((10, 0, 0), 215))), (3, .inl x3)] [] s) (s0 : AS) (hf : fLc57 xs L J s0 x3 = some (sE, 1)) : X 1711 [(0, .inr (.inr ((28, 0, 0), 237))), (1, .inr (.inr ((9, 0, 0), 0))), (2, .inr (.inr ((10, 0, 0), 215))), (3, .inl x3)] [] s0 := by
  unfold fLc57 at hf
  obtain ⟨v1, hcv1, hf⟩ := am_r_of hf
  obtain ⟨s3, v2, hcv2, hf⟩ := am_c_of hf
  refine am_blkL hX ikLc57 0 5 (And.intro rfl (And.intro rfl (Exists.intro s0 (Exists.intro (some (.inl v1)) (And.intro (tX8_barred l (d + 197) hcv1) (And.intro rfl (And.intro rfl (Exists.intro s3 (Exists.intro (some (.inl v2)) (And.intro (tX9_barred l (d + 197) hcv2) (And.intro (fun hb => ?_) (fun hb => ?_))))))))))))
  · have hf := am_it hf hb
    show X 2120 [(0, .inr (.inr ((28, 0, 0), 237))), (1, .inr (.inr ((9, 0, 0), 0))), (2, .inr (.inr ((10, 0, 0), 215))), (3, .inl x3)] [] s3
    exact am_wkL hX [0, 1, 2, 3] (hJ s3 hf)
  · have hf := am_if hf hb
    show X 1722 [(0, .inr (.inr ((28, 0, 0), 237))), (1, .inr (.inr ((9, 0, 0), 0))), (2, .inr (.inr ((10, 0, 0), 215))), (3, .inl x3)] [] s3
    exact am_l0 hf
def fLc58 (xs : Nat → Int32) (L : Nat) (J : AS → Option (AS × Int32)) (s0 : AS) (x3 : Int32) : Option (AS × Int32) :=
  am_r (fX8_costs s0) (fun (v1 : Int32) => am_c (fX9_costs s0) (fun (s3 : AS) (v2 : Int32) => if v1 = v2 then (J s3) else (some (s3, (0 : Int32)))))
set_option maxHeartbeats 4000000 in
set_option maxRecDepth 100000 in
theorem tLc58 {l : Launch} {d : Nat} {xs : Nat → Int32} {L : Nat} {X : Nat → AL → List AV → AS → Prop} (hX : am_cloL kLaw.flatten xs L (am_Ct l (d + 199)) X) {J : AS → Option (AS × Int32)} {sE : AS} {x3 : Int32} (hJ : ∀ s, J s = some (sE, 1) → X 2120 [(0, .inr (.inr ((28, 0, 0), 237))), (1, .inr (.inr ((9, 0, 0), 0))), (2, .inr (.inr ((10, 0, 0), 215))), (3, .inl x3)] [] s) (s0 : AS) (hf : fLc58 xs L J s0 x3 = some (sE, 1)) : X 1724 [(0, .inr (.inr ((28, 0, 0), 237))), (1, .inr (.inr ((9, 0, 0), 0))), (2, .inr (.inr ((10, 0, 0), 215))), (3, .inl x3)] [] s0 := by
  unfold fLc58 at hf
  obtain ⟨v1, hcv1, hf⟩ := am_r_of hf
  obtain ⟨s3, v2, hcv2, hf⟩ := am_c_of hf
  refine am_blkL hX ikLc58 0 5 (And.intro rfl (And.intro rfl (Exists.intro s0 (Exists.intro (some (.inl v1)) (And.intro (tX8_costs l (d + 196) hcv1) (And.intro rfl (And.intro rfl (Exists.intro s3 (Exists.intro (some (.inl v2)) (And.intro (tX9_costs l (d + 196) hcv2) (And.intro (fun hb => ?_) (fun hb => ?_))))))))))))
  · have hf := am_it hf hb
    show X 2120 [(0, .inr (.inr ((28, 0, 0), 237))), (1, .inr (.inr ((9, 0, 0), 0))), (2, .inr (.inr ((10, 0, 0), 215))), (3, .inl x3)] [] s3
    exact am_wkL hX [0, 1, 2, 3] (hJ s3 hf)
  · have hf := am_if hf hb
    show X 1735 [(0, .inr (.inr ((28, 0, 0), 237))), (1, .inr (.inr ((9, 0, 0), 0))), (2, .inr (.inr ((10, 0, 0), 215))), (3, .inl x3)] [] s3
    exact am_l0 hf
def fLc59 (xs : Nat → Int32) (L : Nat) (J : AS → Option (AS × Int32)) (s0 : AS) (x3 : Int32) : Option (AS × Int32) :=
  am_c (fX8_undo s0) (fun (s2 : AS) (v1 : Int32) => am_c (fX9_undo s2) (fun (s4 : AS) (v3 : Int32) => if v1 = v3 then (J s4) else (some (s4, (0 : Int32)))))
set_option maxHeartbeats 4000000 in
set_option maxRecDepth 100000 in
theorem tLc59 {l : Launch} {d : Nat} {xs : Nat → Int32} {L : Nat} {X : Nat → AL → List AV → AS → Prop} (hX : am_cloL kLaw.flatten xs L (am_Ct l (d + 199)) X) {J : AS → Option (AS × Int32)} {sE : AS} {x3 : Int32} (hJ : ∀ s, J s = some (sE, 1) → X 2120 [(0, .inr (.inr ((28, 0, 0), 237))), (1, .inr (.inr ((9, 0, 0), 0))), (2, .inr (.inr ((10, 0, 0), 215))), (3, .inl x3)] [] s) (s0 : AS) (hf : fLc59 xs L J s0 x3 = some (sE, 1)) : X 1737 [(0, .inr (.inr ((28, 0, 0), 237))), (1, .inr (.inr ((9, 0, 0), 0))), (2, .inr (.inr ((10, 0, 0), 215))), (3, .inl x3)] [] s0 := by
  unfold fLc59 at hf
  obtain ⟨s2, v1, hcv1, hf⟩ := am_c_of hf
  obtain ⟨s4, v3, hcv3, hf⟩ := am_c_of hf
  refine am_blkL hX ikLc59 0 5 (And.intro rfl (And.intro rfl (Exists.intro s2 (Exists.intro (some (.inl v1)) (And.intro (tX8_undo l (d + 197) hcv1) (And.intro rfl (And.intro rfl (Exists.intro s4 (Exists.intro (some (.inl v3)) (And.intro (tX9_undo l (d + 197) hcv3) (And.intro (fun hb => ?_) (fun hb => ?_))))))))))))
  · have hf := am_it hf hb
    show X 2120 [(0, .inr (.inr ((28, 0, 0), 237))), (1, .inr (.inr ((9, 0, 0), 0))), (2, .inr (.inr ((10, 0, 0), 215))), (3, .inl x3)] [] s4
    exact am_wkL hX [0, 1, 2, 3] (hJ s4 hf)
  · have hf := am_if hf hb
    show X 1748 [(0, .inr (.inr ((28, 0, 0), 237))), (1, .inr (.inr ((9, 0, 0), 0))), (2, .inr (.inr ((10, 0, 0), 215))), (3, .inl x3)] [] s4
    exact am_l0 hf
def fLc60 (xs : Nat → Int32) (L : Nat) (J : AS → Option (AS × Int32)) (s0 : AS) (x3 : Int32) : Option (AS × Int32) :=
  am_c (fX8_anew s0) (fun (s2 : AS) (v1 : Int32) => am_c (fX9_anew s2) (fun (s4 : AS) (v3 : Int32) => if v1 = v3 then (J s4) else (some (s4, (0 : Int32)))))
set_option maxHeartbeats 4000000 in
set_option maxRecDepth 100000 in
theorem tLc60 {l : Launch} {d : Nat} {xs : Nat → Int32} {L : Nat} {X : Nat → AL → List AV → AS → Prop} (hX : am_cloL kLaw.flatten xs L (am_Ct l (d + 199)) X) {J : AS → Option (AS × Int32)} {sE : AS} {x3 : Int32} (hJ : ∀ s, J s = some (sE, 1) → X 2120 [(0, .inr (.inr ((28, 0, 0), 237))), (1, .inr (.inr ((9, 0, 0), 0))), (2, .inr (.inr ((10, 0, 0), 215))), (3, .inl x3)] [] s) (s0 : AS) (hf : fLc60 xs L J s0 x3 = some (sE, 1)) : X 1750 [(0, .inr (.inr ((28, 0, 0), 237))), (1, .inr (.inr ((9, 0, 0), 0))), (2, .inr (.inr ((10, 0, 0), 215))), (3, .inl x3)] [] s0 := by
  unfold fLc60 at hf
  obtain ⟨s2, v1, hcv1, hf⟩ := am_c_of hf
  obtain ⟨s4, v3, hcv3, hf⟩ := am_c_of hf
  refine am_blkL hX ikLc60 0 5 (And.intro rfl (And.intro rfl (Exists.intro s2 (Exists.intro (some (.inl v1)) (And.intro (tX8_anew l (d + 197) hcv1) (And.intro rfl (And.intro rfl (Exists.intro s4 (Exists.intro (some (.inl v3)) (And.intro (tX9_anew l (d + 197) hcv3) (And.intro (fun hb => ?_) (fun hb => ?_))))))))))))
  · have hf := am_it hf hb
    show X 2120 [(0, .inr (.inr ((28, 0, 0), 237))), (1, .inr (.inr ((9, 0, 0), 0))), (2, .inr (.inr ((10, 0, 0), 215))), (3, .inl x3)] [] s4
    exact am_wkL hX [0, 1, 2, 3] (hJ s4 hf)
  · have hf := am_if hf hb
    show X 1761 [(0, .inr (.inr ((28, 0, 0), 237))), (1, .inr (.inr ((9, 0, 0), 0))), (2, .inr (.inr ((10, 0, 0), 215))), (3, .inl x3)] [] s4
    exact am_l0 hf
def fLc61 (xs : Nat → Int32) (L : Nat) (J : AS → Option (AS × Int32)) (s0 : AS) (x3 : Int32) : Option (AS × Int32) :=
  am_g (¬ ((x3 + (1 : Int32)) < 0 ∨ L ≤ (x3 + (1 : Int32)).toNatClampNeg)) (am_g (¬ ((x3 + (2 : Int32)) < 0 ∨ L ≤ (x3 + (2 : Int32)).toNatClampNeg)) (am_c (fX8_drawn s0 (xs ((x3 + (1 : Int32)).toNatClampNeg)) (xs ((x3 + (2 : Int32)).toNatClampNeg))) (fun (s4 : AS) (v3 : Int32) => am_g (¬ ((x3 + (1 : Int32)) < 0 ∨ L ≤ (x3 + (1 : Int32)).toNatClampNeg)) (am_g (¬ ((x3 + (2 : Int32)) < 0 ∨ L ≤ (x3 + (2 : Int32)).toNatClampNeg)) (am_c (fX9_drawn s4 (xs ((x3 + (1 : Int32)).toNatClampNeg)) (xs ((x3 + (2 : Int32)).toNatClampNeg))) (fun (s8 : AS) (v7 : Int32) => if v3 = v7 then (J s8) else (some (s8, (0 : Int32)))))))))
set_option maxHeartbeats 4000000 in
set_option maxRecDepth 100000 in
theorem tLc61 {l : Launch} {d : Nat} {xs : Nat → Int32} {L : Nat} {X : Nat → AL → List AV → AS → Prop} (hX : am_cloL kLaw.flatten xs L (am_Ct l (d + 199)) X) {J : AS → Option (AS × Int32)} {sE : AS} {x3 : Int32} (hJ : ∀ s, J s = some (sE, 1) → X 2120 [(0, .inr (.inr ((28, 0, 0), 237))), (1, .inr (.inr ((9, 0, 0), 0))), (2, .inr (.inr ((10, 0, 0), 215))), (3, .inl x3)] [] s) (s0 : AS) (hf : fLc61 xs L J s0 x3 = some (sE, 1)) : X 1763 [(0, .inr (.inr ((28, 0, 0), 237))), (1, .inr (.inr ((9, 0, 0), 0))), (2, .inr (.inr ((10, 0, 0), 215))), (3, .inl x3)] [] s0 := by
  unfold fLc61 at hf
  obtain ⟨g1, hf⟩ := am_g_of hf
  obtain ⟨g2, hf⟩ := am_g_of hf
  obtain ⟨s4, v3, hcv3, hf⟩ := am_c_of hf
  obtain ⟨g5, hf⟩ := am_g_of hf
  obtain ⟨g6, hf⟩ := am_g_of hf
  obtain ⟨s8, v7, hcv7, hf⟩ := am_c_of hf
  refine am_blkL hX ikLc61 0 25 (And.intro rfl (And.intro rfl (And.intro g1 (And.intro rfl (And.intro rfl (And.intro g2 (And.intro rfl (And.intro rfl (Exists.intro s4 (Exists.intro (some (.inl v3)) (And.intro (tX8_drawn l (d + 193) hcv3) (And.intro rfl (And.intro rfl (And.intro g5 (And.intro rfl (And.intro rfl (And.intro g6 (And.intro rfl (And.intro rfl (Exists.intro s8 (Exists.intro (some (.inl v7)) (And.intro (tX9_drawn l (d + 193) hcv7) (And.intro (fun hb => ?_) (fun hb => ?_))))))))))))))))))))))))
  · have hf := am_it hf hb
    show X 2120 [(0, .inr (.inr ((28, 0, 0), 237))), (1, .inr (.inr ((9, 0, 0), 0))), (2, .inr (.inr ((10, 0, 0), 215))), (3, .inl x3)] [] s8
    exact am_wkL hX [0, 1, 2, 3] (hJ s8 hf)
  · have hf := am_if hf hb
    show X 1794 [(0, .inr (.inr ((28, 0, 0), 237))), (1, .inr (.inr ((9, 0, 0), 0))), (2, .inr (.inr ((10, 0, 0), 215))), (3, .inl x3)] [] s8
    exact am_l0 hf
def fLc62 (xs : Nat → Int32) (L : Nat) (J : AS → Option (AS × Int32)) (s0 : AS) (x3 : Int32) : Option (AS × Int32) :=
  am_g (¬ ((x3 + (1 : Int32)) < 0 ∨ L ≤ (x3 + (1 : Int32)).toNatClampNeg)) (am_g (¬ ((x3 + (2 : Int32)) < 0 ∨ L ≤ (x3 + (2 : Int32)).toNatClampNeg)) (am_g (¬ ((x3 + (3 : Int32)) < 0 ∨ L ≤ (x3 + (3 : Int32)).toNatClampNeg)) (am_c (fX8_luck s0 (xs ((x3 + (1 : Int32)).toNatClampNeg)) (xs ((x3 + (2 : Int32)).toNatClampNeg)) (xs ((x3 + (3 : Int32)).toNatClampNeg))) (fun (s5 : AS) (v4 : Int32) => am_g (¬ ((x3 + (1 : Int32)) < 0 ∨ L ≤ (x3 + (1 : Int32)).toNatClampNeg)) (am_g (¬ ((x3 + (2 : Int32)) < 0 ∨ L ≤ (x3 + (2 : Int32)).toNatClampNeg)) (am_g (¬ ((x3 + (3 : Int32)) < 0 ∨ L ≤ (x3 + (3 : Int32)).toNatClampNeg)) (am_c (fX9_luck s5 (xs ((x3 + (1 : Int32)).toNatClampNeg)) (xs ((x3 + (2 : Int32)).toNatClampNeg)) (xs ((x3 + (3 : Int32)).toNatClampNeg))) (fun (s10 : AS) (v9 : Int32) => if v4 = v9 then (J s10) else (some (s10, (0 : Int32)))))))))))
set_option maxHeartbeats 4000000 in
set_option maxRecDepth 100000 in
theorem tLc62 {l : Launch} {d : Nat} {xs : Nat → Int32} {L : Nat} {X : Nat → AL → List AV → AS → Prop} (hX : am_cloL kLaw.flatten xs L (am_Ct l (d + 199)) X) {J : AS → Option (AS × Int32)} {sE : AS} {x3 : Int32} (hJ : ∀ s, J s = some (sE, 1) → X 2120 [(0, .inr (.inr ((28, 0, 0), 237))), (1, .inr (.inr ((9, 0, 0), 0))), (2, .inr (.inr ((10, 0, 0), 215))), (3, .inl x3)] [] s) (s0 : AS) (hf : fLc62 xs L J s0 x3 = some (sE, 1)) : X 1796 [(0, .inr (.inr ((28, 0, 0), 237))), (1, .inr (.inr ((9, 0, 0), 0))), (2, .inr (.inr ((10, 0, 0), 215))), (3, .inl x3)] [] s0 := by
  unfold fLc62 at hf
  obtain ⟨g1, hf⟩ := am_g_of hf
  obtain ⟨g2, hf⟩ := am_g_of hf
  obtain ⟨g3, hf⟩ := am_g_of hf
  obtain ⟨s5, v4, hcv4, hf⟩ := am_c_of hf
  obtain ⟨g6, hf⟩ := am_g_of hf
  obtain ⟨g7, hf⟩ := am_g_of hf
  obtain ⟨g8, hf⟩ := am_g_of hf
  obtain ⟨s10, v9, hcv9, hf⟩ := am_c_of hf
  refine am_blkL hX ikLc62 0 35 (And.intro rfl (And.intro rfl (And.intro g1 (And.intro rfl (And.intro rfl (And.intro g2 (And.intro rfl (And.intro rfl (And.intro g3 (And.intro rfl (And.intro rfl (Exists.intro s5 (Exists.intro (some (.inl v4)) (And.intro (tX8_luck l (d + 193) hcv4) (And.intro rfl (And.intro rfl (And.intro g6 (And.intro rfl (And.intro rfl (And.intro g7 (And.intro rfl (And.intro rfl (And.intro g8 (And.intro rfl (And.intro rfl (Exists.intro s10 (Exists.intro (some (.inl v9)) (And.intro (tX9_luck l (d + 193) hcv9) (And.intro (fun hb => ?_) (fun hb => ?_))))))))))))))))))))))))))))))
  · have hf := am_it hf hb
    show X 2120 [(0, .inr (.inr ((28, 0, 0), 237))), (1, .inr (.inr ((9, 0, 0), 0))), (2, .inr (.inr ((10, 0, 0), 215))), (3, .inl x3)] [] s10
    exact am_wkL hX [0, 1, 2, 3] (hJ s10 hf)
  · have hf := am_if hf hb
    show X 1837 [(0, .inr (.inr ((28, 0, 0), 237))), (1, .inr (.inr ((9, 0, 0), 0))), (2, .inr (.inr ((10, 0, 0), 215))), (3, .inl x3)] [] s10
    exact am_l0 hf
def fLc63 (xs : Nat → Int32) (L : Nat) (J : AS → Option (AS × Int32)) (s0 : AS) (x3 : Int32) : Option (AS × Int32) :=
  am_g (¬ ((x3 + (1 : Int32)) < 0 ∨ L ≤ (x3 + (1 : Int32)).toNatClampNeg)) (am_g (¬ ((x3 + (2 : Int32)) < 0 ∨ L ≤ (x3 + (2 : Int32)).toNatClampNeg)) (am_c (fX8_need s0 (xs ((x3 + (1 : Int32)).toNatClampNeg)) (xs ((x3 + (2 : Int32)).toNatClampNeg))) (fun (s4 : AS) (v3 : Int32) => am_g (¬ ((x3 + (1 : Int32)) < 0 ∨ L ≤ (x3 + (1 : Int32)).toNatClampNeg)) (am_g (¬ ((x3 + (2 : Int32)) < 0 ∨ L ≤ (x3 + (2 : Int32)).toNatClampNeg)) (am_c (fX9_need s4 (xs ((x3 + (1 : Int32)).toNatClampNeg)) (xs ((x3 + (2 : Int32)).toNatClampNeg))) (fun (s8 : AS) (v7 : Int32) => if v3 = v7 then (J s8) else (some (s8, (0 : Int32)))))))))
set_option maxHeartbeats 4000000 in
set_option maxRecDepth 100000 in
theorem tLc63 {l : Launch} {d : Nat} {xs : Nat → Int32} {L : Nat} {X : Nat → AL → List AV → AS → Prop} (hX : am_cloL kLaw.flatten xs L (am_Ct l (d + 199)) X) {J : AS → Option (AS × Int32)} {sE : AS} {x3 : Int32} (hJ : ∀ s, J s = some (sE, 1) → X 2120 [(0, .inr (.inr ((28, 0, 0), 237))), (1, .inr (.inr ((9, 0, 0), 0))), (2, .inr (.inr ((10, 0, 0), 215))), (3, .inl x3)] [] s) (s0 : AS) (hf : fLc63 xs L J s0 x3 = some (sE, 1)) : X 1839 [(0, .inr (.inr ((28, 0, 0), 237))), (1, .inr (.inr ((9, 0, 0), 0))), (2, .inr (.inr ((10, 0, 0), 215))), (3, .inl x3)] [] s0 := by
  unfold fLc63 at hf
  obtain ⟨g1, hf⟩ := am_g_of hf
  obtain ⟨g2, hf⟩ := am_g_of hf
  obtain ⟨s4, v3, hcv3, hf⟩ := am_c_of hf
  obtain ⟨g5, hf⟩ := am_g_of hf
  obtain ⟨g6, hf⟩ := am_g_of hf
  obtain ⟨s8, v7, hcv7, hf⟩ := am_c_of hf
  refine am_blkL hX ikLc63 0 25 (And.intro rfl (And.intro rfl (And.intro g1 (And.intro rfl (And.intro rfl (And.intro g2 (And.intro rfl (And.intro rfl (Exists.intro s4 (Exists.intro (some (.inl v3)) (And.intro (tX8_need l (d + 197) hcv3) (And.intro rfl (And.intro rfl (And.intro g5 (And.intro rfl (And.intro rfl (And.intro g6 (And.intro rfl (And.intro rfl (Exists.intro s8 (Exists.intro (some (.inl v7)) (And.intro (tX9_need l (d + 196) hcv7) (And.intro (fun hb => ?_) (fun hb => ?_))))))))))))))))))))))))
  · have hf := am_it hf hb
    show X 2120 [(0, .inr (.inr ((28, 0, 0), 237))), (1, .inr (.inr ((9, 0, 0), 0))), (2, .inr (.inr ((10, 0, 0), 215))), (3, .inl x3)] [] s8
    exact am_wkL hX [0, 1, 2, 3] (hJ s8 hf)
  · have hf := am_if hf hb
    show X 1870 [(0, .inr (.inr ((28, 0, 0), 237))), (1, .inr (.inr ((9, 0, 0), 0))), (2, .inr (.inr ((10, 0, 0), 215))), (3, .inl x3)] [] s8
    exact am_l0 hf
def fLc64 (xs : Nat → Int32) (L : Nat) (J : AS → Option (AS × Int32)) (s0 : AS) (x3 : Int32) : Option (AS × Int32) :=
  am_g (¬ ((x3 + (1 : Int32)) < 0 ∨ L ≤ (x3 + (1 : Int32)).toNatClampNeg)) (am_r (fX8_count s0 (xs ((x3 + (1 : Int32)).toNatClampNeg))) (fun (v2 : Int32) => am_g (¬ ((x3 + (1 : Int32)) < 0 ∨ L ≤ (x3 + (1 : Int32)).toNatClampNeg)) (am_c (fX9_count s0 (xs ((x3 + (1 : Int32)).toNatClampNeg))) (fun (s5 : AS) (v4 : Int32) => if v2 = v4 then (J s5) else (some (s5, (0 : Int32)))))))
set_option maxHeartbeats 4000000 in
set_option maxRecDepth 100000 in
theorem tLc64 {l : Launch} {d : Nat} {xs : Nat → Int32} {L : Nat} {X : Nat → AL → List AV → AS → Prop} (hX : am_cloL kLaw.flatten xs L (am_Ct l (d + 199)) X) {J : AS → Option (AS × Int32)} {sE : AS} {x3 : Int32} (hJ : ∀ s, J s = some (sE, 1) → X 2120 [(0, .inr (.inr ((28, 0, 0), 237))), (1, .inr (.inr ((9, 0, 0), 0))), (2, .inr (.inr ((10, 0, 0), 215))), (3, .inl x3)] [] s) (s0 : AS) (hf : fLc64 xs L J s0 x3 = some (sE, 1)) : X 1872 [(0, .inr (.inr ((28, 0, 0), 237))), (1, .inr (.inr ((9, 0, 0), 0))), (2, .inr (.inr ((10, 0, 0), 215))), (3, .inl x3)] [] s0 := by
  unfold fLc64 at hf
  obtain ⟨g1, hf⟩ := am_g_of hf
  obtain ⟨v2, hcv2, hf⟩ := am_r_of hf
  obtain ⟨g3, hf⟩ := am_g_of hf
  obtain ⟨s5, v4, hcv4, hf⟩ := am_c_of hf
  refine am_blkL hX ikLc64 0 15 (And.intro rfl (And.intro rfl (And.intro g1 (And.intro rfl (And.intro rfl (Exists.intro s0 (Exists.intro (some (.inl v2)) (And.intro (tX8_count l (d + 197) hcv2) (And.intro rfl (And.intro rfl (And.intro g3 (And.intro rfl (And.intro rfl (Exists.intro s5 (Exists.intro (some (.inl v4)) (And.intro (tX9_count l (d + 197) hcv4) (And.intro (fun hb => ?_) (fun hb => ?_))))))))))))))))))
  · have hf := am_it hf hb
    show X 2120 [(0, .inr (.inr ((28, 0, 0), 237))), (1, .inr (.inr ((9, 0, 0), 0))), (2, .inr (.inr ((10, 0, 0), 215))), (3, .inl x3)] [] s5
    exact am_wkL hX [0, 1, 2, 3] (hJ s5 hf)
  · have hf := am_if hf hb
    show X 1893 [(0, .inr (.inr ((28, 0, 0), 237))), (1, .inr (.inr ((9, 0, 0), 0))), (2, .inr (.inr ((10, 0, 0), 215))), (3, .inl x3)] [] s5
    exact am_l0 hf
def fLc65 (xs : Nat → Int32) (L : Nat) (J : AS → Option (AS × Int32)) (s0 : AS) (x3 : Int32) : Option (AS × Int32) :=
  am_g (¬ ((x3 + (1 : Int32)) < 0 ∨ L ≤ (x3 + (1 : Int32)).toNatClampNeg)) (am_c (fX8_image s0 (xs ((x3 + (1 : Int32)).toNatClampNeg))) (fun (s3 : AS) (v2 : Int32) => am_g (¬ ((x3 + (1 : Int32)) < 0 ∨ L ≤ (x3 + (1 : Int32)).toNatClampNeg)) (am_c (fX9_image s3 (xs ((x3 + (1 : Int32)).toNatClampNeg))) (fun (s6 : AS) (v5 : Int32) => if v2 = v5 then (J s6) else (some (s6, (0 : Int32)))))))
set_option maxHeartbeats 4000000 in
set_option maxRecDepth 100000 in
theorem tLc65 {l : Launch} {d : Nat} {xs : Nat → Int32} {L : Nat} {X : Nat → AL → List AV → AS → Prop} (hX : am_cloL kLaw.flatten xs L (am_Ct l (d + 199)) X) {J : AS → Option (AS × Int32)} {sE : AS} {x3 : Int32} (hJ : ∀ s, J s = some (sE, 1) → X 2120 [(0, .inr (.inr ((28, 0, 0), 237))), (1, .inr (.inr ((9, 0, 0), 0))), (2, .inr (.inr ((10, 0, 0), 215))), (3, .inl x3)] [] s) (s0 : AS) (hf : fLc65 xs L J s0 x3 = some (sE, 1)) : X 1895 [(0, .inr (.inr ((28, 0, 0), 237))), (1, .inr (.inr ((9, 0, 0), 0))), (2, .inr (.inr ((10, 0, 0), 215))), (3, .inl x3)] [] s0 := by
  unfold fLc65 at hf
  obtain ⟨g1, hf⟩ := am_g_of hf
  obtain ⟨s3, v2, hcv2, hf⟩ := am_c_of hf
  obtain ⟨g4, hf⟩ := am_g_of hf
  obtain ⟨s6, v5, hcv5, hf⟩ := am_c_of hf
  refine am_blkL hX ikLc65 0 15 (And.intro rfl (And.intro rfl (And.intro g1 (And.intro rfl (And.intro rfl (Exists.intro s3 (Exists.intro (some (.inl v2)) (And.intro (tX8_image l (d + 197) hcv2) (And.intro rfl (And.intro rfl (And.intro g4 (And.intro rfl (And.intro rfl (Exists.intro s6 (Exists.intro (some (.inl v5)) (And.intro (tX9_image l (d + 196) hcv5) (And.intro (fun hb => ?_) (fun hb => ?_))))))))))))))))))
  · have hf := am_it hf hb
    show X 2120 [(0, .inr (.inr ((28, 0, 0), 237))), (1, .inr (.inr ((9, 0, 0), 0))), (2, .inr (.inr ((10, 0, 0), 215))), (3, .inl x3)] [] s6
    exact am_wkL hX [0, 1, 2, 3] (hJ s6 hf)
  · have hf := am_if hf hb
    show X 1916 [(0, .inr (.inr ((28, 0, 0), 237))), (1, .inr (.inr ((9, 0, 0), 0))), (2, .inr (.inr ((10, 0, 0), 215))), (3, .inl x3)] [] s6
    exact am_l0 hf
def fLc66 (xs : Nat → Int32) (L : Nat) (J : AS → Option (AS × Int32)) (s0 : AS) (x3 : Int32) : Option (AS × Int32) :=
  am_g (¬ ((x3 + (1 : Int32)) < 0 ∨ L ≤ (x3 + (1 : Int32)).toNatClampNeg)) (am_c (fX8_back s0 (xs ((x3 + (1 : Int32)).toNatClampNeg))) (fun (s3 : AS) (v2 : Int32) => am_g (¬ ((x3 + (1 : Int32)) < 0 ∨ L ≤ (x3 + (1 : Int32)).toNatClampNeg)) (am_c (fX9_back s3 (xs ((x3 + (1 : Int32)).toNatClampNeg))) (fun (s6 : AS) (v5 : Int32) => if v2 = v5 then (J s6) else (some (s6, (0 : Int32)))))))
set_option maxHeartbeats 4000000 in
set_option maxRecDepth 100000 in
theorem tLc66 {l : Launch} {d : Nat} {xs : Nat → Int32} {L : Nat} {X : Nat → AL → List AV → AS → Prop} (hX : am_cloL kLaw.flatten xs L (am_Ct l (d + 199)) X) {J : AS → Option (AS × Int32)} {sE : AS} {x3 : Int32} (hJ : ∀ s, J s = some (sE, 1) → X 2120 [(0, .inr (.inr ((28, 0, 0), 237))), (1, .inr (.inr ((9, 0, 0), 0))), (2, .inr (.inr ((10, 0, 0), 215))), (3, .inl x3)] [] s) (s0 : AS) (hf : fLc66 xs L J s0 x3 = some (sE, 1)) : X 1918 [(0, .inr (.inr ((28, 0, 0), 237))), (1, .inr (.inr ((9, 0, 0), 0))), (2, .inr (.inr ((10, 0, 0), 215))), (3, .inl x3)] [] s0 := by
  unfold fLc66 at hf
  obtain ⟨g1, hf⟩ := am_g_of hf
  obtain ⟨s3, v2, hcv2, hf⟩ := am_c_of hf
  obtain ⟨g4, hf⟩ := am_g_of hf
  obtain ⟨s6, v5, hcv5, hf⟩ := am_c_of hf
  refine am_blkL hX ikLc66 0 15 (And.intro rfl (And.intro rfl (And.intro g1 (And.intro rfl (And.intro rfl (Exists.intro s3 (Exists.intro (some (.inl v2)) (And.intro (tX8_back l (d + 197) hcv2) (And.intro rfl (And.intro rfl (And.intro g4 (And.intro rfl (And.intro rfl (Exists.intro s6 (Exists.intro (some (.inl v5)) (And.intro (tX9_back l (d + 196) hcv5) (And.intro (fun hb => ?_) (fun hb => ?_))))))))))))))))))
  · have hf := am_it hf hb
    show X 2120 [(0, .inr (.inr ((28, 0, 0), 237))), (1, .inr (.inr ((9, 0, 0), 0))), (2, .inr (.inr ((10, 0, 0), 215))), (3, .inl x3)] [] s6
    exact am_wkL hX [0, 1, 2, 3] (hJ s6 hf)
  · have hf := am_if hf hb
    show X 1939 [(0, .inr (.inr ((28, 0, 0), 237))), (1, .inr (.inr ((9, 0, 0), 0))), (2, .inr (.inr ((10, 0, 0), 215))), (3, .inl x3)] [] s6
    exact am_l0 hf
def fLc67 (xs : Nat → Int32) (L : Nat) (J : AS → Option (AS × Int32)) (s0 : AS) (x3 : Int32) : Option (AS × Int32) :=
  am_g (¬ ((x3 + (1 : Int32)) < 0 ∨ L ≤ (x3 + (1 : Int32)).toNatClampNeg)) (am_g (¬ ((x3 + (2 : Int32)) < 0 ∨ L ≤ (x3 + (2 : Int32)).toNatClampNeg)) (am_g (¬ ((x3 + (3 : Int32)) < 0 ∨ L ≤ (x3 + (3 : Int32)).toNatClampNeg)) (am_c (fX8_row s0 (xs ((x3 + (1 : Int32)).toNatClampNeg)) (xs ((x3 + (2 : Int32)).toNatClampNeg)) (xs ((x3 + (3 : Int32)).toNatClampNeg))) (fun (s5 : AS) (v4 : Int32) => am_g (¬ ((x3 + (1 : Int32)) < 0 ∨ L ≤ (x3 + (1 : Int32)).toNatClampNeg)) (am_g (¬ ((x3 + (2 : Int32)) < 0 ∨ L ≤ (x3 + (2 : Int32)).toNatClampNeg)) (am_g (¬ ((x3 + (3 : Int32)) < 0 ∨ L ≤ (x3 + (3 : Int32)).toNatClampNeg)) (am_c (fX9_row s5 (xs ((x3 + (1 : Int32)).toNatClampNeg)) (xs ((x3 + (2 : Int32)).toNatClampNeg)) (xs ((x3 + (3 : Int32)).toNatClampNeg))) (fun (s10 : AS) (v9 : Int32) => if v4 = v9 then (J s10) else (some (s10, (0 : Int32)))))))))))
set_option maxHeartbeats 4000000 in
set_option maxRecDepth 100000 in
theorem tLc67 {l : Launch} {d : Nat} {xs : Nat → Int32} {L : Nat} {X : Nat → AL → List AV → AS → Prop} (hX : am_cloL kLaw.flatten xs L (am_Ct l (d + 199)) X) {J : AS → Option (AS × Int32)} {sE : AS} {x3 : Int32} (hJ : ∀ s, J s = some (sE, 1) → X 2120 [(0, .inr (.inr ((28, 0, 0), 237))), (1, .inr (.inr ((9, 0, 0), 0))), (2, .inr (.inr ((10, 0, 0), 215))), (3, .inl x3)] [] s) (s0 : AS) (hf : fLc67 xs L J s0 x3 = some (sE, 1)) : X 1941 [(0, .inr (.inr ((28, 0, 0), 237))), (1, .inr (.inr ((9, 0, 0), 0))), (2, .inr (.inr ((10, 0, 0), 215))), (3, .inl x3)] [] s0 := by
  unfold fLc67 at hf
  obtain ⟨g1, hf⟩ := am_g_of hf
  obtain ⟨g2, hf⟩ := am_g_of hf
  obtain ⟨g3, hf⟩ := am_g_of hf
  obtain ⟨s5, v4, hcv4, hf⟩ := am_c_of hf
  obtain ⟨g6, hf⟩ := am_g_of hf
  obtain ⟨g7, hf⟩ := am_g_of hf
  obtain ⟨g8, hf⟩ := am_g_of hf
  obtain ⟨s10, v9, hcv9, hf⟩ := am_c_of hf
  refine am_blkL hX ikLc67 0 35 (And.intro rfl (And.intro rfl (And.intro g1 (And.intro rfl (And.intro rfl (And.intro g2 (And.intro rfl (And.intro rfl (And.intro g3 (And.intro rfl (And.intro rfl (Exists.intro s5 (Exists.intro (some (.inl v4)) (And.intro (tX8_row l (d + 196) hcv4) (And.intro rfl (And.intro rfl (And.intro g6 (And.intro rfl (And.intro rfl (And.intro g7 (And.intro rfl (And.intro rfl (And.intro g8 (And.intro rfl (And.intro rfl (Exists.intro s10 (Exists.intro (some (.inl v9)) (And.intro (tX9_row l (d + 196) hcv9) (And.intro (fun hb => ?_) (fun hb => ?_))))))))))))))))))))))))))))))
  · have hf := am_it hf hb
    show X 2120 [(0, .inr (.inr ((28, 0, 0), 237))), (1, .inr (.inr ((9, 0, 0), 0))), (2, .inr (.inr ((10, 0, 0), 215))), (3, .inl x3)] [] s10
    exact am_wkL hX [0, 1, 2, 3] (hJ s10 hf)
  · have hf := am_if hf hb
    show X 1982 [(0, .inr (.inr ((28, 0, 0), 237))), (1, .inr (.inr ((9, 0, 0), 0))), (2, .inr (.inr ((10, 0, 0), 215))), (3, .inl x3)] [] s10
    exact am_l0 hf
def fLc68 (xs : Nat → Int32) (L : Nat) (J : AS → Option (AS × Int32)) (s0 : AS) (x3 : Int32) : Option (AS × Int32) :=
  am_g (¬ ((x3 + (1 : Int32)) < 0 ∨ L ≤ (x3 + (1 : Int32)).toNatClampNeg)) (am_g (¬ ((x3 + (2 : Int32)) < 0 ∨ L ≤ (x3 + (2 : Int32)).toNatClampNeg)) (am_g (¬ ((x3 + (3 : Int32)) < 0 ∨ L ≤ (x3 + (3 : Int32)).toNatClampNeg)) (am_g (¬ ((x3 + (4 : Int32)) < 0 ∨ L ≤ (x3 + (4 : Int32)).toNatClampNeg)) (am_c (fX8_write s0 (xs ((x3 + (1 : Int32)).toNatClampNeg)) (xs ((x3 + (2 : Int32)).toNatClampNeg)) ((((xs ((x3 + (3 : Int32)).toNatClampNeg)).toInt64) <<< ((32 : Int32).toInt64 &&& 63)) ||| (((xs ((x3 + (4 : Int32)).toNatClampNeg)).toInt64) &&& (4294967295 : Int64)))) (fun (s6 : AS) (v5 : Int32) => am_g (¬ ((x3 + (1 : Int32)) < 0 ∨ L ≤ (x3 + (1 : Int32)).toNatClampNeg)) (am_g (¬ ((x3 + (2 : Int32)) < 0 ∨ L ≤ (x3 + (2 : Int32)).toNatClampNeg)) (am_g (¬ ((x3 + (3 : Int32)) < 0 ∨ L ≤ (x3 + (3 : Int32)).toNatClampNeg)) (am_g (¬ ((x3 + (4 : Int32)) < 0 ∨ L ≤ (x3 + (4 : Int32)).toNatClampNeg)) (am_c (fX9_write s6 (xs ((x3 + (1 : Int32)).toNatClampNeg)) (xs ((x3 + (2 : Int32)).toNatClampNeg)) ((((xs ((x3 + (3 : Int32)).toNatClampNeg)).toInt64) <<< ((32 : Int32).toInt64 &&& 63)) ||| (((xs ((x3 + (4 : Int32)).toNatClampNeg)).toInt64) &&& (4294967295 : Int64)))) (fun (s12 : AS) (v11 : Int32) => if v5 = v11 then (J s12) else (some (s12, (0 : Int32)))))))))))))
set_option maxHeartbeats 4000000 in
set_option maxRecDepth 100000 in
theorem tLc68 {l : Launch} {d : Nat} {xs : Nat → Int32} {L : Nat} {X : Nat → AL → List AV → AS → Prop} (hX : am_cloL kLaw.flatten xs L (am_Ct l (d + 199)) X) {J : AS → Option (AS × Int32)} {sE : AS} {x3 : Int32} (hJ : ∀ s, J s = some (sE, 1) → X 2120 [(0, .inr (.inr ((28, 0, 0), 237))), (1, .inr (.inr ((9, 0, 0), 0))), (2, .inr (.inr ((10, 0, 0), 215))), (3, .inl x3)] [] s) (s0 : AS) (hf : fLc68 xs L J s0 x3 = some (sE, 1)) : X 1984 [(0, .inr (.inr ((28, 0, 0), 237))), (1, .inr (.inr ((9, 0, 0), 0))), (2, .inr (.inr ((10, 0, 0), 215))), (3, .inl x3)] [] s0 := by
  unfold fLc68 at hf
  obtain ⟨g1, hf⟩ := am_g_of hf
  obtain ⟨g2, hf⟩ := am_g_of hf
  obtain ⟨g3, hf⟩ := am_g_of hf
  obtain ⟨g4, hf⟩ := am_g_of hf
  obtain ⟨s6, v5, hcv5, hf⟩ := am_c_of hf
  obtain ⟨g7, hf⟩ := am_g_of hf
  obtain ⟨g8, hf⟩ := am_g_of hf
  obtain ⟨g9, hf⟩ := am_g_of hf
  obtain ⟨g10, hf⟩ := am_g_of hf
  obtain ⟨s12, v11, hcv11, hf⟩ := am_c_of hf
  refine am_blkL hX ikLc68 0 59 (And.intro rfl (And.intro rfl (And.intro g1 (And.intro rfl (And.intro rfl (And.intro g2 (And.intro rfl (And.intro rfl (And.intro g3 (And.intro rfl (And.intro rfl (And.intro g4 (And.intro rfl (And.intro rfl (Exists.intro s6 (Exists.intro (some (.inl v5)) (And.intro (tX8_write l (d + 197) hcv5) (And.intro rfl (And.intro rfl (And.intro g7 (And.intro rfl (And.intro rfl (And.intro g8 (And.intro rfl (And.intro rfl (And.intro g9 (And.intro rfl (And.intro rfl (And.intro g10 (And.intro rfl (And.intro rfl (Exists.intro s12 (Exists.intro (some (.inl v11)) (And.intro (tX9_write l (d + 196) hcv11) (And.intro (fun hb => ?_) (fun hb => ?_))))))))))))))))))))))))))))))))))))
  · have hf := am_it hf hb
    show X 2120 [(0, .inr (.inr ((28, 0, 0), 237))), (1, .inr (.inr ((9, 0, 0), 0))), (2, .inr (.inr ((10, 0, 0), 215))), (3, .inl x3)] [] s12
    exact am_wkL hX [0, 1, 2, 3] (hJ s12 hf)
  · have hf := am_if hf hb
    show X 2055 [(0, .inr (.inr ((28, 0, 0), 237))), (1, .inr (.inr ((9, 0, 0), 0))), (2, .inr (.inr ((10, 0, 0), 215))), (3, .inl x3)] [] s12
    exact am_l0 hf
def fLc69 (xs : Nat → Int32) (L : Nat) (J : AS → Option (AS × Int32)) (s0 : AS) (x3 : Int32) : Option (AS × Int32) :=
  am_g (¬ ((x3 + (1 : Int32)) < 0 ∨ L ≤ (x3 + (1 : Int32)).toNatClampNeg)) (am_g (¬ ((x3 + (2 : Int32)) < 0 ∨ L ≤ (x3 + (2 : Int32)).toNatClampNeg)) (am_g (¬ ((x3 + (3 : Int32)) < 0 ∨ L ≤ (x3 + (3 : Int32)).toNatClampNeg)) (am_g (¬ ((x3 + (4 : Int32)) < 0 ∨ L ≤ (x3 + (4 : Int32)).toNatClampNeg)) (am_g (¬ ((x3 + (5 : Int32)) < 0 ∨ L ≤ (x3 + (5 : Int32)).toNatClampNeg)) (am_c (fX8_paste s0 (xs ((x3 + (1 : Int32)).toNatClampNeg)) (xs ((x3 + (2 : Int32)).toNatClampNeg)) (xs ((x3 + (3 : Int32)).toNatClampNeg)) (xs ((x3 + (4 : Int32)).toNatClampNeg)) (xs ((x3 + (5 : Int32)).toNatClampNeg))) (fun (s7 : AS) (v6 : Int32) => am_g (¬ ((x3 + (1 : Int32)) < 0 ∨ L ≤ (x3 + (1 : Int32)).toNatClampNeg)) (am_g (¬ ((x3 + (2 : Int32)) < 0 ∨ L ≤ (x3 + (2 : Int32)).toNatClampNeg)) (am_g (¬ ((x3 + (3 : Int32)) < 0 ∨ L ≤ (x3 + (3 : Int32)).toNatClampNeg)) (am_g (¬ ((x3 + (4 : Int32)) < 0 ∨ L ≤ (x3 + (4 : Int32)).toNatClampNeg)) (am_g (¬ ((x3 + (5 : Int32)) < 0 ∨ L ≤ (x3 + (5 : Int32)).toNatClampNeg)) (am_c (fX9_paste s7 (xs ((x3 + (1 : Int32)).toNatClampNeg)) (xs ((x3 + (2 : Int32)).toNatClampNeg)) (xs ((x3 + (3 : Int32)).toNatClampNeg)) (xs ((x3 + (4 : Int32)).toNatClampNeg)) (xs ((x3 + (5 : Int32)).toNatClampNeg))) (fun (s14 : AS) (v13 : Int32) => if v6 = v13 then (J s14) else (some (s14, (0 : Int32)))))))))))))))
set_option maxHeartbeats 4000000 in
set_option maxRecDepth 100000 in
theorem tLc69 {l : Launch} {d : Nat} {xs : Nat → Int32} {L : Nat} {X : Nat → AL → List AV → AS → Prop} (hX : am_cloL kLaw.flatten xs L (am_Ct l (d + 199)) X) {J : AS → Option (AS × Int32)} {sE : AS} {x3 : Int32} (hJ : ∀ s, J s = some (sE, 1) → X 2120 [(0, .inr (.inr ((28, 0, 0), 237))), (1, .inr (.inr ((9, 0, 0), 0))), (2, .inr (.inr ((10, 0, 0), 215))), (3, .inl x3)] [] s) (s0 : AS) (hf : fLc69 xs L J s0 x3 = some (sE, 1)) : X 2057 [(0, .inr (.inr ((28, 0, 0), 237))), (1, .inr (.inr ((9, 0, 0), 0))), (2, .inr (.inr ((10, 0, 0), 215))), (3, .inl x3)] [] s0 := by
  unfold fLc69 at hf
  obtain ⟨g1, hf⟩ := am_g_of hf
  obtain ⟨g2, hf⟩ := am_g_of hf
  obtain ⟨g3, hf⟩ := am_g_of hf
  obtain ⟨g4, hf⟩ := am_g_of hf
  obtain ⟨g5, hf⟩ := am_g_of hf
  obtain ⟨s7, v6, hcv6, hf⟩ := am_c_of hf
  obtain ⟨g8, hf⟩ := am_g_of hf
  obtain ⟨g9, hf⟩ := am_g_of hf
  obtain ⟨g10, hf⟩ := am_g_of hf
  obtain ⟨g11, hf⟩ := am_g_of hf
  obtain ⟨g12, hf⟩ := am_g_of hf
  obtain ⟨s14, v13, hcv13, hf⟩ := am_c_of hf
  refine am_blkL hX ikLc69 0 55 (And.intro rfl (And.intro rfl (And.intro g1 (And.intro rfl (And.intro rfl (And.intro g2 (And.intro rfl (And.intro rfl (And.intro g3 (And.intro rfl (And.intro rfl (And.intro g4 (And.intro rfl (And.intro rfl (And.intro g5 (And.intro rfl (And.intro rfl (Exists.intro s7 (Exists.intro (some (.inl v6)) (And.intro (tX8_paste l (d + 197) hcv6) (And.intro rfl (And.intro rfl (And.intro g8 (And.intro rfl (And.intro rfl (And.intro g9 (And.intro rfl (And.intro rfl (And.intro g10 (And.intro rfl (And.intro rfl (And.intro g11 (And.intro rfl (And.intro rfl (And.intro g12 (And.intro rfl (And.intro rfl (Exists.intro s14 (Exists.intro (some (.inl v13)) (And.intro (tX9_paste l (d + 196) hcv13) (And.intro (fun hb => ?_) (fun hb => ?_))))))))))))))))))))))))))))))))))))))))))
  · have hf := am_it hf hb
    show X 2120 [(0, .inr (.inr ((28, 0, 0), 237))), (1, .inr (.inr ((9, 0, 0), 0))), (2, .inr (.inr ((10, 0, 0), 215))), (3, .inl x3)] [] s14
    exact am_wkL hX [0, 1, 2, 3] (hJ s14 hf)
  · have hf := am_if hf hb
    show X 2118 [(0, .inr (.inr ((28, 0, 0), 237))), (1, .inr (.inr ((9, 0, 0), 0))), (2, .inr (.inr ((10, 0, 0), 215))), (3, .inl x3)] [] s14
    exact am_l0 hf
def fLaw (xs : Nat → Int32) (L : Nat) : Nat → AS → Int32 → Option (AS × Int32)
  | 0, _, _ => none
  | n + 1, s0, x3 => if (Int32.ofNat L - (6 : Int32)) < x3 then some (s0, (1 : Int32)) else am_g (¬ (x3 < 0 ∨ L ≤ x3.toNatClampNeg)) (am_let (fun (s1 : AS) => am_let (x3 + (6 : Int32)) (fun (x5 : Int32) => fLaw xs L n s1 x5)) (fun J => am_let ((xs x3.toNatClampNeg) &&& (127 : Int32)) (fun (x4 : Int32) => if x4 = (0 : Int32) then fLc0 xs L J s0 x3 else (if x4 = (1 : Int32) then fLc1 xs L J s0 x3 else (if x4 = (2 : Int32) then fLc2 xs L J s0 x3 else (if x4 = (3 : Int32) then fLc3 xs L J s0 x3 else (if x4 = (4 : Int32) then fLc4 xs L J s0 x3 else (if x4 = (5 : Int32) then fLc5 xs L J s0 x3 else (if x4 = (6 : Int32) then fLc6 xs L J s0 x3 else (if x4 = (7 : Int32) then fLc7 xs L J s0 x3 else (if x4 = (8 : Int32) then fLc8 xs L J s0 x3 else (if x4 = (9 : Int32) then fLc9 xs L J s0 x3 else (if x4 = (10 : Int32) then fLc10 xs L J s0 x3 else (if x4 = (11 : Int32) then fLc11 xs L J s0 x3 else (if x4 = (12 : Int32) then fLc12 xs L J s0 x3 else (if x4 = (13 : Int32) then fLc13 xs L J s0 x3 else (if x4 = (14 : Int32) then fLc14 xs L J s0 x3 else (if x4 = (15 : Int32) then fLc15 xs L J s0 x3 else (if x4 = (16 : Int32) then fLc16 xs L J s0 x3 else (if x4 = (17 : Int32) then fLc17 xs L J s0 x3 else (if x4 = (18 : Int32) then fLc18 xs L J s0 x3 else (if x4 = (19 : Int32) then fLc19 xs L J s0 x3 else (if x4 = (20 : Int32) then fLc20 xs L J s0 x3 else (if x4 = (21 : Int32) then fLc21 xs L J s0 x3 else (if x4 = (22 : Int32) then fLc22 xs L J s0 x3 else (if x4 = (23 : Int32) then fLc23 xs L J s0 x3 else (if x4 = (24 : Int32) then fLc24 xs L J s0 x3 else (if x4 = (25 : Int32) then fLc25 xs L J s0 x3 else (if x4 = (26 : Int32) then fLc26 xs L J s0 x3 else (if x4 = (27 : Int32) then fLc27 xs L J s0 x3 else (if x4 = (28 : Int32) then fLc28 xs L J s0 x3 else (if x4 = (29 : Int32) then fLc29 xs L J s0 x3 else (if x4 = (30 : Int32) then fLc30 xs L J s0 x3 else (if x4 = (31 : Int32) then fLc31 xs L J s0 x3 else (if x4 = (32 : Int32) then fLc32 xs L J s0 x3 else (if x4 = (33 : Int32) then fLc33 xs L J s0 x3 else (if x4 = (34 : Int32) then fLc34 xs L J s0 x3 else (if x4 = (35 : Int32) then fLc35 xs L J s0 x3 else (if x4 = (36 : Int32) then fLc36 xs L J s0 x3 else (if x4 = (37 : Int32) then fLc37 xs L J s0 x3 else (if x4 = (38 : Int32) then fLc38 xs L J s0 x3 else (if x4 = (39 : Int32) then fLc39 xs L J s0 x3 else (if x4 = (40 : Int32) then fLc40 xs L J s0 x3 else (if x4 = (41 : Int32) then fLc41 xs L J s0 x3 else (if x4 = (42 : Int32) then fLc42 xs L J s0 x3 else (if x4 = (43 : Int32) then fLc43 xs L J s0 x3 else (if x4 = (44 : Int32) then fLc44 xs L J s0 x3 else (if x4 = (45 : Int32) then fLc45 xs L J s0 x3 else (if x4 = (46 : Int32) then fLc46 xs L J s0 x3 else (if x4 = (47 : Int32) then fLc47 xs L J s0 x3 else (if x4 = (48 : Int32) then fLc48 xs L J s0 x3 else (if x4 = (49 : Int32) then fLc49 xs L J s0 x3 else (if x4 = (50 : Int32) then fLc50 xs L J s0 x3 else (if x4 = (51 : Int32) then fLc51 xs L J s0 x3 else (if x4 = (52 : Int32) then fLc52 xs L J s0 x3 else (if x4 = (53 : Int32) then fLc53 xs L J s0 x3 else (if x4 = (54 : Int32) then fLc54 xs L J s0 x3 else (if x4 = (55 : Int32) then fLc55 xs L J s0 x3 else (if x4 = (56 : Int32) then fLc56 xs L J s0 x3 else (if x4 = (57 : Int32) then fLc57 xs L J s0 x3 else (if x4 = (58 : Int32) then fLc58 xs L J s0 x3 else (if x4 = (59 : Int32) then fLc59 xs L J s0 x3 else (if x4 = (60 : Int32) then fLc60 xs L J s0 x3 else (if x4 = (61 : Int32) then fLc61 xs L J s0 x3 else (if x4 = (62 : Int32) then fLc62 xs L J s0 x3 else (if x4 = (63 : Int32) then fLc63 xs L J s0 x3 else (if x4 = (64 : Int32) then fLc64 xs L J s0 x3 else (if x4 = (65 : Int32) then fLc65 xs L J s0 x3 else (if x4 = (66 : Int32) then fLc66 xs L J s0 x3 else (if x4 = (67 : Int32) then fLc67 xs L J s0 x3 else (if x4 = (68 : Int32) then fLc68 xs L J s0 x3 else (if x4 = (69 : Int32) then fLc69 xs L J s0 x3 else (J s0)))))))))))))))))))))))))))))))))))))))))))))))))))))))))))))))))))))))))
set_option maxHeartbeats 40000000 in
set_option maxRecDepth 100000 in
theorem tLaw {l : Launch} {d : Nat} {xs : Nat → Int32} {L : Nat} {X : Nat → AL → List AV → AS → Prop} (hX : am_cloL kLaw.flatten xs L (am_Ct l (d + 199)) X) {sE : AS} : ∀ (n : Nat) (s0 : AS) (x3 : Int32), fLaw xs L n s0 x3 = some (sE, 1) → X 18 [(0, .inr (.inr ((28, 0, 0), 237))), (1, .inr (.inr ((9, 0, 0), 0))), (2, .inr (.inr ((10, 0, 0), 215))), (3, .inl x3)] [] s0 := by
  intro n
  induction n with
  | zero => intro s0 x3 hf; exact am_no (show none = some _ from hf)
  | succ n ih =>
    intro s0 x3 hf
    refine am_blkL hX ikLh 0 6 (And.intro rfl (And.intro rfl (And.intro (fun hb => ?_) (fun hb => ?_))))
    · show X 2126 [(0, .inr (.inr ((28, 0, 0), 237))), (1, .inr (.inr ((9, 0, 0), 0))), (2, .inr (.inr ((10, 0, 0), 215))), (3, .inl x3)] [] s0
      exact am_blkL hX ikLe 0 2 rfl
    · have hf := am_if hf hb
      show X 27 [(0, .inr (.inr ((28, 0, 0), 237))), (1, .inr (.inr ((9, 0, 0), 0))), (2, .inr (.inr ((10, 0, 0), 215))), (3, .inl x3)] [] s0
      obtain ⟨g1, hf⟩ := am_g_of hf
      refine am_jn hf (fun J => ∀ (s1 : AS), J s1 = some (sE, 1) → X 2120 [(0, .inr (.inr ((28, 0, 0), 237))), (1, .inr (.inr ((9, 0, 0), 0))), (2, .inr (.inr ((10, 0, 0), 215))), (3, .inl x3)] [] s1) ?_ ?_
      · intro s1 hf
        refine am_blkL hX ikLi 0 1 (am_nl (Z := fun x5 => X 2123 [(3, .inl x5), (0, .inr (.inr ((28, 0, 0), 237))), (1, .inr (.inr ((9, 0, 0), 0))), (2, .inr (.inr ((10, 0, 0), 215)))] [] s1) hf (fun x5 hf => ?_))
        refine am_blkL hX ikLi 1 1 (?_)
        show X 18 [(3, .inl x5), (0, .inr (.inr ((28, 0, 0), 237))), (1, .inr (.inr ((9, 0, 0), 0))), (2, .inr (.inr ((10, 0, 0), 215)))] [] s1
        exact am_wkL hX [1, 2, 3, 0] (ih s1 x5 hf)
      · intro J hJ hf
        refine am_blkL hX ikLh 6 5 (And.intro rfl (And.intro rfl (And.intro g1 (am_nl (Z := fun x4 => X 33 [(0, .inr (.inr ((28, 0, 0), 237))), (1, .inr (.inr ((9, 0, 0), 0))), (2, .inr (.inr ((10, 0, 0), 215))), (3, .inl x3)] [.inl x4] s0) hf (fun x4 hf => ?_)))))
        refine am_blkL hX ikLh 11 1 (And.intro (fun hb => ?_) (fun hq0 => And.intro (fun hb => ?_) (fun hq1 => And.intro (fun hb => ?_) (fun hq2 => And.intro (fun hb => ?_) (fun hq3 => And.intro (fun hb => ?_) (fun hq4 => And.intro (fun hb => ?_) (fun hq5 => And.intro (fun hb => ?_) (fun hq6 => And.intro (fun hb => ?_) (fun hq7 => And.intro (fun hb => ?_) (fun hq8 => And.intro (fun hb => ?_) (fun hq9 => And.intro (fun hb => ?_) (fun hq10 => And.intro (fun hb => ?_) (fun hq11 => And.intro (fun hb => ?_) (fun hq12 => And.intro (fun hb => ?_) (fun hq13 => And.intro (fun hb => ?_) (fun hq14 => And.intro (fun hb => ?_) (fun hq15 => And.intro (fun hb => ?_) (fun hq16 => And.intro (fun hb => ?_) (fun hq17 => And.intro (fun hb => ?_) (fun hq18 => And.intro (fun hb => ?_) (fun hq19 => And.intro (fun hb => ?_) (fun hq20 => And.intro (fun hb => ?_) (fun hq21 => And.intro (fun hb => ?_) (fun hq22 => And.intro (fun hb => ?_) (fun hq23 => And.intro (fun hb => ?_) (fun hq24 => And.intro (fun hb => ?_) (fun hq25 => And.intro (fun hb => ?_) (fun hq26 => And.intro (fun hb => ?_) (fun hq27 => And.intro (fun hb => ?_) (fun hq28 => And.intro (fun hb => ?_) (fun hq29 => And.intro (fun hb => ?_) (fun hq30 => And.intro (fun hb => ?_) (fun hq31 => And.intro (fun hb => ?_) (fun hq32 => And.intro (fun hb => ?_) (fun hq33 => And.intro (fun hb => ?_) (fun hq34 => And.intro (fun hb => ?_) (fun hq35 => And.intro (fun hb => ?_) (fun hq36 => And.intro (fun hb => ?_) (fun hq37 => And.intro (fun hb => ?_) (fun hq38 => And.intro (fun hb => ?_) (fun hq39 => And.intro (fun hb => ?_) (fun hq40 => And.intro (fun hb => ?_) (fun hq41 => And.intro (fun hb => ?_) (fun hq42 => And.intro (fun hb => ?_) (fun hq43 => And.intro (fun hb => ?_) (fun hq44 => And.intro (fun hb => ?_) (fun hq45 => And.intro (fun hb => ?_) (fun hq46 => And.intro (fun hb => ?_) (fun hq47 => And.intro (fun hb => ?_) (fun hq48 => And.intro (fun hb => ?_) (fun hq49 => And.intro (fun hb => ?_) (fun hq50 => And.intro (fun hb => ?_) (fun hq51 => And.intro (fun hb => ?_) (fun hq52 => And.intro (fun hb => ?_) (fun hq53 => And.intro (fun hb => ?_) (fun hq54 => And.intro (fun hb => ?_) (fun hq55 => And.intro (fun hb => ?_) (fun hq56 => And.intro (fun hb => ?_) (fun hq57 => And.intro (fun hb => ?_) (fun hq58 => And.intro (fun hb => ?_) (fun hq59 => And.intro (fun hb => ?_) (fun hq60 => And.intro (fun hb => ?_) (fun hq61 => And.intro (fun hb => ?_) (fun hq62 => And.intro (fun hb => ?_) (fun hq63 => And.intro (fun hb => ?_) (fun hq64 => And.intro (fun hb => ?_) (fun hq65 => And.intro (fun hb => ?_) (fun hq66 => And.intro (fun hb => ?_) (fun hq67 => And.intro (fun hb => ?_) (fun hq68 => And.intro (fun hb => ?_) (fun hq69 => ?_)))))))))))))))))))))))))))))))))))))))))))))))))))))))))))))))))))))))
        · exact tLc0 hX hJ s0 (am_it hf hb)
        · exact tLc1 hX hJ s0 (am_it (am_if hf hq0) hb)
        · exact tLc2 hX hJ s0 (am_it (am_if (am_if hf hq0) hq1) hb)
        · exact tLc3 hX hJ s0 (am_it (am_if (am_if (am_if hf hq0) hq1) hq2) hb)
        · exact tLc4 hX hJ s0 (am_it (am_if (am_if (am_if (am_if hf hq0) hq1) hq2) hq3) hb)
        · exact tLc5 hX hJ s0 (am_it (am_if (am_if (am_if (am_if (am_if hf hq0) hq1) hq2) hq3) hq4) hb)
        · exact tLc6 hX hJ s0 (am_it (am_if (am_if (am_if (am_if (am_if (am_if hf hq0) hq1) hq2) hq3) hq4) hq5) hb)
        · exact tLc7 hX hJ s0 (am_it (am_if (am_if (am_if (am_if (am_if (am_if (am_if hf hq0) hq1) hq2) hq3) hq4) hq5) hq6) hb)
        · exact tLc8 hX hJ s0 (am_it (am_if (am_if (am_if (am_if (am_if (am_if (am_if (am_if hf hq0) hq1) hq2) hq3) hq4) hq5) hq6) hq7) hb)
        · exact tLc9 hX hJ s0 (am_it (am_if (am_if (am_if (am_if (am_if (am_if (am_if (am_if (am_if hf hq0) hq1) hq2) hq3) hq4) hq5) hq6) hq7) hq8) hb)
        · exact tLc10 hX hJ s0 (am_it (am_if (am_if (am_if (am_if (am_if (am_if (am_if (am_if (am_if (am_if hf hq0) hq1) hq2) hq3) hq4) hq5) hq6) hq7) hq8) hq9) hb)
        · exact tLc11 hX hJ s0 (am_it (am_if (am_if (am_if (am_if (am_if (am_if (am_if (am_if (am_if (am_if (am_if hf hq0) hq1) hq2) hq3) hq4) hq5) hq6) hq7) hq8) hq9) hq10) hb)
        · exact tLc12 hX hJ s0 (am_it (am_if (am_if (am_if (am_if (am_if (am_if (am_if (am_if (am_if (am_if (am_if (am_if hf hq0) hq1) hq2) hq3) hq4) hq5) hq6) hq7) hq8) hq9) hq10) hq11) hb)
        · exact tLc13 hX hJ s0 (am_it (am_if (am_if (am_if (am_if (am_if (am_if (am_if (am_if (am_if (am_if (am_if (am_if (am_if hf hq0) hq1) hq2) hq3) hq4) hq5) hq6) hq7) hq8) hq9) hq10) hq11) hq12) hb)
        · exact tLc14 hX hJ s0 (am_it (am_if (am_if (am_if (am_if (am_if (am_if (am_if (am_if (am_if (am_if (am_if (am_if (am_if (am_if hf hq0) hq1) hq2) hq3) hq4) hq5) hq6) hq7) hq8) hq9) hq10) hq11) hq12) hq13) hb)
        · exact tLc15 hX hJ s0 (am_it (am_if (am_if (am_if (am_if (am_if (am_if (am_if (am_if (am_if (am_if (am_if (am_if (am_if (am_if (am_if hf hq0) hq1) hq2) hq3) hq4) hq5) hq6) hq7) hq8) hq9) hq10) hq11) hq12) hq13) hq14) hb)
        · exact tLc16 hX hJ s0 (am_it (am_if (am_if (am_if (am_if (am_if (am_if (am_if (am_if (am_if (am_if (am_if (am_if (am_if (am_if (am_if (am_if hf hq0) hq1) hq2) hq3) hq4) hq5) hq6) hq7) hq8) hq9) hq10) hq11) hq12) hq13) hq14) hq15) hb)
        · exact tLc17 hX hJ s0 (am_it (am_if (am_if (am_if (am_if (am_if (am_if (am_if (am_if (am_if (am_if (am_if (am_if (am_if (am_if (am_if (am_if (am_if hf hq0) hq1) hq2) hq3) hq4) hq5) hq6) hq7) hq8) hq9) hq10) hq11) hq12) hq13) hq14) hq15) hq16) hb)
        · exact tLc18 hX hJ s0 (am_it (am_if (am_if (am_if (am_if (am_if (am_if (am_if (am_if (am_if (am_if (am_if (am_if (am_if (am_if (am_if (am_if (am_if (am_if hf hq0) hq1) hq2) hq3) hq4) hq5) hq6) hq7) hq8) hq9) hq10) hq11) hq12) hq13) hq14) hq15) hq16) hq17) hb)
        · exact tLc19 hX hJ s0 (am_it (am_if (am_if (am_if (am_if (am_if (am_if (am_if (am_if (am_if (am_if (am_if (am_if (am_if (am_if (am_if (am_if (am_if (am_if (am_if hf hq0) hq1) hq2) hq3) hq4) hq5) hq6) hq7) hq8) hq9) hq10) hq11) hq12) hq13) hq14) hq15) hq16) hq17) hq18) hb)
        · exact tLc20 hX hJ s0 (am_it (am_if (am_if (am_if (am_if (am_if (am_if (am_if (am_if (am_if (am_if (am_if (am_if (am_if (am_if (am_if (am_if (am_if (am_if (am_if (am_if hf hq0) hq1) hq2) hq3) hq4) hq5) hq6) hq7) hq8) hq9) hq10) hq11) hq12) hq13) hq14) hq15) hq16) hq17) hq18) hq19) hb)
        · exact tLc21 hX hJ s0 (am_it (am_if (am_if (am_if (am_if (am_if (am_if (am_if (am_if (am_if (am_if (am_if (am_if (am_if (am_if (am_if (am_if (am_if (am_if (am_if (am_if (am_if hf hq0) hq1) hq2) hq3) hq4) hq5) hq6) hq7) hq8) hq9) hq10) hq11) hq12) hq13) hq14) hq15) hq16) hq17) hq18) hq19) hq20) hb)
        · exact tLc22 hX hJ s0 (am_it (am_if (am_if (am_if (am_if (am_if (am_if (am_if (am_if (am_if (am_if (am_if (am_if (am_if (am_if (am_if (am_if (am_if (am_if (am_if (am_if (am_if (am_if hf hq0) hq1) hq2) hq3) hq4) hq5) hq6) hq7) hq8) hq9) hq10) hq11) hq12) hq13) hq14) hq15) hq16) hq17) hq18) hq19) hq20) hq21) hb)
        · exact tLc23 hX hJ s0 (am_it (am_if (am_if (am_if (am_if (am_if (am_if (am_if (am_if (am_if (am_if (am_if (am_if (am_if (am_if (am_if (am_if (am_if (am_if (am_if (am_if (am_if (am_if (am_if hf hq0) hq1) hq2) hq3) hq4) hq5) hq6) hq7) hq8) hq9) hq10) hq11) hq12) hq13) hq14) hq15) hq16) hq17) hq18) hq19) hq20) hq21) hq22) hb)
        · exact tLc24 hX hJ s0 (am_it (am_if (am_if (am_if (am_if (am_if (am_if (am_if (am_if (am_if (am_if (am_if (am_if (am_if (am_if (am_if (am_if (am_if (am_if (am_if (am_if (am_if (am_if (am_if (am_if hf hq0) hq1) hq2) hq3) hq4) hq5) hq6) hq7) hq8) hq9) hq10) hq11) hq12) hq13) hq14) hq15) hq16) hq17) hq18) hq19) hq20) hq21) hq22) hq23) hb)
        · exact tLc25 hX hJ s0 (am_it (am_if (am_if (am_if (am_if (am_if (am_if (am_if (am_if (am_if (am_if (am_if (am_if (am_if (am_if (am_if (am_if (am_if (am_if (am_if (am_if (am_if (am_if (am_if (am_if (am_if hf hq0) hq1) hq2) hq3) hq4) hq5) hq6) hq7) hq8) hq9) hq10) hq11) hq12) hq13) hq14) hq15) hq16) hq17) hq18) hq19) hq20) hq21) hq22) hq23) hq24) hb)
        · exact tLc26 hX hJ s0 (am_it (am_if (am_if (am_if (am_if (am_if (am_if (am_if (am_if (am_if (am_if (am_if (am_if (am_if (am_if (am_if (am_if (am_if (am_if (am_if (am_if (am_if (am_if (am_if (am_if (am_if (am_if hf hq0) hq1) hq2) hq3) hq4) hq5) hq6) hq7) hq8) hq9) hq10) hq11) hq12) hq13) hq14) hq15) hq16) hq17) hq18) hq19) hq20) hq21) hq22) hq23) hq24) hq25) hb)
        · exact tLc27 hX hJ s0 (am_it (am_if (am_if (am_if (am_if (am_if (am_if (am_if (am_if (am_if (am_if (am_if (am_if (am_if (am_if (am_if (am_if (am_if (am_if (am_if (am_if (am_if (am_if (am_if (am_if (am_if (am_if (am_if hf hq0) hq1) hq2) hq3) hq4) hq5) hq6) hq7) hq8) hq9) hq10) hq11) hq12) hq13) hq14) hq15) hq16) hq17) hq18) hq19) hq20) hq21) hq22) hq23) hq24) hq25) hq26) hb)
        · exact tLc28 hX hJ s0 (am_it (am_if (am_if (am_if (am_if (am_if (am_if (am_if (am_if (am_if (am_if (am_if (am_if (am_if (am_if (am_if (am_if (am_if (am_if (am_if (am_if (am_if (am_if (am_if (am_if (am_if (am_if (am_if (am_if hf hq0) hq1) hq2) hq3) hq4) hq5) hq6) hq7) hq8) hq9) hq10) hq11) hq12) hq13) hq14) hq15) hq16) hq17) hq18) hq19) hq20) hq21) hq22) hq23) hq24) hq25) hq26) hq27) hb)
        · exact tLc29 hX hJ s0 (am_it (am_if (am_if (am_if (am_if (am_if (am_if (am_if (am_if (am_if (am_if (am_if (am_if (am_if (am_if (am_if (am_if (am_if (am_if (am_if (am_if (am_if (am_if (am_if (am_if (am_if (am_if (am_if (am_if (am_if hf hq0) hq1) hq2) hq3) hq4) hq5) hq6) hq7) hq8) hq9) hq10) hq11) hq12) hq13) hq14) hq15) hq16) hq17) hq18) hq19) hq20) hq21) hq22) hq23) hq24) hq25) hq26) hq27) hq28) hb)
        · exact tLc30 hX hJ s0 (am_it (am_if (am_if (am_if (am_if (am_if (am_if (am_if (am_if (am_if (am_if (am_if (am_if (am_if (am_if (am_if (am_if (am_if (am_if (am_if (am_if (am_if (am_if (am_if (am_if (am_if (am_if (am_if (am_if (am_if (am_if hf hq0) hq1) hq2) hq3) hq4) hq5) hq6) hq7) hq8) hq9) hq10) hq11) hq12) hq13) hq14) hq15) hq16) hq17) hq18) hq19) hq20) hq21) hq22) hq23) hq24) hq25) hq26) hq27) hq28) hq29) hb)
        · exact tLc31 hX hJ s0 (am_it (am_if (am_if (am_if (am_if (am_if (am_if (am_if (am_if (am_if (am_if (am_if (am_if (am_if (am_if (am_if (am_if (am_if (am_if (am_if (am_if (am_if (am_if (am_if (am_if (am_if (am_if (am_if (am_if (am_if (am_if (am_if hf hq0) hq1) hq2) hq3) hq4) hq5) hq6) hq7) hq8) hq9) hq10) hq11) hq12) hq13) hq14) hq15) hq16) hq17) hq18) hq19) hq20) hq21) hq22) hq23) hq24) hq25) hq26) hq27) hq28) hq29) hq30) hb)
        · exact tLc32 hX hJ s0 (am_it (am_if (am_if (am_if (am_if (am_if (am_if (am_if (am_if (am_if (am_if (am_if (am_if (am_if (am_if (am_if (am_if (am_if (am_if (am_if (am_if (am_if (am_if (am_if (am_if (am_if (am_if (am_if (am_if (am_if (am_if (am_if (am_if hf hq0) hq1) hq2) hq3) hq4) hq5) hq6) hq7) hq8) hq9) hq10) hq11) hq12) hq13) hq14) hq15) hq16) hq17) hq18) hq19) hq20) hq21) hq22) hq23) hq24) hq25) hq26) hq27) hq28) hq29) hq30) hq31) hb)
        · exact tLc33 hX hJ s0 (am_it (am_if (am_if (am_if (am_if (am_if (am_if (am_if (am_if (am_if (am_if (am_if (am_if (am_if (am_if (am_if (am_if (am_if (am_if (am_if (am_if (am_if (am_if (am_if (am_if (am_if (am_if (am_if (am_if (am_if (am_if (am_if (am_if (am_if hf hq0) hq1) hq2) hq3) hq4) hq5) hq6) hq7) hq8) hq9) hq10) hq11) hq12) hq13) hq14) hq15) hq16) hq17) hq18) hq19) hq20) hq21) hq22) hq23) hq24) hq25) hq26) hq27) hq28) hq29) hq30) hq31) hq32) hb)
        · exact tLc34 hX hJ s0 (am_it (am_if (am_if (am_if (am_if (am_if (am_if (am_if (am_if (am_if (am_if (am_if (am_if (am_if (am_if (am_if (am_if (am_if (am_if (am_if (am_if (am_if (am_if (am_if (am_if (am_if (am_if (am_if (am_if (am_if (am_if (am_if (am_if (am_if (am_if hf hq0) hq1) hq2) hq3) hq4) hq5) hq6) hq7) hq8) hq9) hq10) hq11) hq12) hq13) hq14) hq15) hq16) hq17) hq18) hq19) hq20) hq21) hq22) hq23) hq24) hq25) hq26) hq27) hq28) hq29) hq30) hq31) hq32) hq33) hb)
        · exact tLc35 hX hJ s0 (am_it (am_if (am_if (am_if (am_if (am_if (am_if (am_if (am_if (am_if (am_if (am_if (am_if (am_if (am_if (am_if (am_if (am_if (am_if (am_if (am_if (am_if (am_if (am_if (am_if (am_if (am_if (am_if (am_if (am_if (am_if (am_if (am_if (am_if (am_if (am_if hf hq0) hq1) hq2) hq3) hq4) hq5) hq6) hq7) hq8) hq9) hq10) hq11) hq12) hq13) hq14) hq15) hq16) hq17) hq18) hq19) hq20) hq21) hq22) hq23) hq24) hq25) hq26) hq27) hq28) hq29) hq30) hq31) hq32) hq33) hq34) hb)
        · exact tLc36 hX hJ s0 (am_it (am_if (am_if (am_if (am_if (am_if (am_if (am_if (am_if (am_if (am_if (am_if (am_if (am_if (am_if (am_if (am_if (am_if (am_if (am_if (am_if (am_if (am_if (am_if (am_if (am_if (am_if (am_if (am_if (am_if (am_if (am_if (am_if (am_if (am_if (am_if (am_if hf hq0) hq1) hq2) hq3) hq4) hq5) hq6) hq7) hq8) hq9) hq10) hq11) hq12) hq13) hq14) hq15) hq16) hq17) hq18) hq19) hq20) hq21) hq22) hq23) hq24) hq25) hq26) hq27) hq28) hq29) hq30) hq31) hq32) hq33) hq34) hq35) hb)
        · exact tLc37 hX hJ s0 (am_it (am_if (am_if (am_if (am_if (am_if (am_if (am_if (am_if (am_if (am_if (am_if (am_if (am_if (am_if (am_if (am_if (am_if (am_if (am_if (am_if (am_if (am_if (am_if (am_if (am_if (am_if (am_if (am_if (am_if (am_if (am_if (am_if (am_if (am_if (am_if (am_if (am_if hf hq0) hq1) hq2) hq3) hq4) hq5) hq6) hq7) hq8) hq9) hq10) hq11) hq12) hq13) hq14) hq15) hq16) hq17) hq18) hq19) hq20) hq21) hq22) hq23) hq24) hq25) hq26) hq27) hq28) hq29) hq30) hq31) hq32) hq33) hq34) hq35) hq36) hb)
        · exact tLc38 hX hJ s0 (am_it (am_if (am_if (am_if (am_if (am_if (am_if (am_if (am_if (am_if (am_if (am_if (am_if (am_if (am_if (am_if (am_if (am_if (am_if (am_if (am_if (am_if (am_if (am_if (am_if (am_if (am_if (am_if (am_if (am_if (am_if (am_if (am_if (am_if (am_if (am_if (am_if (am_if (am_if hf hq0) hq1) hq2) hq3) hq4) hq5) hq6) hq7) hq8) hq9) hq10) hq11) hq12) hq13) hq14) hq15) hq16) hq17) hq18) hq19) hq20) hq21) hq22) hq23) hq24) hq25) hq26) hq27) hq28) hq29) hq30) hq31) hq32) hq33) hq34) hq35) hq36) hq37) hb)
        · exact tLc39 hX hJ s0 (am_it (am_if (am_if (am_if (am_if (am_if (am_if (am_if (am_if (am_if (am_if (am_if (am_if (am_if (am_if (am_if (am_if (am_if (am_if (am_if (am_if (am_if (am_if (am_if (am_if (am_if (am_if (am_if (am_if (am_if (am_if (am_if (am_if (am_if (am_if (am_if (am_if (am_if (am_if (am_if hf hq0) hq1) hq2) hq3) hq4) hq5) hq6) hq7) hq8) hq9) hq10) hq11) hq12) hq13) hq14) hq15) hq16) hq17) hq18) hq19) hq20) hq21) hq22) hq23) hq24) hq25) hq26) hq27) hq28) hq29) hq30) hq31) hq32) hq33) hq34) hq35) hq36) hq37) hq38) hb)
        · exact tLc40 hX hJ s0 (am_it (am_if (am_if (am_if (am_if (am_if (am_if (am_if (am_if (am_if (am_if (am_if (am_if (am_if (am_if (am_if (am_if (am_if (am_if (am_if (am_if (am_if (am_if (am_if (am_if (am_if (am_if (am_if (am_if (am_if (am_if (am_if (am_if (am_if (am_if (am_if (am_if (am_if (am_if (am_if (am_if hf hq0) hq1) hq2) hq3) hq4) hq5) hq6) hq7) hq8) hq9) hq10) hq11) hq12) hq13) hq14) hq15) hq16) hq17) hq18) hq19) hq20) hq21) hq22) hq23) hq24) hq25) hq26) hq27) hq28) hq29) hq30) hq31) hq32) hq33) hq34) hq35) hq36) hq37) hq38) hq39) hb)
        · exact tLc41 hX hJ s0 (am_it (am_if (am_if (am_if (am_if (am_if (am_if (am_if (am_if (am_if (am_if (am_if (am_if (am_if (am_if (am_if (am_if (am_if (am_if (am_if (am_if (am_if (am_if (am_if (am_if (am_if (am_if (am_if (am_if (am_if (am_if (am_if (am_if (am_if (am_if (am_if (am_if (am_if (am_if (am_if (am_if (am_if hf hq0) hq1) hq2) hq3) hq4) hq5) hq6) hq7) hq8) hq9) hq10) hq11) hq12) hq13) hq14) hq15) hq16) hq17) hq18) hq19) hq20) hq21) hq22) hq23) hq24) hq25) hq26) hq27) hq28) hq29) hq30) hq31) hq32) hq33) hq34) hq35) hq36) hq37) hq38) hq39) hq40) hb)
        · exact tLc42 hX hJ s0 (am_it (am_if (am_if (am_if (am_if (am_if (am_if (am_if (am_if (am_if (am_if (am_if (am_if (am_if (am_if (am_if (am_if (am_if (am_if (am_if (am_if (am_if (am_if (am_if (am_if (am_if (am_if (am_if (am_if (am_if (am_if (am_if (am_if (am_if (am_if (am_if (am_if (am_if (am_if (am_if (am_if (am_if (am_if hf hq0) hq1) hq2) hq3) hq4) hq5) hq6) hq7) hq8) hq9) hq10) hq11) hq12) hq13) hq14) hq15) hq16) hq17) hq18) hq19) hq20) hq21) hq22) hq23) hq24) hq25) hq26) hq27) hq28) hq29) hq30) hq31) hq32) hq33) hq34) hq35) hq36) hq37) hq38) hq39) hq40) hq41) hb)
        · exact tLc43 hX hJ s0 (am_it (am_if (am_if (am_if (am_if (am_if (am_if (am_if (am_if (am_if (am_if (am_if (am_if (am_if (am_if (am_if (am_if (am_if (am_if (am_if (am_if (am_if (am_if (am_if (am_if (am_if (am_if (am_if (am_if (am_if (am_if (am_if (am_if (am_if (am_if (am_if (am_if (am_if (am_if (am_if (am_if (am_if (am_if (am_if hf hq0) hq1) hq2) hq3) hq4) hq5) hq6) hq7) hq8) hq9) hq10) hq11) hq12) hq13) hq14) hq15) hq16) hq17) hq18) hq19) hq20) hq21) hq22) hq23) hq24) hq25) hq26) hq27) hq28) hq29) hq30) hq31) hq32) hq33) hq34) hq35) hq36) hq37) hq38) hq39) hq40) hq41) hq42) hb)
        · exact tLc44 hX hJ s0 (am_it (am_if (am_if (am_if (am_if (am_if (am_if (am_if (am_if (am_if (am_if (am_if (am_if (am_if (am_if (am_if (am_if (am_if (am_if (am_if (am_if (am_if (am_if (am_if (am_if (am_if (am_if (am_if (am_if (am_if (am_if (am_if (am_if (am_if (am_if (am_if (am_if (am_if (am_if (am_if (am_if (am_if (am_if (am_if (am_if hf hq0) hq1) hq2) hq3) hq4) hq5) hq6) hq7) hq8) hq9) hq10) hq11) hq12) hq13) hq14) hq15) hq16) hq17) hq18) hq19) hq20) hq21) hq22) hq23) hq24) hq25) hq26) hq27) hq28) hq29) hq30) hq31) hq32) hq33) hq34) hq35) hq36) hq37) hq38) hq39) hq40) hq41) hq42) hq43) hb)
        · exact tLc45 hX hJ s0 (am_it (am_if (am_if (am_if (am_if (am_if (am_if (am_if (am_if (am_if (am_if (am_if (am_if (am_if (am_if (am_if (am_if (am_if (am_if (am_if (am_if (am_if (am_if (am_if (am_if (am_if (am_if (am_if (am_if (am_if (am_if (am_if (am_if (am_if (am_if (am_if (am_if (am_if (am_if (am_if (am_if (am_if (am_if (am_if (am_if (am_if hf hq0) hq1) hq2) hq3) hq4) hq5) hq6) hq7) hq8) hq9) hq10) hq11) hq12) hq13) hq14) hq15) hq16) hq17) hq18) hq19) hq20) hq21) hq22) hq23) hq24) hq25) hq26) hq27) hq28) hq29) hq30) hq31) hq32) hq33) hq34) hq35) hq36) hq37) hq38) hq39) hq40) hq41) hq42) hq43) hq44) hb)
        · exact tLc46 hX hJ s0 (am_it (am_if (am_if (am_if (am_if (am_if (am_if (am_if (am_if (am_if (am_if (am_if (am_if (am_if (am_if (am_if (am_if (am_if (am_if (am_if (am_if (am_if (am_if (am_if (am_if (am_if (am_if (am_if (am_if (am_if (am_if (am_if (am_if (am_if (am_if (am_if (am_if (am_if (am_if (am_if (am_if (am_if (am_if (am_if (am_if (am_if (am_if hf hq0) hq1) hq2) hq3) hq4) hq5) hq6) hq7) hq8) hq9) hq10) hq11) hq12) hq13) hq14) hq15) hq16) hq17) hq18) hq19) hq20) hq21) hq22) hq23) hq24) hq25) hq26) hq27) hq28) hq29) hq30) hq31) hq32) hq33) hq34) hq35) hq36) hq37) hq38) hq39) hq40) hq41) hq42) hq43) hq44) hq45) hb)
        · exact tLc47 hX hJ s0 (am_it (am_if (am_if (am_if (am_if (am_if (am_if (am_if (am_if (am_if (am_if (am_if (am_if (am_if (am_if (am_if (am_if (am_if (am_if (am_if (am_if (am_if (am_if (am_if (am_if (am_if (am_if (am_if (am_if (am_if (am_if (am_if (am_if (am_if (am_if (am_if (am_if (am_if (am_if (am_if (am_if (am_if (am_if (am_if (am_if (am_if (am_if (am_if hf hq0) hq1) hq2) hq3) hq4) hq5) hq6) hq7) hq8) hq9) hq10) hq11) hq12) hq13) hq14) hq15) hq16) hq17) hq18) hq19) hq20) hq21) hq22) hq23) hq24) hq25) hq26) hq27) hq28) hq29) hq30) hq31) hq32) hq33) hq34) hq35) hq36) hq37) hq38) hq39) hq40) hq41) hq42) hq43) hq44) hq45) hq46) hb)
        · exact tLc48 hX hJ s0 (am_it (am_if (am_if (am_if (am_if (am_if (am_if (am_if (am_if (am_if (am_if (am_if (am_if (am_if (am_if (am_if (am_if (am_if (am_if (am_if (am_if (am_if (am_if (am_if (am_if (am_if (am_if (am_if (am_if (am_if (am_if (am_if (am_if (am_if (am_if (am_if (am_if (am_if (am_if (am_if (am_if (am_if (am_if (am_if (am_if (am_if (am_if (am_if (am_if hf hq0) hq1) hq2) hq3) hq4) hq5) hq6) hq7) hq8) hq9) hq10) hq11) hq12) hq13) hq14) hq15) hq16) hq17) hq18) hq19) hq20) hq21) hq22) hq23) hq24) hq25) hq26) hq27) hq28) hq29) hq30) hq31) hq32) hq33) hq34) hq35) hq36) hq37) hq38) hq39) hq40) hq41) hq42) hq43) hq44) hq45) hq46) hq47) hb)
        · exact tLc49 hX hJ s0 (am_it (am_if (am_if (am_if (am_if (am_if (am_if (am_if (am_if (am_if (am_if (am_if (am_if (am_if (am_if (am_if (am_if (am_if (am_if (am_if (am_if (am_if (am_if (am_if (am_if (am_if (am_if (am_if (am_if (am_if (am_if (am_if (am_if (am_if (am_if (am_if (am_if (am_if (am_if (am_if (am_if (am_if (am_if (am_if (am_if (am_if (am_if (am_if (am_if (am_if hf hq0) hq1) hq2) hq3) hq4) hq5) hq6) hq7) hq8) hq9) hq10) hq11) hq12) hq13) hq14) hq15) hq16) hq17) hq18) hq19) hq20) hq21) hq22) hq23) hq24) hq25) hq26) hq27) hq28) hq29) hq30) hq31) hq32) hq33) hq34) hq35) hq36) hq37) hq38) hq39) hq40) hq41) hq42) hq43) hq44) hq45) hq46) hq47) hq48) hb)
        · exact tLc50 hX hJ s0 (am_it (am_if (am_if (am_if (am_if (am_if (am_if (am_if (am_if (am_if (am_if (am_if (am_if (am_if (am_if (am_if (am_if (am_if (am_if (am_if (am_if (am_if (am_if (am_if (am_if (am_if (am_if (am_if (am_if (am_if (am_if (am_if (am_if (am_if (am_if (am_if (am_if (am_if (am_if (am_if (am_if (am_if (am_if (am_if (am_if (am_if (am_if (am_if (am_if (am_if (am_if hf hq0) hq1) hq2) hq3) hq4) hq5) hq6) hq7) hq8) hq9) hq10) hq11) hq12) hq13) hq14) hq15) hq16) hq17) hq18) hq19) hq20) hq21) hq22) hq23) hq24) hq25) hq26) hq27) hq28) hq29) hq30) hq31) hq32) hq33) hq34) hq35) hq36) hq37) hq38) hq39) hq40) hq41) hq42) hq43) hq44) hq45) hq46) hq47) hq48) hq49) hb)
        · exact tLc51 hX hJ s0 (am_it (am_if (am_if (am_if (am_if (am_if (am_if (am_if (am_if (am_if (am_if (am_if (am_if (am_if (am_if (am_if (am_if (am_if (am_if (am_if (am_if (am_if (am_if (am_if (am_if (am_if (am_if (am_if (am_if (am_if (am_if (am_if (am_if (am_if (am_if (am_if (am_if (am_if (am_if (am_if (am_if (am_if (am_if (am_if (am_if (am_if (am_if (am_if (am_if (am_if (am_if (am_if hf hq0) hq1) hq2) hq3) hq4) hq5) hq6) hq7) hq8) hq9) hq10) hq11) hq12) hq13) hq14) hq15) hq16) hq17) hq18) hq19) hq20) hq21) hq22) hq23) hq24) hq25) hq26) hq27) hq28) hq29) hq30) hq31) hq32) hq33) hq34) hq35) hq36) hq37) hq38) hq39) hq40) hq41) hq42) hq43) hq44) hq45) hq46) hq47) hq48) hq49) hq50) hb)
        · exact tLc52 hX hJ s0 (am_it (am_if (am_if (am_if (am_if (am_if (am_if (am_if (am_if (am_if (am_if (am_if (am_if (am_if (am_if (am_if (am_if (am_if (am_if (am_if (am_if (am_if (am_if (am_if (am_if (am_if (am_if (am_if (am_if (am_if (am_if (am_if (am_if (am_if (am_if (am_if (am_if (am_if (am_if (am_if (am_if (am_if (am_if (am_if (am_if (am_if (am_if (am_if (am_if (am_if (am_if (am_if (am_if hf hq0) hq1) hq2) hq3) hq4) hq5) hq6) hq7) hq8) hq9) hq10) hq11) hq12) hq13) hq14) hq15) hq16) hq17) hq18) hq19) hq20) hq21) hq22) hq23) hq24) hq25) hq26) hq27) hq28) hq29) hq30) hq31) hq32) hq33) hq34) hq35) hq36) hq37) hq38) hq39) hq40) hq41) hq42) hq43) hq44) hq45) hq46) hq47) hq48) hq49) hq50) hq51) hb)
        · exact tLc53 hX hJ s0 (am_it (am_if (am_if (am_if (am_if (am_if (am_if (am_if (am_if (am_if (am_if (am_if (am_if (am_if (am_if (am_if (am_if (am_if (am_if (am_if (am_if (am_if (am_if (am_if (am_if (am_if (am_if (am_if (am_if (am_if (am_if (am_if (am_if (am_if (am_if (am_if (am_if (am_if (am_if (am_if (am_if (am_if (am_if (am_if (am_if (am_if (am_if (am_if (am_if (am_if (am_if (am_if (am_if (am_if hf hq0) hq1) hq2) hq3) hq4) hq5) hq6) hq7) hq8) hq9) hq10) hq11) hq12) hq13) hq14) hq15) hq16) hq17) hq18) hq19) hq20) hq21) hq22) hq23) hq24) hq25) hq26) hq27) hq28) hq29) hq30) hq31) hq32) hq33) hq34) hq35) hq36) hq37) hq38) hq39) hq40) hq41) hq42) hq43) hq44) hq45) hq46) hq47) hq48) hq49) hq50) hq51) hq52) hb)
        · exact tLc54 hX hJ s0 (am_it (am_if (am_if (am_if (am_if (am_if (am_if (am_if (am_if (am_if (am_if (am_if (am_if (am_if (am_if (am_if (am_if (am_if (am_if (am_if (am_if (am_if (am_if (am_if (am_if (am_if (am_if (am_if (am_if (am_if (am_if (am_if (am_if (am_if (am_if (am_if (am_if (am_if (am_if (am_if (am_if (am_if (am_if (am_if (am_if (am_if (am_if (am_if (am_if (am_if (am_if (am_if (am_if (am_if (am_if hf hq0) hq1) hq2) hq3) hq4) hq5) hq6) hq7) hq8) hq9) hq10) hq11) hq12) hq13) hq14) hq15) hq16) hq17) hq18) hq19) hq20) hq21) hq22) hq23) hq24) hq25) hq26) hq27) hq28) hq29) hq30) hq31) hq32) hq33) hq34) hq35) hq36) hq37) hq38) hq39) hq40) hq41) hq42) hq43) hq44) hq45) hq46) hq47) hq48) hq49) hq50) hq51) hq52) hq53) hb)
        · exact tLc55 hX hJ s0 (am_it (am_if (am_if (am_if (am_if (am_if (am_if (am_if (am_if (am_if (am_if (am_if (am_if (am_if (am_if (am_if (am_if (am_if (am_if (am_if (am_if (am_if (am_if (am_if (am_if (am_if (am_if (am_if (am_if (am_if (am_if (am_if (am_if (am_if (am_if (am_if (am_if (am_if (am_if (am_if (am_if (am_if (am_if (am_if (am_if (am_if (am_if (am_if (am_if (am_if (am_if (am_if (am_if (am_if (am_if (am_if hf hq0) hq1) hq2) hq3) hq4) hq5) hq6) hq7) hq8) hq9) hq10) hq11) hq12) hq13) hq14) hq15) hq16) hq17) hq18) hq19) hq20) hq21) hq22) hq23) hq24) hq25) hq26) hq27) hq28) hq29) hq30) hq31) hq32) hq33) hq34) hq35) hq36) hq37) hq38) hq39) hq40) hq41) hq42) hq43) hq44) hq45) hq46) hq47) hq48) hq49) hq50) hq51) hq52) hq53) hq54) hb)
        · exact tLc56 hX hJ s0 (am_it (am_if (am_if (am_if (am_if (am_if (am_if (am_if (am_if (am_if (am_if (am_if (am_if (am_if (am_if (am_if (am_if (am_if (am_if (am_if (am_if (am_if (am_if (am_if (am_if (am_if (am_if (am_if (am_if (am_if (am_if (am_if (am_if (am_if (am_if (am_if (am_if (am_if (am_if (am_if (am_if (am_if (am_if (am_if (am_if (am_if (am_if (am_if (am_if (am_if (am_if (am_if (am_if (am_if (am_if (am_if (am_if hf hq0) hq1) hq2) hq3) hq4) hq5) hq6) hq7) hq8) hq9) hq10) hq11) hq12) hq13) hq14) hq15) hq16) hq17) hq18) hq19) hq20) hq21) hq22) hq23) hq24) hq25) hq26) hq27) hq28) hq29) hq30) hq31) hq32) hq33) hq34) hq35) hq36) hq37) hq38) hq39) hq40) hq41) hq42) hq43) hq44) hq45) hq46) hq47) hq48) hq49) hq50) hq51) hq52) hq53) hq54) hq55) hb)
        · exact tLc57 hX hJ s0 (am_it (am_if (am_if (am_if (am_if (am_if (am_if (am_if (am_if (am_if (am_if (am_if (am_if (am_if (am_if (am_if (am_if (am_if (am_if (am_if (am_if (am_if (am_if (am_if (am_if (am_if (am_if (am_if (am_if (am_if (am_if (am_if (am_if (am_if (am_if (am_if (am_if (am_if (am_if (am_if (am_if (am_if (am_if (am_if (am_if (am_if (am_if (am_if (am_if (am_if (am_if (am_if (am_if (am_if (am_if (am_if (am_if (am_if hf hq0) hq1) hq2) hq3) hq4) hq5) hq6) hq7) hq8) hq9) hq10) hq11) hq12) hq13) hq14) hq15) hq16) hq17) hq18) hq19) hq20) hq21) hq22) hq23) hq24) hq25) hq26) hq27) hq28) hq29) hq30) hq31) hq32) hq33) hq34) hq35) hq36) hq37) hq38) hq39) hq40) hq41) hq42) hq43) hq44) hq45) hq46) hq47) hq48) hq49) hq50) hq51) hq52) hq53) hq54) hq55) hq56) hb)
        · exact tLc58 hX hJ s0 (am_it (am_if (am_if (am_if (am_if (am_if (am_if (am_if (am_if (am_if (am_if (am_if (am_if (am_if (am_if (am_if (am_if (am_if (am_if (am_if (am_if (am_if (am_if (am_if (am_if (am_if (am_if (am_if (am_if (am_if (am_if (am_if (am_if (am_if (am_if (am_if (am_if (am_if (am_if (am_if (am_if (am_if (am_if (am_if (am_if (am_if (am_if (am_if (am_if (am_if (am_if (am_if (am_if (am_if (am_if (am_if (am_if (am_if (am_if hf hq0) hq1) hq2) hq3) hq4) hq5) hq6) hq7) hq8) hq9) hq10) hq11) hq12) hq13) hq14) hq15) hq16) hq17) hq18) hq19) hq20) hq21) hq22) hq23) hq24) hq25) hq26) hq27) hq28) hq29) hq30) hq31) hq32) hq33) hq34) hq35) hq36) hq37) hq38) hq39) hq40) hq41) hq42) hq43) hq44) hq45) hq46) hq47) hq48) hq49) hq50) hq51) hq52) hq53) hq54) hq55) hq56) hq57) hb)
        · exact tLc59 hX hJ s0 (am_it (am_if (am_if (am_if (am_if (am_if (am_if (am_if (am_if (am_if (am_if (am_if (am_if (am_if (am_if (am_if (am_if (am_if (am_if (am_if (am_if (am_if (am_if (am_if (am_if (am_if (am_if (am_if (am_if (am_if (am_if (am_if (am_if (am_if (am_if (am_if (am_if (am_if (am_if (am_if (am_if (am_if (am_if (am_if (am_if (am_if (am_if (am_if (am_if (am_if (am_if (am_if (am_if (am_if (am_if (am_if (am_if (am_if (am_if (am_if hf hq0) hq1) hq2) hq3) hq4) hq5) hq6) hq7) hq8) hq9) hq10) hq11) hq12) hq13) hq14) hq15) hq16) hq17) hq18) hq19) hq20) hq21) hq22) hq23) hq24) hq25) hq26) hq27) hq28) hq29) hq30) hq31) hq32) hq33) hq34) hq35) hq36) hq37) hq38) hq39) hq40) hq41) hq42) hq43) hq44) hq45) hq46) hq47) hq48) hq49) hq50) hq51) hq52) hq53) hq54) hq55) hq56) hq57) hq58) hb)
        · exact tLc60 hX hJ s0 (am_it (am_if (am_if (am_if (am_if (am_if (am_if (am_if (am_if (am_if (am_if (am_if (am_if (am_if (am_if (am_if (am_if (am_if (am_if (am_if (am_if (am_if (am_if (am_if (am_if (am_if (am_if (am_if (am_if (am_if (am_if (am_if (am_if (am_if (am_if (am_if (am_if (am_if (am_if (am_if (am_if (am_if (am_if (am_if (am_if (am_if (am_if (am_if (am_if (am_if (am_if (am_if (am_if (am_if (am_if (am_if (am_if (am_if (am_if (am_if (am_if hf hq0) hq1) hq2) hq3) hq4) hq5) hq6) hq7) hq8) hq9) hq10) hq11) hq12) hq13) hq14) hq15) hq16) hq17) hq18) hq19) hq20) hq21) hq22) hq23) hq24) hq25) hq26) hq27) hq28) hq29) hq30) hq31) hq32) hq33) hq34) hq35) hq36) hq37) hq38) hq39) hq40) hq41) hq42) hq43) hq44) hq45) hq46) hq47) hq48) hq49) hq50) hq51) hq52) hq53) hq54) hq55) hq56) hq57) hq58) hq59) hb)
        · exact tLc61 hX hJ s0 (am_it (am_if (am_if (am_if (am_if (am_if (am_if (am_if (am_if (am_if (am_if (am_if (am_if (am_if (am_if (am_if (am_if (am_if (am_if (am_if (am_if (am_if (am_if (am_if (am_if (am_if (am_if (am_if (am_if (am_if (am_if (am_if (am_if (am_if (am_if (am_if (am_if (am_if (am_if (am_if (am_if (am_if (am_if (am_if (am_if (am_if (am_if (am_if (am_if (am_if (am_if (am_if (am_if (am_if (am_if (am_if (am_if (am_if (am_if (am_if (am_if (am_if hf hq0) hq1) hq2) hq3) hq4) hq5) hq6) hq7) hq8) hq9) hq10) hq11) hq12) hq13) hq14) hq15) hq16) hq17) hq18) hq19) hq20) hq21) hq22) hq23) hq24) hq25) hq26) hq27) hq28) hq29) hq30) hq31) hq32) hq33) hq34) hq35) hq36) hq37) hq38) hq39) hq40) hq41) hq42) hq43) hq44) hq45) hq46) hq47) hq48) hq49) hq50) hq51) hq52) hq53) hq54) hq55) hq56) hq57) hq58) hq59) hq60) hb)
        · exact tLc62 hX hJ s0 (am_it (am_if (am_if (am_if (am_if (am_if (am_if (am_if (am_if (am_if (am_if (am_if (am_if (am_if (am_if (am_if (am_if (am_if (am_if (am_if (am_if (am_if (am_if (am_if (am_if (am_if (am_if (am_if (am_if (am_if (am_if (am_if (am_if (am_if (am_if (am_if (am_if (am_if (am_if (am_if (am_if (am_if (am_if (am_if (am_if (am_if (am_if (am_if (am_if (am_if (am_if (am_if (am_if (am_if (am_if (am_if (am_if (am_if (am_if (am_if (am_if (am_if (am_if hf hq0) hq1) hq2) hq3) hq4) hq5) hq6) hq7) hq8) hq9) hq10) hq11) hq12) hq13) hq14) hq15) hq16) hq17) hq18) hq19) hq20) hq21) hq22) hq23) hq24) hq25) hq26) hq27) hq28) hq29) hq30) hq31) hq32) hq33) hq34) hq35) hq36) hq37) hq38) hq39) hq40) hq41) hq42) hq43) hq44) hq45) hq46) hq47) hq48) hq49) hq50) hq51) hq52) hq53) hq54) hq55) hq56) hq57) hq58) hq59) hq60) hq61) hb)
        · exact tLc63 hX hJ s0 (am_it (am_if (am_if (am_if (am_if (am_if (am_if (am_if (am_if (am_if (am_if (am_if (am_if (am_if (am_if (am_if (am_if (am_if (am_if (am_if (am_if (am_if (am_if (am_if (am_if (am_if (am_if (am_if (am_if (am_if (am_if (am_if (am_if (am_if (am_if (am_if (am_if (am_if (am_if (am_if (am_if (am_if (am_if (am_if (am_if (am_if (am_if (am_if (am_if (am_if (am_if (am_if (am_if (am_if (am_if (am_if (am_if (am_if (am_if (am_if (am_if (am_if (am_if (am_if hf hq0) hq1) hq2) hq3) hq4) hq5) hq6) hq7) hq8) hq9) hq10) hq11) hq12) hq13) hq14) hq15) hq16) hq17) hq18) hq19) hq20) hq21) hq22) hq23) hq24) hq25) hq26) hq27) hq28) hq29) hq30) hq31) hq32) hq33) hq34) hq35) hq36) hq37) hq38) hq39) hq40) hq41) hq42) hq43) hq44) hq45) hq46) hq47) hq48) hq49) hq50) hq51) hq52) hq53) hq54) hq55) hq56) hq57) hq58) hq59) hq60) hq61) hq62) hb)
        · exact tLc64 hX hJ s0 (am_it (am_if (am_if (am_if (am_if (am_if (am_if (am_if (am_if (am_if (am_if (am_if (am_if (am_if (am_if (am_if (am_if (am_if (am_if (am_if (am_if (am_if (am_if (am_if (am_if (am_if (am_if (am_if (am_if (am_if (am_if (am_if (am_if (am_if (am_if (am_if (am_if (am_if (am_if (am_if (am_if (am_if (am_if (am_if (am_if (am_if (am_if (am_if (am_if (am_if (am_if (am_if (am_if (am_if (am_if (am_if (am_if (am_if (am_if (am_if (am_if (am_if (am_if (am_if (am_if hf hq0) hq1) hq2) hq3) hq4) hq5) hq6) hq7) hq8) hq9) hq10) hq11) hq12) hq13) hq14) hq15) hq16) hq17) hq18) hq19) hq20) hq21) hq22) hq23) hq24) hq25) hq26) hq27) hq28) hq29) hq30) hq31) hq32) hq33) hq34) hq35) hq36) hq37) hq38) hq39) hq40) hq41) hq42) hq43) hq44) hq45) hq46) hq47) hq48) hq49) hq50) hq51) hq52) hq53) hq54) hq55) hq56) hq57) hq58) hq59) hq60) hq61) hq62) hq63) hb)
        · exact tLc65 hX hJ s0 (am_it (am_if (am_if (am_if (am_if (am_if (am_if (am_if (am_if (am_if (am_if (am_if (am_if (am_if (am_if (am_if (am_if (am_if (am_if (am_if (am_if (am_if (am_if (am_if (am_if (am_if (am_if (am_if (am_if (am_if (am_if (am_if (am_if (am_if (am_if (am_if (am_if (am_if (am_if (am_if (am_if (am_if (am_if (am_if (am_if (am_if (am_if (am_if (am_if (am_if (am_if (am_if (am_if (am_if (am_if (am_if (am_if (am_if (am_if (am_if (am_if (am_if (am_if (am_if (am_if (am_if hf hq0) hq1) hq2) hq3) hq4) hq5) hq6) hq7) hq8) hq9) hq10) hq11) hq12) hq13) hq14) hq15) hq16) hq17) hq18) hq19) hq20) hq21) hq22) hq23) hq24) hq25) hq26) hq27) hq28) hq29) hq30) hq31) hq32) hq33) hq34) hq35) hq36) hq37) hq38) hq39) hq40) hq41) hq42) hq43) hq44) hq45) hq46) hq47) hq48) hq49) hq50) hq51) hq52) hq53) hq54) hq55) hq56) hq57) hq58) hq59) hq60) hq61) hq62) hq63) hq64) hb)
        · exact tLc66 hX hJ s0 (am_it (am_if (am_if (am_if (am_if (am_if (am_if (am_if (am_if (am_if (am_if (am_if (am_if (am_if (am_if (am_if (am_if (am_if (am_if (am_if (am_if (am_if (am_if (am_if (am_if (am_if (am_if (am_if (am_if (am_if (am_if (am_if (am_if (am_if (am_if (am_if (am_if (am_if (am_if (am_if (am_if (am_if (am_if (am_if (am_if (am_if (am_if (am_if (am_if (am_if (am_if (am_if (am_if (am_if (am_if (am_if (am_if (am_if (am_if (am_if (am_if (am_if (am_if (am_if (am_if (am_if (am_if hf hq0) hq1) hq2) hq3) hq4) hq5) hq6) hq7) hq8) hq9) hq10) hq11) hq12) hq13) hq14) hq15) hq16) hq17) hq18) hq19) hq20) hq21) hq22) hq23) hq24) hq25) hq26) hq27) hq28) hq29) hq30) hq31) hq32) hq33) hq34) hq35) hq36) hq37) hq38) hq39) hq40) hq41) hq42) hq43) hq44) hq45) hq46) hq47) hq48) hq49) hq50) hq51) hq52) hq53) hq54) hq55) hq56) hq57) hq58) hq59) hq60) hq61) hq62) hq63) hq64) hq65) hb)
        · exact tLc67 hX hJ s0 (am_it (am_if (am_if (am_if (am_if (am_if (am_if (am_if (am_if (am_if (am_if (am_if (am_if (am_if (am_if (am_if (am_if (am_if (am_if (am_if (am_if (am_if (am_if (am_if (am_if (am_if (am_if (am_if (am_if (am_if (am_if (am_if (am_if (am_if (am_if (am_if (am_if (am_if (am_if (am_if (am_if (am_if (am_if (am_if (am_if (am_if (am_if (am_if (am_if (am_if (am_if (am_if (am_if (am_if (am_if (am_if (am_if (am_if (am_if (am_if (am_if (am_if (am_if (am_if (am_if (am_if (am_if (am_if hf hq0) hq1) hq2) hq3) hq4) hq5) hq6) hq7) hq8) hq9) hq10) hq11) hq12) hq13) hq14) hq15) hq16) hq17) hq18) hq19) hq20) hq21) hq22) hq23) hq24) hq25) hq26) hq27) hq28) hq29) hq30) hq31) hq32) hq33) hq34) hq35) hq36) hq37) hq38) hq39) hq40) hq41) hq42) hq43) hq44) hq45) hq46) hq47) hq48) hq49) hq50) hq51) hq52) hq53) hq54) hq55) hq56) hq57) hq58) hq59) hq60) hq61) hq62) hq63) hq64) hq65) hq66) hb)
        · exact tLc68 hX hJ s0 (am_it (am_if (am_if (am_if (am_if (am_if (am_if (am_if (am_if (am_if (am_if (am_if (am_if (am_if (am_if (am_if (am_if (am_if (am_if (am_if (am_if (am_if (am_if (am_if (am_if (am_if (am_if (am_if (am_if (am_if (am_if (am_if (am_if (am_if (am_if (am_if (am_if (am_if (am_if (am_if (am_if (am_if (am_if (am_if (am_if (am_if (am_if (am_if (am_if (am_if (am_if (am_if (am_if (am_if (am_if (am_if (am_if (am_if (am_if (am_if (am_if (am_if (am_if (am_if (am_if (am_if (am_if (am_if (am_if hf hq0) hq1) hq2) hq3) hq4) hq5) hq6) hq7) hq8) hq9) hq10) hq11) hq12) hq13) hq14) hq15) hq16) hq17) hq18) hq19) hq20) hq21) hq22) hq23) hq24) hq25) hq26) hq27) hq28) hq29) hq30) hq31) hq32) hq33) hq34) hq35) hq36) hq37) hq38) hq39) hq40) hq41) hq42) hq43) hq44) hq45) hq46) hq47) hq48) hq49) hq50) hq51) hq52) hq53) hq54) hq55) hq56) hq57) hq58) hq59) hq60) hq61) hq62) hq63) hq64) hq65) hq66) hq67) hb)
        · exact tLc69 hX hJ s0 (am_it (am_if (am_if (am_if (am_if (am_if (am_if (am_if (am_if (am_if (am_if (am_if (am_if (am_if (am_if (am_if (am_if (am_if (am_if (am_if (am_if (am_if (am_if (am_if (am_if (am_if (am_if (am_if (am_if (am_if (am_if (am_if (am_if (am_if (am_if (am_if (am_if (am_if (am_if (am_if (am_if (am_if (am_if (am_if (am_if (am_if (am_if (am_if (am_if (am_if (am_if (am_if (am_if (am_if (am_if (am_if (am_if (am_if (am_if (am_if (am_if (am_if (am_if (am_if (am_if (am_if (am_if (am_if (am_if (am_if hf hq0) hq1) hq2) hq3) hq4) hq5) hq6) hq7) hq8) hq9) hq10) hq11) hq12) hq13) hq14) hq15) hq16) hq17) hq18) hq19) hq20) hq21) hq22) hq23) hq24) hq25) hq26) hq27) hq28) hq29) hq30) hq31) hq32) hq33) hq34) hq35) hq36) hq37) hq38) hq39) hq40) hq41) hq42) hq43) hq44) hq45) hq46) hq47) hq48) hq49) hq50) hq51) hq52) hq53) hq54) hq55) hq56) hq57) hq58) hq59) hq60) hq61) hq62) hq63) hq64) hq65) hq66) hq67) hq68) hb)
        · exact hJ s0 (am_if (am_if (am_if (am_if (am_if (am_if (am_if (am_if (am_if (am_if (am_if (am_if (am_if (am_if (am_if (am_if (am_if (am_if (am_if (am_if (am_if (am_if (am_if (am_if (am_if (am_if (am_if (am_if (am_if (am_if (am_if (am_if (am_if (am_if (am_if (am_if (am_if (am_if (am_if (am_if (am_if (am_if (am_if (am_if (am_if (am_if (am_if (am_if (am_if (am_if (am_if (am_if (am_if (am_if (am_if (am_if (am_if (am_if (am_if (am_if (am_if (am_if (am_if (am_if (am_if (am_if (am_if (am_if (am_if (am_if hf hq0) hq1) hq2) hq3) hq4) hq5) hq6) hq7) hq8) hq9) hq10) hq11) hq12) hq13) hq14) hq15) hq16) hq17) hq18) hq19) hq20) hq21) hq22) hq23) hq24) hq25) hq26) hq27) hq28) hq29) hq30) hq31) hq32) hq33) hq34) hq35) hq36) hq37) hq38) hq39) hq40) hq41) hq42) hq43) hq44) hq45) hq46) hq47) hq48) hq49) hq50) hq51) hq52) hq53) hq54) hq55) hq56) hq57) hq58) hq59) hq60) hq61) hq62) hq63) hq64) hq65) hq66) hq67) hq68) hq69)
