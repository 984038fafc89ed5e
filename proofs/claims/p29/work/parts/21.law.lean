def R_law : String := "SleepMintLaw"
def lw_P (b : Addr) (xs : List Int32) (args : Array Value) (s : State) : Prop := args = #[.ref b] ∧ s.IntsAt b xs ∧ xs.length ≤ 384 ∧ (Jvm.Cond.and given_1 narrow_1).before args s = true
def lw_Q (_ : Array Value) (s : State) (o : Outcome) (t : State) : Prop := o = .returned (some (.int 1)) ∧ Framed s o t [] 600000 7302250
def lw_Z (below : List Frame) (a : Array Value) (s : State) : State → Prop := fun t => ∃ o, t.status = .running ∧ Ended t below o ∧ lw_Q a s o t
/-- the law's own end, with 1 on the stack, nothing written that was there before, its room as the claim has it -/
theorem lw_ret {p : Program} {l : Launch} {e : Env} {s : State} {m : MethodId} {below : List Frame} {meth : Method} {c : Code} {b : Nat} (hx : p.tables.exec = Jvm.exec) (hb : c.code = code) (hr : meth.sig.returnType = ret) (hlocks : meth.locks = false) {pc : Nat} {H : Heap} {ls : Array Slot} (hdg : decode code pc = .ok (.ireturn, 1)) : W p l e room_1 s m #[Value.ref b] below meth c H [] 600000 7302250 (lw_Z below #[Value.ref b] s) (F0 m pc ls [.int 1]) := by
  intro T hT X
  obtain ⟨fs, hret, hrun, hended, hW, hframe⟩ := X.leave (v := some (.int 1)) (hlocks := hlocks) (fun h => by rw [hr] at h; cases h)
  have hmeth' : T.vm.method? m = some meth := X.method'
  refine ⟨T.setFrames fs, ?_, .returned (some (.int 1)), hrun, hended, rfl, ⟨_, rfl⟩, hW, hframe⟩
  jvm_step X.here [X.here.top, hx, hb, hdg, hmeth', hr, ret, narrow_b1]
  (try refine ⟨rfl, ?_⟩); (try refine ⟨rfl, ?_⟩)
  first | (intro acts; rw [hret _ acts rfl rfl rfl]) | rw [hret _ _ rfl rfl rfl]
  exact Steps.refl _
/-- what holds at the law's entry: the machine, the code, the tables' words (any of lw_tbl by 'hts w (by decide +kernel)'), the script of L ints xs at the cell b, what the Statement gives of the start (any of its parts by flat_of_before) -/
def lw_At (p : Program) (s : State) (m : MethodId) (meth : Method) (c : Code) (b L : Nat) (xs : Nat → Int32) : Prop :=
  p.tables.exec = Jvm.exec ∧ c.code = code ∧ meth.sig.returnType = ret ∧ c.maxLocals = 4 ∧ s.vm.findClass R_law = some m.cls ∧ (∀ w ∈ lw_tbl, w.before #[Value.ref b] s = true) ∧ va_X b L xs s s.heap ∧ b < s.heap.size ∧ meth.locks = false ∧ (Jvm.Cond.and given_1 narrow_1).before #[Value.ref b] s = true

def lw_E (l : Launch) (b L : Nat) (xs : Nat → Int32) : am_EV := (l, 4, R_law, room_1, lw_h00, true, fun _ _ _ s args below => lw_Z below args s, fun _ α0 sz s args meth => args = #[.ref b] ∧ α0 1000000 = b ∧ va_X b L xs s s.heap ∧ b < sz ∧ meth.sig.returnType = ret ∧ meth.locks = false)
theorem am_fcs0 {E : am_EV} {M : am_D} {cs : Nat × Nat} (hz : (am_rm M).cells = 0 ∧ (am_rm M).slots = 0) (h1 : cs.1 ≤ (am_er E).cells) (h2 : cs.2 ≤ (am_er E).slots) : am_fcs E M cs := by
  unfold am_fcs
  rw [hz.1, hz.2]
  exact ⟨h1, h2⟩
theorem am_callVB {E : am_EV} {cc : ByteArray} {cs : Nat × Nat} {pc : Nat} {L : List (Nat × Value)} {st : List Value} {h : am_H} {M : am_D} {Φ : am_Ph} {As : List Value} {b c z n idx n1 n2 : Nat} (hz : (am_rm M).cells = n1 ∧ (am_rm M).slots = n2) (hal : am_ea E = true) (hle : (am_eh E).1.length ≤ h.1.length) (hLv : L.all (fun q => am_ok h.1.length q.2) = true) (hsv : st.all (am_ok h.1.length) = true) (hM : am_CT (am_el E) M true (.ref b :: As) h Φ) (hs : h.1[b]? = some (c + 2, z)) (hc : c < 7) (hcn : am_cn c = M.1.cls) (hw : Cond.methodLink (am_eo E) idx M.1 ∈ am_TB ∧ Cond.instanceMethod M.1 ∈ am_TB ∧ Cond.selects M.1.cls M.1 M.1 ∈ am_TB) (hld : am_LD M n) (hn : As.length = n) (hR : am_fit E M) (hst : (st.map fun v => v.category).sum ≤ 8) (hcs : cs.1 + n1 ≤ (am_er E).cells ∧ cs.2 + n2 ≤ (am_er E).slots) (hd : decode cc pc = .ok (.invokevirtual idx, 3))
    (kk : ∀ v h', Φ v h' → am_Ex E cc (cs.1 + n1, cs.2 + n2) (pc + 3) L (v.toList ++ st) h') : am_Ex E cc cs pc L (As.reverse ++ .ref b :: st) h := by
  obtain ⟨rfl, rfl⟩ := hz
  exact am_callVA hal hle hLv hsv hM hs hc hcn hw hld hn hR hst hcs hd kk
section LWR
variable {l : Launch} {b L : Nat} {xs : Nat → Int32} {cc : ByteArray} {cs : Nat × Nat} {pc : Nat} {Lo : List (Nat × Value)} {st : List Value} {h : am_H}
theorem lw_notA {g : am_G} {α0 : Nat → Nat} {sz : Nat} (hb : b < sz) : ¬ am_A (lw_E l b L xs) g α0 sz b := by
  intro q
  rcases q with ⟨k, e, hk⟩ | q
  · simp [am_w, lw_E, lw_h00] at hk
  · omega
theorem lw_sld {i : Int32} (hi : vp_in i L) (hd : decode cc pc = .ok (.iaload, 1)) (kk : am_Ex (lw_E l b L xs) cc cs (pc + 1) Lo (.int (xs i.toNatClampNeg) :: st) h) : am_Ex (lw_E l b L xs) cc cs pc Lo (.int i :: .ref 1000000 :: st) h := by
  intro g α0 sz α p e s m args below meth c' H locs ls C X hl
  have C' := C
  obtain ⟨hx, hb, -, -, -, -, hsz, ⟨ha, hα, hX, hbl, -⟩, hrel⟩ := C'
  have hα' : α 1000000 = b := by rw [hrel.1 1000000 (Or.inr (Nat.le_refl _)), hα]
  have e1 : (Value.int i :: Value.ref 1000000 :: st).map (am_fv α) = .int i :: .ref b :: st.map (am_fv α) := by simp [am_fv, hα']
  rw [e1]
  exact va_sld hx hb hX (by rw [hsz]; exact hbl) (lw_notA hbl) X.2.2.2 hi hd (kk _ _ _ _ _ _ _ _ _ _ _ _ _ _ _ C X hl)
theorem lw_slen (hd : decode cc pc = .ok (.arraylength, 1)) (kk : am_Ex (lw_E l b L xs) cc cs (pc + 1) Lo (.int (Int32.ofNat L) :: st) h) : am_Ex (lw_E l b L xs) cc cs pc Lo (.ref 1000000 :: st) h := by
  intro g α0 sz α p e s m args below meth c' H locs ls C X hl
  have C' := C
  obtain ⟨hx, hb, -, -, -, -, hsz, ⟨ha, hα, hX, hbl, -⟩, hrel⟩ := C'
  have hα' : α 1000000 = b := by rw [hrel.1 1000000 (Or.inr (Nat.le_refl _)), hα]
  have e1 : (Value.ref 1000000 :: st).map (am_fv α) = .ref b :: st.map (am_fv α) := by simp [am_fv, hα']
  rw [e1]
  exact va_slen hx hb hX (by rw [hsz]; exact hbl) (lw_notA hbl) X.2.2.2 hd (kk _ _ _ _ _ _ _ _ _ _ _ _ _ _ _ C X hl)
theorem lw_end (hc : cs.1 ≤ 600000 ∧ cs.2 ≤ 7302250) (hd : decode code pc = .ok (.ireturn, 1)) : am_Ex (lw_E l b L xs) code cs pc Lo [.int 1] h := by
  intro g α0 sz α p e s m args below meth c' H locs ls C X hl
  obtain ⟨hx, hb, -, -, -, -, hsz, ⟨ha, hα, hX, hbl, hr, hlk⟩, hrel⟩ := C
  subst ha
  refine W.widen hc.1 hc.2 ?_
  refine va_forget (fun q hq => ?_) ?_
  · rcases X.2.2.2.2.2 q hq with ⟨k, e, hk⟩ | q
    · simp [am_w, lw_E, lw_h00] at hk
    · rw [hsz]; exact q
  · exact lw_ret hx hb hr hlk hd
end LWR
def tb_law_0 : List (Nat × Instr × Nat) := [(0, .new 7, 3), (3, .dup, 1), (4, .invokespecial 9, 3), (7, .astore_n 1, 1), (8, .new 10, 3), (11, .dup, 1), (12, .invokespecial 12, 3), (15, .astore_n 2, 1), (16, .iconst 0, 1), (17, .istore_n 3, 1), (18, .iload_n 3, 1), (19, .aload_n 0, 1), (20, .arraylength, 1), (21, .bipush 6, 2), (23, .isub, 1), (24, .if_icmp .gt 976, 3), (27, .aload_n 0, 1), (28, .iload_n 3, 1), (29, .iaload, 1), (30, .bipush 31, 2), (32, .iand, 1), (33, .tableswitch 961 0 27 #[127, 150, 163, 176, 199, 232, 265, 288, 321, 344, 367, 410, 453, 476, 509, 552, 585, 618, 641, 704, 757, 800, 833, 866, 879, 892, 915, 938], 127), (160, .aload_n 1, 1), (161, .aload_n 0, 1), (162, .iload_n 3, 1), (163, .iconst 1, 1), (164, .iadd, 1), (165, .iaload, 1), (166, .invokevirtual 13, 3), (169, .pop, 1), (170, .aload_n 2, 1), (171, .aload_n 0, 1), (172, .iload_n 3, 1), (173, .iconst 1, 1), (174, .iadd, 1), (175, .iaload, 1), (176, .invokevirtual 17, 3), (179, .pop, 1), (180, .goto 814, 3), (183, .aload_n 1, 1), (184, .invokevirtual 18, 3), (187, .pop, 1), (188, .aload_n 2, 1), (189, .invokevirtual 22, 3), (192, .pop, 1), (193, .goto 801, 3), (196, .aload_n 1, 1), (197, .invokevirtual 23, 3), (200, .pop, 1), (201, .aload_n 2, 1)]
theorem tk_law_0 : am_tbl code tb_law_0 = true := by decide +kernel
def tb_law_1 : List (Nat × Instr × Nat) := [(202, .invokevirtual 26, 3), (205, .pop, 1), (206, .goto 788, 3), (209, .aload_n 1, 1), (210, .aload_n 0, 1), (211, .iload_n 3, 1), (212, .iconst 1, 1), (213, .iadd, 1), (214, .iaload, 1), (215, .invokevirtual 27, 3), (218, .pop, 1), (219, .aload_n 2, 1), (220, .aload_n 0, 1), (221, .iload_n 3, 1), (222, .iconst 1, 1), (223, .iadd, 1), (224, .iaload, 1), (225, .invokevirtual 30, 3), (228, .pop, 1), (229, .goto 765, 3), (232, .aload_n 1, 1), (233, .aload_n 0, 1), (234, .iload_n 3, 1), (235, .iconst 1, 1), (236, .iadd, 1), (237, .iaload, 1), (238, .aload_n 0, 1), (239, .iload_n 3, 1), (240, .iconst 2, 1), (241, .iadd, 1), (242, .iaload, 1), (243, .invokevirtual 31, 3), (246, .pop, 1), (247, .aload_n 2, 1), (248, .aload_n 0, 1), (249, .iload_n 3, 1), (250, .iconst 1, 1), (251, .iadd, 1), (252, .iaload, 1), (253, .aload_n 0, 1), (254, .iload_n 3, 1), (255, .iconst 2, 1), (256, .iadd, 1), (257, .iaload, 1), (258, .invokevirtual 35, 3), (261, .pop, 1), (262, .goto 732, 3), (265, .aload_n 1, 1), (266, .aload_n 0, 1), (267, .iload_n 3, 1)]
theorem tk_law_1 : am_tbl code tb_law_1 = true := by decide +kernel
def tb_law_2 : List (Nat × Instr × Nat) := [(268, .iconst 1, 1), (269, .iadd, 1), (270, .iaload, 1), (271, .aload_n 0, 1), (272, .iload_n 3, 1), (273, .iconst 2, 1), (274, .iadd, 1), (275, .iaload, 1), (276, .invokevirtual 36, 3), (279, .pop, 1), (280, .aload_n 2, 1), (281, .aload_n 0, 1), (282, .iload_n 3, 1), (283, .iconst 1, 1), (284, .iadd, 1), (285, .iaload, 1), (286, .aload_n 0, 1), (287, .iload_n 3, 1), (288, .iconst 2, 1), (289, .iadd, 1), (290, .iaload, 1), (291, .invokevirtual 39, 3), (294, .pop, 1), (295, .goto 699, 3), (298, .aload_n 1, 1), (299, .aload_n 0, 1), (300, .iload_n 3, 1), (301, .iconst 1, 1), (302, .iadd, 1), (303, .iaload, 1), (304, .invokevirtual 40, 3), (307, .pop, 1), (308, .aload_n 2, 1), (309, .aload_n 0, 1), (310, .iload_n 3, 1), (311, .iconst 1, 1), (312, .iadd, 1), (313, .iaload, 1), (314, .invokevirtual 43, 3), (317, .pop, 1), (318, .goto 676, 3), (321, .aload_n 1, 1), (322, .aload_n 0, 1), (323, .iload_n 3, 1), (324, .iconst 1, 1), (325, .iadd, 1), (326, .iaload, 1), (327, .aload_n 0, 1), (328, .iload_n 3, 1), (329, .iconst 2, 1)]
theorem tk_law_2 : am_tbl code tb_law_2 = true := by decide +kernel
def tb_law_3 : List (Nat × Instr × Nat) := [(330, .iadd, 1), (331, .iaload, 1), (332, .invokevirtual 44, 3), (335, .pop, 1), (336, .aload_n 2, 1), (337, .aload_n 0, 1), (338, .iload_n 3, 1), (339, .iconst 1, 1), (340, .iadd, 1), (341, .iaload, 1), (342, .aload_n 0, 1), (343, .iload_n 3, 1), (344, .iconst 2, 1), (345, .iadd, 1), (346, .iaload, 1), (347, .invokevirtual 47, 3), (350, .pop, 1), (351, .goto 643, 3), (354, .aload_n 1, 1), (355, .aload_n 0, 1), (356, .iload_n 3, 1), (357, .iconst 1, 1), (358, .iadd, 1), (359, .iaload, 1), (360, .invokevirtual 48, 3), (363, .pop, 1), (364, .aload_n 2, 1), (365, .aload_n 0, 1), (366, .iload_n 3, 1), (367, .iconst 1, 1), (368, .iadd, 1), (369, .iaload, 1), (370, .invokevirtual 51, 3), (373, .pop, 1), (374, .goto 620, 3), (377, .aload_n 1, 1), (378, .aload_n 0, 1), (379, .iload_n 3, 1), (380, .iconst 1, 1), (381, .iadd, 1), (382, .iaload, 1), (383, .invokevirtual 52, 3), (386, .pop, 1), (387, .aload_n 2, 1), (388, .aload_n 0, 1), (389, .iload_n 3, 1), (390, .iconst 1, 1), (391, .iadd, 1), (392, .iaload, 1), (393, .invokevirtual 55, 3)]
theorem tk_law_3 : am_tbl code tb_law_3 = true := by decide +kernel
def tb_law_4 : List (Nat × Instr × Nat) := [(396, .pop, 1), (397, .goto 597, 3), (400, .aload_n 1, 1), (401, .aload_n 0, 1), (402, .iload_n 3, 1), (403, .iconst 1, 1), (404, .iadd, 1), (405, .iaload, 1), (406, .aload_n 0, 1), (407, .iload_n 3, 1), (408, .iconst 2, 1), (409, .iadd, 1), (410, .iaload, 1), (411, .aload_n 0, 1), (412, .iload_n 3, 1), (413, .iconst 3, 1), (414, .iadd, 1), (415, .iaload, 1), (416, .invokevirtual 56, 3), (419, .pop, 1), (420, .aload_n 2, 1), (421, .aload_n 0, 1), (422, .iload_n 3, 1), (423, .iconst 1, 1), (424, .iadd, 1), (425, .iaload, 1), (426, .aload_n 0, 1), (427, .iload_n 3, 1), (428, .iconst 2, 1), (429, .iadd, 1), (430, .iaload, 1), (431, .aload_n 0, 1), (432, .iload_n 3, 1), (433, .iconst 3, 1), (434, .iadd, 1), (435, .iaload, 1), (436, .invokevirtual 60, 3), (439, .pop, 1), (440, .goto 554, 3), (443, .aload_n 1, 1), (444, .aload_n 0, 1), (445, .iload_n 3, 1), (446, .iconst 1, 1), (447, .iadd, 1), (448, .iaload, 1), (449, .aload_n 0, 1), (450, .iload_n 3, 1), (451, .iconst 2, 1), (452, .iadd, 1), (453, .iaload, 1)]
theorem tk_law_4 : am_tbl code tb_law_4 = true := by decide +kernel
def tb_law_5 : List (Nat × Instr × Nat) := [(454, .aload_n 0, 1), (455, .iload_n 3, 1), (456, .iconst 3, 1), (457, .iadd, 1), (458, .iaload, 1), (459, .invokevirtual 61, 3), (462, .pop, 1), (463, .aload_n 2, 1), (464, .aload_n 0, 1), (465, .iload_n 3, 1), (466, .iconst 1, 1), (467, .iadd, 1), (468, .iaload, 1), (469, .aload_n 0, 1), (470, .iload_n 3, 1), (471, .iconst 2, 1), (472, .iadd, 1), (473, .iaload, 1), (474, .aload_n 0, 1), (475, .iload_n 3, 1), (476, .iconst 3, 1), (477, .iadd, 1), (478, .iaload, 1), (479, .invokevirtual 64, 3), (482, .pop, 1), (483, .goto 511, 3), (486, .aload_n 1, 1), (487, .aload_n 0, 1), (488, .iload_n 3, 1), (489, .iconst 1, 1), (490, .iadd, 1), (491, .iaload, 1), (492, .invokevirtual 65, 3), (495, .pop, 1), (496, .aload_n 2, 1), (497, .aload_n 0, 1), (498, .iload_n 3, 1), (499, .iconst 1, 1), (500, .iadd, 1), (501, .iaload, 1), (502, .invokevirtual 68, 3), (505, .pop, 1), (506, .goto 488, 3), (509, .aload_n 1, 1), (510, .aload_n 0, 1), (511, .iload_n 3, 1), (512, .iconst 1, 1), (513, .iadd, 1), (514, .iaload, 1), (515, .aload_n 0, 1)]
theorem tk_law_5 : am_tbl code tb_law_5 = true := by decide +kernel
def tb_law_6 : List (Nat × Instr × Nat) := [(516, .iload_n 3, 1), (517, .iconst 2, 1), (518, .iadd, 1), (519, .iaload, 1), (520, .invokevirtual 69, 3), (523, .pop, 1), (524, .aload_n 2, 1), (525, .aload_n 0, 1), (526, .iload_n 3, 1), (527, .iconst 1, 1), (528, .iadd, 1), (529, .iaload, 1), (530, .aload_n 0, 1), (531, .iload_n 3, 1), (532, .iconst 2, 1), (533, .iadd, 1), (534, .iaload, 1), (535, .invokevirtual 72, 3), (538, .pop, 1), (539, .goto 455, 3), (542, .aload_n 1, 1), (543, .aload_n 0, 1), (544, .iload_n 3, 1), (545, .iconst 1, 1), (546, .iadd, 1), (547, .iaload, 1), (548, .aload_n 0, 1), (549, .iload_n 3, 1), (550, .iconst 2, 1), (551, .iadd, 1), (552, .iaload, 1), (553, .aload_n 0, 1), (554, .iload_n 3, 1), (555, .iconst 3, 1), (556, .iadd, 1), (557, .iaload, 1), (558, .invokevirtual 73, 3), (561, .pop, 1), (562, .aload_n 2, 1), (563, .aload_n 0, 1), (564, .iload_n 3, 1), (565, .iconst 1, 1), (566, .iadd, 1), (567, .iaload, 1), (568, .aload_n 0, 1), (569, .iload_n 3, 1), (570, .iconst 2, 1), (571, .iadd, 1), (572, .iaload, 1), (573, .aload_n 0, 1)]
theorem tk_law_6 : am_tbl code tb_law_6 = true := by decide +kernel
def tb_law_7 : List (Nat × Instr × Nat) := [(574, .iload_n 3, 1), (575, .iconst 3, 1), (576, .iadd, 1), (577, .iaload, 1), (578, .invokevirtual 76, 3), (581, .pop, 1), (582, .goto 412, 3), (585, .aload_n 1, 1), (586, .aload_n 0, 1), (587, .iload_n 3, 1), (588, .iconst 1, 1), (589, .iadd, 1), (590, .iaload, 1), (591, .aload_n 0, 1), (592, .iload_n 3, 1), (593, .iconst 2, 1), (594, .iadd, 1), (595, .iaload, 1), (596, .invokevirtual 77, 3), (599, .pop, 1), (600, .aload_n 2, 1), (601, .aload_n 0, 1), (602, .iload_n 3, 1), (603, .iconst 1, 1), (604, .iadd, 1), (605, .iaload, 1), (606, .aload_n 0, 1), (607, .iload_n 3, 1), (608, .iconst 2, 1), (609, .iadd, 1), (610, .iaload, 1), (611, .invokevirtual 80, 3), (614, .pop, 1), (615, .goto 379, 3), (618, .aload_n 1, 1), (619, .aload_n 0, 1), (620, .iload_n 3, 1), (621, .iconst 1, 1), (622, .iadd, 1), (623, .iaload, 1), (624, .aload_n 0, 1), (625, .iload_n 3, 1), (626, .iconst 2, 1), (627, .iadd, 1), (628, .iaload, 1), (629, .invokevirtual 81, 3), (632, .pop, 1), (633, .aload_n 2, 1), (634, .aload_n 0, 1), (635, .iload_n 3, 1)]
theorem tk_law_7 : am_tbl code tb_law_7 = true := by decide +kernel
def tb_law_8 : List (Nat × Instr × Nat) := [(636, .iconst 1, 1), (637, .iadd, 1), (638, .iaload, 1), (639, .aload_n 0, 1), (640, .iload_n 3, 1), (641, .iconst 2, 1), (642, .iadd, 1), (643, .iaload, 1), (644, .invokevirtual 84, 3), (647, .pop, 1), (648, .goto 346, 3), (651, .aload_n 1, 1), (652, .aload_n 0, 1), (653, .iload_n 3, 1), (654, .iconst 1, 1), (655, .iadd, 1), (656, .iaload, 1), (657, .invokevirtual 85, 3), (660, .pop, 1), (661, .aload_n 2, 1), (662, .aload_n 0, 1), (663, .iload_n 3, 1), (664, .iconst 1, 1), (665, .iadd, 1), (666, .iaload, 1), (667, .invokevirtual 88, 3), (670, .pop, 1), (671, .goto 323, 3), (674, .aload_n 1, 1), (675, .aload_n 0, 1), (676, .iload_n 3, 1), (677, .iconst 1, 1), (678, .iadd, 1), (679, .iaload, 1), (680, .aload_n 0, 1), (681, .iload_n 3, 1), (682, .iconst 2, 1), (683, .iadd, 1), (684, .iaload, 1), (685, .aload_n 0, 1), (686, .iload_n 3, 1), (687, .iconst 3, 1), (688, .iadd, 1), (689, .iaload, 1), (690, .aload_n 0, 1), (691, .iload_n 3, 1), (692, .iconst 4, 1), (693, .iadd, 1), (694, .iaload, 1), (695, .aload_n 0, 1)]
theorem tk_law_8 : am_tbl code tb_law_8 = true := by decide +kernel
def tb_law_9 : List (Nat × Instr × Nat) := [(696, .iload_n 3, 1), (697, .iconst 5, 1), (698, .iadd, 1), (699, .iaload, 1), (700, .invokevirtual 89, 3), (703, .pop, 1), (704, .aload_n 2, 1), (705, .aload_n 0, 1), (706, .iload_n 3, 1), (707, .iconst 1, 1), (708, .iadd, 1), (709, .iaload, 1), (710, .aload_n 0, 1), (711, .iload_n 3, 1), (712, .iconst 2, 1), (713, .iadd, 1), (714, .iaload, 1), (715, .aload_n 0, 1), (716, .iload_n 3, 1), (717, .iconst 3, 1), (718, .iadd, 1), (719, .iaload, 1), (720, .aload_n 0, 1), (721, .iload_n 3, 1), (722, .iconst 4, 1), (723, .iadd, 1), (724, .iaload, 1), (725, .aload_n 0, 1), (726, .iload_n 3, 1), (727, .iconst 5, 1), (728, .iadd, 1), (729, .iaload, 1), (730, .invokevirtual 93, 3), (733, .pop, 1), (734, .goto 260, 3), (737, .aload_n 1, 1), (738, .aload_n 0, 1), (739, .iload_n 3, 1), (740, .iconst 1, 1), (741, .iadd, 1), (742, .iaload, 1), (743, .aload_n 0, 1), (744, .iload_n 3, 1), (745, .iconst 2, 1), (746, .iadd, 1), (747, .iaload, 1), (748, .aload_n 0, 1), (749, .iload_n 3, 1), (750, .iconst 3, 1), (751, .iadd, 1)]
theorem tk_law_9 : am_tbl code tb_law_9 = true := by decide +kernel
def tb_law_10 : List (Nat × Instr × Nat) := [(752, .iaload, 1), (753, .aload_n 0, 1), (754, .iload_n 3, 1), (755, .iconst 4, 1), (756, .iadd, 1), (757, .iaload, 1), (758, .invokevirtual 94, 3), (761, .pop, 1), (762, .aload_n 2, 1), (763, .aload_n 0, 1), (764, .iload_n 3, 1), (765, .iconst 1, 1), (766, .iadd, 1), (767, .iaload, 1), (768, .aload_n 0, 1), (769, .iload_n 3, 1), (770, .iconst 2, 1), (771, .iadd, 1), (772, .iaload, 1), (773, .aload_n 0, 1), (774, .iload_n 3, 1), (775, .iconst 3, 1), (776, .iadd, 1), (777, .iaload, 1), (778, .aload_n 0, 1), (779, .iload_n 3, 1), (780, .iconst 4, 1), (781, .iadd, 1), (782, .iaload, 1), (783, .invokevirtual 98, 3), (786, .pop, 1), (787, .goto 207, 3), (790, .aload_n 1, 1), (791, .aload_n 0, 1), (792, .iload_n 3, 1), (793, .iconst 1, 1), (794, .iadd, 1), (795, .iaload, 1), (796, .aload_n 0, 1), (797, .iload_n 3, 1), (798, .iconst 2, 1), (799, .iadd, 1), (800, .iaload, 1), (801, .aload_n 0, 1), (802, .iload_n 3, 1), (803, .iconst 3, 1), (804, .iadd, 1), (805, .iaload, 1), (806, .invokevirtual 99, 3), (809, .pop, 1)]
theorem tk_law_10 : am_tbl code tb_law_10 = true := by decide +kernel
def tb_law_11 : List (Nat × Instr × Nat) := [(810, .aload_n 2, 1), (811, .aload_n 0, 1), (812, .iload_n 3, 1), (813, .iconst 1, 1), (814, .iadd, 1), (815, .iaload, 1), (816, .aload_n 0, 1), (817, .iload_n 3, 1), (818, .iconst 2, 1), (819, .iadd, 1), (820, .iaload, 1), (821, .aload_n 0, 1), (822, .iload_n 3, 1), (823, .iconst 3, 1), (824, .iadd, 1), (825, .iaload, 1), (826, .invokevirtual 102, 3), (829, .pop, 1), (830, .goto 164, 3), (833, .aload_n 1, 1), (834, .aload_n 0, 1), (835, .iload_n 3, 1), (836, .iconst 1, 1), (837, .iadd, 1), (838, .iaload, 1), (839, .aload_n 0, 1), (840, .iload_n 3, 1), (841, .iconst 2, 1), (842, .iadd, 1), (843, .iaload, 1), (844, .invokevirtual 103, 3), (847, .pop, 1), (848, .aload_n 2, 1), (849, .aload_n 0, 1), (850, .iload_n 3, 1), (851, .iconst 1, 1), (852, .iadd, 1), (853, .iaload, 1), (854, .aload_n 0, 1), (855, .iload_n 3, 1), (856, .iconst 2, 1), (857, .iadd, 1), (858, .iaload, 1), (859, .invokevirtual 106, 3), (862, .pop, 1), (863, .goto 131, 3), (866, .aload_n 1, 1), (867, .aload_n 0, 1), (868, .iload_n 3, 1), (869, .iconst 1, 1)]
theorem tk_law_11 : am_tbl code tb_law_11 = true := by decide +kernel
def tb_law_12 : List (Nat × Instr × Nat) := [(870, .iadd, 1), (871, .iaload, 1), (872, .aload_n 0, 1), (873, .iload_n 3, 1), (874, .iconst 2, 1), (875, .iadd, 1), (876, .iaload, 1), (877, .invokevirtual 107, 3), (880, .pop, 1), (881, .aload_n 2, 1), (882, .aload_n 0, 1), (883, .iload_n 3, 1), (884, .iconst 1, 1), (885, .iadd, 1), (886, .iaload, 1), (887, .aload_n 0, 1), (888, .iload_n 3, 1), (889, .iconst 2, 1), (890, .iadd, 1), (891, .iaload, 1), (892, .invokevirtual 110, 3), (895, .pop, 1), (896, .goto 98, 3), (899, .aload_n 1, 1), (900, .invokevirtual 111, 3), (903, .pop, 1), (904, .aload_n 2, 1), (905, .invokevirtual 114, 3), (908, .pop, 1), (909, .goto 85, 3), (912, .aload_n 1, 1), (913, .invokevirtual 115, 3), (916, .pop, 1), (917, .aload_n 2, 1), (918, .invokevirtual 118, 3), (921, .pop, 1), (922, .goto 72, 3), (925, .aload_n 1, 1), (926, .aload_n 0, 1), (927, .iload_n 3, 1), (928, .iconst 1, 1), (929, .iadd, 1), (930, .iaload, 1), (931, .invokevirtual 119, 3), (934, .pop, 1), (935, .aload_n 2, 1), (936, .aload_n 0, 1), (937, .iload_n 3, 1), (938, .iconst 1, 1), (939, .iadd, 1)]
theorem tk_law_12 : am_tbl code tb_law_12 = true := by decide +kernel
def tb_law_13 : List (Nat × Instr × Nat) := [(940, .iaload, 1), (941, .invokevirtual 122, 3), (944, .pop, 1), (945, .goto 49, 3), (948, .aload_n 1, 1), (949, .aload_n 0, 1), (950, .iload_n 3, 1), (951, .iconst 1, 1), (952, .iadd, 1), (953, .iaload, 1), (954, .invokevirtual 123, 3), (957, .pop, 1), (958, .aload_n 2, 1), (959, .aload_n 0, 1), (960, .iload_n 3, 1), (961, .iconst 1, 1), (962, .iadd, 1), (963, .iaload, 1), (964, .invokevirtual 126, 3), (967, .pop, 1), (968, .goto 26, 3), (971, .aload_n 1, 1), (972, .aload_n 0, 1), (973, .iload_n 3, 1), (974, .iconst 1, 1), (975, .iadd, 1), (976, .iaload, 1), (977, .invokevirtual 127, 3), (980, .aload_n 2, 1), (981, .aload_n 0, 1), (982, .iload_n 3, 1), (983, .iconst 1, 1), (984, .iadd, 1), (985, .iaload, 1), (986, .invokevirtual 130, 3), (989, .if_icmp .eq 5, 3), (992, .iconst 0, 1), (993, .ireturn, 1), (994, .iinc 3 6, 3), (997, .goto (-979), 3), (1000, .iconst 1, 1), (1001, .ireturn, 1)]
theorem tk_law_13 : am_tbl code tb_law_13 = true := by decide +kernel
theorem nw_L_7 : Cond.classLink R_law 7 (am_cn 5) ∈ am_TB ∧ Cond.instantiable (am_cn 5) (am_nf 5) ∈ am_TB ∧ Cond.initialized (am_cn 5) ∈ am_TB := ⟨(am_tb 89 (by decide +kernel) (by decide +kernel)), (am_tb 90 (by decide +kernel) (by decide +kernel)), (am_tb 79 (by decide +kernel) (by decide +kernel))⟩
theorem nw_L_10 : Cond.classLink R_law 10 (am_cn 6) ∈ am_TB ∧ Cond.instantiable (am_cn 6) (am_nf 6) ∈ am_TB ∧ Cond.initialized (am_cn 6) ∈ am_TB := ⟨(am_tb 823 (by decide +kernel) (by decide +kernel)), (am_tb 824 (by decide +kernel) (by decide +kernel)), (am_tb 85 (by decide +kernel) (by decide +kernel))⟩
theorem ml_L_9 : Cond.methodLink R_law 9 yX5_init ∈ am_TB ∧ Cond.instanceMethod yX5_init ∈ am_TB := ⟨(am_tb 91 (by decide +kernel) (by decide +kernel)), (am_tb 92 (by decide +kernel) (by decide +kernel))⟩
theorem ml_L_12 : Cond.methodLink R_law 12 yX6_init ∈ am_TB ∧ Cond.instanceMethod yX6_init ∈ am_TB := ⟨(am_tb 825 (by decide +kernel) (by decide +kernel)), (am_tb 826 (by decide +kernel) (by decide +kernel))⟩
theorem ml_L_13 : Cond.methodLink R_law 13 yX5_feed ∈ am_TB ∧ Cond.instanceMethod yX5_feed ∈ am_TB ∧ Cond.selects RX5 yX5_feed yX5_feed ∈ am_TB := ⟨(am_tb 393 (by decide +kernel) (by decide +kernel)), (am_tb 394 (by decide +kernel) (by decide +kernel)), (am_tb 395 (by decide +kernel) (by decide +kernel))⟩
theorem ml_L_17 : Cond.methodLink R_law 17 yX6_feed ∈ am_TB ∧ Cond.instanceMethod yX6_feed ∈ am_TB ∧ Cond.selects RX6 yX6_feed yX6_feed ∈ am_TB := ⟨(am_tb 962 (by decide +kernel) (by decide +kernel)), (am_tb 963 (by decide +kernel) (by decide +kernel)), (am_tb 964 (by decide +kernel) (by decide +kernel))⟩
theorem ml_L_18 : Cond.methodLink R_law 18 yX5_capital ∈ am_TB ∧ Cond.instanceMethod yX5_capital ∈ am_TB ∧ Cond.selects RX5 yX5_capital yX5_capital ∈ am_TB := ⟨(am_tb 406 (by decide +kernel) (by decide +kernel)), (am_tb 407 (by decide +kernel) (by decide +kernel)), (am_tb 408 (by decide +kernel) (by decide +kernel))⟩
theorem ml_L_22 : Cond.methodLink R_law 22 yX6_capital ∈ am_TB ∧ Cond.instanceMethod yX6_capital ∈ am_TB ∧ Cond.selects RX6 yX6_capital yX6_capital ∈ am_TB := ⟨(am_tb 972 (by decide +kernel) (by decide +kernel)), (am_tb 973 (by decide +kernel) (by decide +kernel)), (am_tb 974 (by decide +kernel) (by decide +kernel))⟩
theorem ml_L_23 : Cond.methodLink R_law 23 yX5_fault ∈ am_TB ∧ Cond.instanceMethod yX5_fault ∈ am_TB ∧ Cond.selects RX5 yX5_fault yX5_fault ∈ am_TB := ⟨(am_tb 499 (by decide +kernel) (by decide +kernel)), (am_tb 500 (by decide +kernel) (by decide +kernel)), (am_tb 501 (by decide +kernel) (by decide +kernel))⟩
theorem ml_L_26 : Cond.methodLink R_law 26 yX6_fault ∈ am_TB ∧ Cond.instanceMethod yX6_fault ∈ am_TB ∧ Cond.selects RX6 yX6_fault yX6_fault ∈ am_TB := ⟨(am_tb 1029 (by decide +kernel) (by decide +kernel)), (am_tb 1030 (by decide +kernel) (by decide +kernel)), (am_tb 1031 (by decide +kernel) (by decide +kernel))⟩
theorem ml_L_27 : Cond.methodLink R_law 27 yX5_told ∈ am_TB ∧ Cond.instanceMethod yX5_told ∈ am_TB ∧ Cond.selects RX5 yX5_told yX5_told ∈ am_TB := ⟨(am_tb 503 (by decide +kernel) (by decide +kernel)), (am_tb 504 (by decide +kernel) (by decide +kernel)), (am_tb 505 (by decide +kernel) (by decide +kernel))⟩
theorem ml_L_30 : Cond.methodLink R_law 30 yX6_told ∈ am_TB ∧ Cond.instanceMethod yX6_told ∈ am_TB ∧ Cond.selects RX6 yX6_told yX6_told ∈ am_TB := ⟨(am_tb 1033 (by decide +kernel) (by decide +kernel)), (am_tb 1034 (by decide +kernel) (by decide +kernel)), (am_tb 1035 (by decide +kernel) (by decide +kernel))⟩
theorem ml_L_31 : Cond.methodLink R_law 31 yX5_person ∈ am_TB ∧ Cond.instanceMethod yX5_person ∈ am_TB ∧ Cond.selects RX5 yX5_person yX5_person ∈ am_TB := ⟨(am_tb 511 (by decide +kernel) (by decide +kernel)), (am_tb 512 (by decide +kernel) (by decide +kernel)), (am_tb 513 (by decide +kernel) (by decide +kernel))⟩
theorem ml_L_35 : Cond.methodLink R_law 35 yX6_person ∈ am_TB ∧ Cond.instanceMethod yX6_person ∈ am_TB ∧ Cond.selects RX6 yX6_person yX6_person ∈ am_TB := ⟨(am_tb 1041 (by decide +kernel) (by decide +kernel)), (am_tb 1042 (by decide +kernel) (by decide +kernel)), (am_tb 1043 (by decide +kernel) (by decide +kernel))⟩
theorem ml_L_36 : Cond.methodLink R_law 36 yX5_row ∈ am_TB ∧ Cond.instanceMethod yX5_row ∈ am_TB ∧ Cond.selects RX5 yX5_row yX5_row ∈ am_TB := ⟨(am_tb 520 (by decide +kernel) (by decide +kernel)), (am_tb 521 (by decide +kernel) (by decide +kernel)), (am_tb 522 (by decide +kernel) (by decide +kernel))⟩
theorem ml_L_39 : Cond.methodLink R_law 39 yX6_row ∈ am_TB ∧ Cond.instanceMethod yX6_row ∈ am_TB ∧ Cond.selects RX6 yX6_row yX6_row ∈ am_TB := ⟨(am_tb 1050 (by decide +kernel) (by decide +kernel)), (am_tb 1051 (by decide +kernel) (by decide +kernel)), (am_tb 1052 (by decide +kernel) (by decide +kernel))⟩
theorem ml_L_40 : Cond.methodLink R_law 40 yX5_coin ∈ am_TB ∧ Cond.instanceMethod yX5_coin ∈ am_TB ∧ Cond.selects RX5 yX5_coin yX5_coin ∈ am_TB := ⟨(am_tb 524 (by decide +kernel) (by decide +kernel)), (am_tb 525 (by decide +kernel) (by decide +kernel)), (am_tb 526 (by decide +kernel) (by decide +kernel))⟩
theorem ml_L_43 : Cond.methodLink R_law 43 yX6_coin ∈ am_TB ∧ Cond.instanceMethod yX6_coin ∈ am_TB ∧ Cond.selects RX6 yX6_coin yX6_coin ∈ am_TB := ⟨(am_tb 1055 (by decide +kernel) (by decide +kernel)), (am_tb 1056 (by decide +kernel) (by decide +kernel)), (am_tb 1057 (by decide +kernel) (by decide +kernel))⟩
theorem ml_L_44 : Cond.methodLink R_law 44 yX5_debt ∈ am_TB ∧ Cond.instanceMethod yX5_debt ∈ am_TB ∧ Cond.selects RX5 yX5_debt yX5_debt ∈ am_TB := ⟨(am_tb 528 (by decide +kernel) (by decide +kernel)), (am_tb 529 (by decide +kernel) (by decide +kernel)), (am_tb 530 (by decide +kernel) (by decide +kernel))⟩
theorem ml_L_47 : Cond.methodLink R_law 47 yX6_debt ∈ am_TB ∧ Cond.instanceMethod yX6_debt ∈ am_TB ∧ Cond.selects RX6 yX6_debt yX6_debt ∈ am_TB := ⟨(am_tb 1059 (by decide +kernel) (by decide +kernel)), (am_tb 1060 (by decide +kernel) (by decide +kernel)), (am_tb 1061 (by decide +kernel) (by decide +kernel))⟩
theorem ml_L_48 : Cond.methodLink R_law 48 yX5_hour ∈ am_TB ∧ Cond.instanceMethod yX5_hour ∈ am_TB ∧ Cond.selects RX5 yX5_hour yX5_hour ∈ am_TB := ⟨(am_tb 537 (by decide +kernel) (by decide +kernel)), (am_tb 538 (by decide +kernel) (by decide +kernel)), (am_tb 539 (by decide +kernel) (by decide +kernel))⟩
theorem ml_L_51 : Cond.methodLink R_law 51 yX6_hour ∈ am_TB ∧ Cond.instanceMethod yX6_hour ∈ am_TB ∧ Cond.selects RX6 yX6_hour yX6_hour ∈ am_TB := ⟨(am_tb 1063 (by decide +kernel) (by decide +kernel)), (am_tb 1064 (by decide +kernel) (by decide +kernel)), (am_tb 1065 (by decide +kernel) (by decide +kernel))⟩
theorem ml_L_52 : Cond.methodLink R_law 52 yX5_drift ∈ am_TB ∧ Cond.instanceMethod yX5_drift ∈ am_TB ∧ Cond.selects RX5 yX5_drift yX5_drift ∈ am_TB := ⟨(am_tb 573 (by decide +kernel) (by decide +kernel)), (am_tb 574 (by decide +kernel) (by decide +kernel)), (am_tb 575 (by decide +kernel) (by decide +kernel))⟩
theorem ml_L_55 : Cond.methodLink R_law 55 yX6_drift ∈ am_TB ∧ Cond.instanceMethod yX6_drift ∈ am_TB ∧ Cond.selects RX6 yX6_drift yX6_drift ∈ am_TB := ⟨(am_tb 1089 (by decide +kernel) (by decide +kernel)), (am_tb 1090 (by decide +kernel) (by decide +kernel)), (am_tb 1091 (by decide +kernel) (by decide +kernel))⟩
theorem ml_L_56 : Cond.methodLink R_law 56 yX5_give ∈ am_TB ∧ Cond.instanceMethod yX5_give ∈ am_TB ∧ Cond.selects RX5 yX5_give yX5_give ∈ am_TB := ⟨(am_tb 590 (by decide +kernel) (by decide +kernel)), (am_tb 591 (by decide +kernel) (by decide +kernel)), (am_tb 592 (by decide +kernel) (by decide +kernel))⟩
theorem ml_L_60 : Cond.methodLink R_law 60 yX6_give ∈ am_TB ∧ Cond.instanceMethod yX6_give ∈ am_TB ∧ Cond.selects RX6 yX6_give yX6_give ∈ am_TB := ⟨(am_tb 1101 (by decide +kernel) (by decide +kernel)), (am_tb 1102 (by decide +kernel) (by decide +kernel)), (am_tb 1103 (by decide +kernel) (by decide +kernel))⟩
theorem ml_L_61 : Cond.methodLink R_law 61 yX5_change ∈ am_TB ∧ Cond.instanceMethod yX5_change ∈ am_TB ∧ Cond.selects RX5 yX5_change yX5_change ∈ am_TB := ⟨(am_tb 595 (by decide +kernel) (by decide +kernel)), (am_tb 596 (by decide +kernel) (by decide +kernel)), (am_tb 597 (by decide +kernel) (by decide +kernel))⟩
theorem ml_L_64 : Cond.methodLink R_law 64 yX6_change ∈ am_TB ∧ Cond.instanceMethod yX6_change ∈ am_TB ∧ Cond.selects RX6 yX6_change yX6_change ∈ am_TB := ⟨(am_tb 1106 (by decide +kernel) (by decide +kernel)), (am_tb 1107 (by decide +kernel) (by decide +kernel)), (am_tb 1108 (by decide +kernel) (by decide +kernel))⟩
theorem ml_L_65 : Cond.methodLink R_law 65 yX5_firstShort ∈ am_TB ∧ Cond.instanceMethod yX5_firstShort ∈ am_TB ∧ Cond.selects RX5 yX5_firstShort yX5_firstShort ∈ am_TB := ⟨(am_tb 599 (by decide +kernel) (by decide +kernel)), (am_tb 600 (by decide +kernel) (by decide +kernel)), (am_tb 601 (by decide +kernel) (by decide +kernel))⟩
theorem ml_L_68 : Cond.methodLink R_law 68 yX6_firstShort ∈ am_TB ∧ Cond.instanceMethod yX6_firstShort ∈ am_TB ∧ Cond.selects RX6 yX6_firstShort yX6_firstShort ∈ am_TB := ⟨(am_tb 1111 (by decide +kernel) (by decide +kernel)), (am_tb 1112 (by decide +kernel) (by decide +kernel)), (am_tb 1113 (by decide +kernel) (by decide +kernel))⟩
theorem ml_L_69 : Cond.methodLink R_law 69 yX5_richest ∈ am_TB ∧ Cond.instanceMethod yX5_richest ∈ am_TB ∧ Cond.selects RX5 yX5_richest yX5_richest ∈ am_TB := ⟨(am_tb 606 (by decide +kernel) (by decide +kernel)), (am_tb 607 (by decide +kernel) (by decide +kernel)), (am_tb 608 (by decide +kernel) (by decide +kernel))⟩
theorem ml_L_72 : Cond.methodLink R_law 72 yX6_richest ∈ am_TB ∧ Cond.instanceMethod yX6_richest ∈ am_TB ∧ Cond.selects RX6 yX6_richest yX6_richest ∈ am_TB := ⟨(am_tb 1123 (by decide +kernel) (by decide +kernel)), (am_tb 1124 (by decide +kernel) (by decide +kernel)), (am_tb 1125 (by decide +kernel) (by decide +kernel))⟩
theorem ml_L_73 : Cond.methodLink R_law 73 yX5_life ∈ am_TB ∧ Cond.instanceMethod yX5_life ∈ am_TB ∧ Cond.selects RX5 yX5_life yX5_life ∈ am_TB := ⟨(am_tb 610 (by decide +kernel) (by decide +kernel)), (am_tb 611 (by decide +kernel) (by decide +kernel)), (am_tb 612 (by decide +kernel) (by decide +kernel))⟩
theorem ml_L_76 : Cond.methodLink R_law 76 yX6_life ∈ am_TB ∧ Cond.instanceMethod yX6_life ∈ am_TB ∧ Cond.selects RX6 yX6_life yX6_life ∈ am_TB := ⟨(am_tb 1128 (by decide +kernel) (by decide +kernel)), (am_tb 1129 (by decide +kernel) (by decide +kernel)), (am_tb 1130 (by decide +kernel) (by decide +kernel))⟩
theorem ml_L_77 : Cond.methodLink R_law 77 yX5_shift ∈ am_TB ∧ Cond.instanceMethod yX5_shift ∈ am_TB ∧ Cond.selects RX5 yX5_shift yX5_shift ∈ am_TB := ⟨(am_tb 725 (by decide +kernel) (by decide +kernel)), (am_tb 726 (by decide +kernel) (by decide +kernel)), (am_tb 727 (by decide +kernel) (by decide +kernel))⟩
theorem ml_L_80 : Cond.methodLink R_law 80 yX6_shift ∈ am_TB ∧ Cond.instanceMethod yX6_shift ∈ am_TB ∧ Cond.selects RX6 yX6_shift yX6_shift ∈ am_TB := ⟨(am_tb 1158 (by decide +kernel) (by decide +kernel)), (am_tb 1159 (by decide +kernel) (by decide +kernel)), (am_tb 1160 (by decide +kernel) (by decide +kernel))⟩
theorem ml_L_81 : Cond.methodLink R_law 81 yX5_coins ∈ am_TB ∧ Cond.instanceMethod yX5_coins ∈ am_TB ∧ Cond.selects RX5 yX5_coins yX5_coins ∈ am_TB := ⟨(am_tb 729 (by decide +kernel) (by decide +kernel)), (am_tb 730 (by decide +kernel) (by decide +kernel)), (am_tb 731 (by decide +kernel) (by decide +kernel))⟩
theorem ml_L_84 : Cond.methodLink R_law 84 yX6_coins ∈ am_TB ∧ Cond.instanceMethod yX6_coins ∈ am_TB ∧ Cond.selects RX6 yX6_coins yX6_coins ∈ am_TB := ⟨(am_tb 1167 (by decide +kernel) (by decide +kernel)), (am_tb 1168 (by decide +kernel) (by decide +kernel)), (am_tb 1169 (by decide +kernel) (by decide +kernel))⟩
theorem ml_L_85 : Cond.methodLink R_law 85 yX5_strike ∈ am_TB ∧ Cond.instanceMethod yX5_strike ∈ am_TB ∧ Cond.selects RX5 yX5_strike yX5_strike ∈ am_TB := ⟨(am_tb 751 (by decide +kernel) (by decide +kernel)), (am_tb 752 (by decide +kernel) (by decide +kernel)), (am_tb 753 (by decide +kernel) (by decide +kernel))⟩
theorem ml_L_88 : Cond.methodLink R_law 88 yX6_strike ∈ am_TB ∧ Cond.instanceMethod yX6_strike ∈ am_TB ∧ Cond.selects RX6 yX6_strike yX6_strike ∈ am_TB := ⟨(am_tb 1180 (by decide +kernel) (by decide +kernel)), (am_tb 1181 (by decide +kernel) (by decide +kernel)), (am_tb 1182 (by decide +kernel) (by decide +kernel))⟩
theorem ml_L_89 : Cond.methodLink R_law 89 yX5_isFalse ∈ am_TB ∧ Cond.instanceMethod yX5_isFalse ∈ am_TB ∧ Cond.selects RX5 yX5_isFalse yX5_isFalse ∈ am_TB := ⟨(am_tb 763 (by decide +kernel) (by decide +kernel)), (am_tb 764 (by decide +kernel) (by decide +kernel)), (am_tb 765 (by decide +kernel) (by decide +kernel))⟩
theorem ml_L_93 : Cond.methodLink R_law 93 yX6_isFalse ∈ am_TB ∧ Cond.instanceMethod yX6_isFalse ∈ am_TB ∧ Cond.selects RX6 yX6_isFalse yX6_isFalse ∈ am_TB := ⟨(am_tb 1185 (by decide +kernel) (by decide +kernel)), (am_tb 1186 (by decide +kernel) (by decide +kernel)), (am_tb 1187 (by decide +kernel) (by decide +kernel))⟩
theorem ml_L_94 : Cond.methodLink R_law 94 yX5_prices ∈ am_TB ∧ Cond.instanceMethod yX5_prices ∈ am_TB ∧ Cond.selects RX5 yX5_prices yX5_prices ∈ am_TB := ⟨(am_tb 773 (by decide +kernel) (by decide +kernel)), (am_tb 774 (by decide +kernel) (by decide +kernel)), (am_tb 775 (by decide +kernel) (by decide +kernel))⟩
theorem ml_L_98 : Cond.methodLink R_law 98 yX6_prices ∈ am_TB ∧ Cond.instanceMethod yX6_prices ∈ am_TB ∧ Cond.selects RX6 yX6_prices yX6_prices ∈ am_TB := ⟨(am_tb 1196 (by decide +kernel) (by decide +kernel)), (am_tb 1197 (by decide +kernel) (by decide +kernel)), (am_tb 1198 (by decide +kernel) (by decide +kernel))⟩
theorem ml_L_99 : Cond.methodLink R_law 99 yX5_robbed ∈ am_TB ∧ Cond.instanceMethod yX5_robbed ∈ am_TB ∧ Cond.selects RX5 yX5_robbed yX5_robbed ∈ am_TB := ⟨(am_tb 778 (by decide +kernel) (by decide +kernel)), (am_tb 779 (by decide +kernel) (by decide +kernel)), (am_tb 780 (by decide +kernel) (by decide +kernel))⟩
theorem ml_L_102 : Cond.methodLink R_law 102 yX6_robbed ∈ am_TB ∧ Cond.instanceMethod yX6_robbed ∈ am_TB ∧ Cond.selects RX6 yX6_robbed yX6_robbed ∈ am_TB := ⟨(am_tb 1204 (by decide +kernel) (by decide +kernel)), (am_tb 1205 (by decide +kernel) (by decide +kernel)), (am_tb 1206 (by decide +kernel) (by decide +kernel))⟩
theorem ml_L_103 : Cond.methodLink R_law 103 yX5_run ∈ am_TB ∧ Cond.instanceMethod yX5_run ∈ am_TB ∧ Cond.selects RX5 yX5_run yX5_run ∈ am_TB := ⟨(am_tb 787 (by decide +kernel) (by decide +kernel)), (am_tb 788 (by decide +kernel) (by decide +kernel)), (am_tb 789 (by decide +kernel) (by decide +kernel))⟩
theorem ml_L_106 : Cond.methodLink R_law 106 yX6_run ∈ am_TB ∧ Cond.instanceMethod yX6_run ∈ am_TB ∧ Cond.selects RX6 yX6_run yX6_run ∈ am_TB := ⟨(am_tb 1208 (by decide +kernel) (by decide +kernel)), (am_tb 1209 (by decide +kernel) (by decide +kernel)), (am_tb 1210 (by decide +kernel) (by decide +kernel))⟩
theorem ml_L_107 : Cond.methodLink R_law 107 yX5_write ∈ am_TB ∧ Cond.instanceMethod yX5_write ∈ am_TB ∧ Cond.selects RX5 yX5_write yX5_write ∈ am_TB := ⟨(am_tb 795 (by decide +kernel) (by decide +kernel)), (am_tb 796 (by decide +kernel) (by decide +kernel)), (am_tb 797 (by decide +kernel) (by decide +kernel))⟩
theorem ml_L_110 : Cond.methodLink R_law 110 yX6_write ∈ am_TB ∧ Cond.instanceMethod yX6_write ∈ am_TB ∧ Cond.selects RX6 yX6_write yX6_write ∈ am_TB := ⟨(am_tb 1212 (by decide +kernel) (by decide +kernel)), (am_tb 1213 (by decide +kernel) (by decide +kernel)), (am_tb 1214 (by decide +kernel) (by decide +kernel))⟩
theorem ml_L_111 : Cond.methodLink R_law 111 yX5_tear ∈ am_TB ∧ Cond.instanceMethod yX5_tear ∈ am_TB ∧ Cond.selects RX5 yX5_tear yX5_tear ∈ am_TB := ⟨(am_tb 799 (by decide +kernel) (by decide +kernel)), (am_tb 800 (by decide +kernel) (by decide +kernel)), (am_tb 801 (by decide +kernel) (by decide +kernel))⟩
theorem ml_L_114 : Cond.methodLink R_law 114 yX6_tear ∈ am_TB ∧ Cond.instanceMethod yX6_tear ∈ am_TB ∧ Cond.selects RX6 yX6_tear yX6_tear ∈ am_TB := ⟨(am_tb 1216 (by decide +kernel) (by decide +kernel)), (am_tb 1217 (by decide +kernel) (by decide +kernel)), (am_tb 1218 (by decide +kernel) (by decide +kernel))⟩
theorem ml_L_115 : Cond.methodLink R_law 115 yX5_judge ∈ am_TB ∧ Cond.instanceMethod yX5_judge ∈ am_TB ∧ Cond.selects RX5 yX5_judge yX5_judge ∈ am_TB := ⟨(am_tb 803 (by decide +kernel) (by decide +kernel)), (am_tb 804 (by decide +kernel) (by decide +kernel)), (am_tb 805 (by decide +kernel) (by decide +kernel))⟩
theorem ml_L_118 : Cond.methodLink R_law 118 yX6_judge ∈ am_TB ∧ Cond.instanceMethod yX6_judge ∈ am_TB ∧ Cond.selects RX6 yX6_judge yX6_judge ∈ am_TB := ⟨(am_tb 1220 (by decide +kernel) (by decide +kernel)), (am_tb 1221 (by decide +kernel) (by decide +kernel)), (am_tb 1222 (by decide +kernel) (by decide +kernel))⟩
theorem ml_L_119 : Cond.methodLink R_law 119 yX5_seed ∈ am_TB ∧ Cond.instanceMethod yX5_seed ∈ am_TB ∧ Cond.selects RX5 yX5_seed yX5_seed ∈ am_TB := ⟨(am_tb 807 (by decide +kernel) (by decide +kernel)), (am_tb 808 (by decide +kernel) (by decide +kernel)), (am_tb 809 (by decide +kernel) (by decide +kernel))⟩
theorem ml_L_122 : Cond.methodLink R_law 122 yX6_seed ∈ am_TB ∧ Cond.instanceMethod yX6_seed ∈ am_TB ∧ Cond.selects RX6 yX6_seed yX6_seed ∈ am_TB := ⟨(am_tb 1224 (by decide +kernel) (by decide +kernel)), (am_tb 1225 (by decide +kernel) (by decide +kernel)), (am_tb 1226 (by decide +kernel) (by decide +kernel))⟩
theorem ml_L_123 : Cond.methodLink R_law 123 yX5_keep ∈ am_TB ∧ Cond.instanceMethod yX5_keep ∈ am_TB ∧ Cond.selects RX5 yX5_keep yX5_keep ∈ am_TB := ⟨(am_tb 811 (by decide +kernel) (by decide +kernel)), (am_tb 812 (by decide +kernel) (by decide +kernel)), (am_tb 813 (by decide +kernel) (by decide +kernel))⟩
theorem ml_L_126 : Cond.methodLink R_law 126 yX6_keep ∈ am_TB ∧ Cond.instanceMethod yX6_keep ∈ am_TB ∧ Cond.selects RX6 yX6_keep yX6_keep ∈ am_TB := ⟨(am_tb 1228 (by decide +kernel) (by decide +kernel)), (am_tb 1229 (by decide +kernel) (by decide +kernel)), (am_tb 1230 (by decide +kernel) (by decide +kernel))⟩
theorem ml_L_127 : Cond.methodLink R_law 127 yX5_goBack ∈ am_TB ∧ Cond.instanceMethod yX5_goBack ∈ am_TB ∧ Cond.selects RX5 yX5_goBack yX5_goBack ∈ am_TB := ⟨(am_tb 819 (by decide +kernel) (by decide +kernel)), (am_tb 820 (by decide +kernel) (by decide +kernel)), (am_tb 821 (by decide +kernel) (by decide +kernel))⟩
theorem ml_L_130 : Cond.methodLink R_law 130 yX6_goBack ∈ am_TB ∧ Cond.instanceMethod yX6_goBack ∈ am_TB ∧ Cond.selects RX6 yX6_goBack yX6_goBack ∈ am_TB := ⟨(am_tb 1232 (by decide +kernel) (by decide +kernel)), (am_tb 1233 (by decide +kernel) (by decide +kernel)), (am_tb 1234 (by decide +kernel) (by decide +kernel))⟩
def ok_feed (K : Nat) (Inv : Nat → Nat → Bool → am_M → Prop) : Prop := ∀ (k : Nat) (tw : Nat) (tp : Bool) (D : am_M), k < K → Inv k tw tp D → ∀ (a1 : Int32), ∃ (r r' : Int32) (D1 D2 : am_M), f_X5_feed tw a1 D = some (r, D1) ∧ f_X6_feed a1 D1 = some (r', D2) ∧ Inv (k + 1) tw tp D2
def ok_capital (K : Nat) (Inv : Nat → Nat → Bool → am_M → Prop) : Prop := ∀ (k : Nat) (tw : Nat) (tp : Bool) (D : am_M), k < K → Inv k tw tp D → ∃ (r r' : Int32) (t1 : Nat) (D1 D2 : am_M), f_X5_capital tw D = some (r, t1, D1) ∧ f_X6_capital D1 = some (r', D2) ∧ Inv (k + 1) t1 tp D2
def ok_fault (K : Nat) (Inv : Nat → Nat → Bool → am_M → Prop) : Prop := ∀ (k : Nat) (tw : Nat) (tp : Bool) (D : am_M), k < K → Inv k tw tp D → ∃ (r r' : Int32), f_X5_fault tw D = r ∧ f_X6_fault D = r' ∧ Inv (k + 1) tw tp D
def ok_told (K : Nat) (Inv : Nat → Nat → Bool → am_M → Prop) : Prop := ∀ (k : Nat) (tw : Nat) (tp : Bool) (D : am_M), k < K → Inv k tw tp D → ∀ (a1 : Int32), ∃ (r r' : Int32) (D1 D2 : am_M), f_X5_told tw a1 D = some (r, D1) ∧ f_X6_told a1 D1 = some (r', D2) ∧ Inv (k + 1) tw tp D2
def ok_person (K : Nat) (Inv : Nat → Nat → Bool → am_M → Prop) : Prop := ∀ (k : Nat) (tw : Nat) (tp : Bool) (D : am_M), k < K → Inv k tw tp D → ∀ (a1 a2 : Int32), ∃ (r r' : Int32) (D1 D2 : am_M), f_X5_person tw a1 a2 D = some (r, D1) ∧ f_X6_person a1 a2 D1 = some (r', D2) ∧ Inv (k + 1) tw tp D2
def ok_row (K : Nat) (Inv : Nat → Nat → Bool → am_M → Prop) : Prop := ∀ (k : Nat) (tw : Nat) (tp : Bool) (D : am_M), k < K → Inv k tw tp D → ∀ (a1 a2 : Int32), ∃ (r r' : Int32) (D1 D2 : am_M), f_X5_row tw a1 a2 D = some (r, D1) ∧ f_X6_row a1 a2 D1 = some (r', D2) ∧ Inv (k + 1) tw tp D2
def ok_coin (K : Nat) (Inv : Nat → Nat → Bool → am_M → Prop) : Prop := ∀ (k : Nat) (tw : Nat) (tp : Bool) (D : am_M), k < K → Inv k tw tp D → ∀ (a1 : Int32), ∃ (r r' : Int32) (D1 D2 : am_M), f_X5_coin tw a1 D = some (r, D1) ∧ f_X6_coin a1 D1 = some (r', D2) ∧ Inv (k + 1) tw tp D2
def ok_debt (K : Nat) (Inv : Nat → Nat → Bool → am_M → Prop) : Prop := ∀ (k : Nat) (tw : Nat) (tp : Bool) (D : am_M), k < K → Inv k tw tp D → ∀ (a1 a2 : Int32), ∃ (r r' : Int32) (D1 D2 : am_M), f_X5_debt tw a1 a2 D = some (r, D1) ∧ f_X6_debt a1 a2 D1 = some (r', D2) ∧ Inv (k + 1) tw tp D2
def ok_hour (K : Nat) (Inv : Nat → Nat → Bool → am_M → Prop) : Prop := ∀ (k : Nat) (tw : Nat) (tp : Bool) (D : am_M), k < K → Inv k tw tp D → ∀ (a1 : Int32), ∃ (r r' : Int32) (D1 D2 : am_M), f_X5_hour tw a1 D = some (r, D1) ∧ f_X6_hour a1 D1 = some (r', D2) ∧ Inv (k + 1) tw tp D2
def ok_drift (K : Nat) (Inv : Nat → Nat → Bool → am_M → Prop) : Prop := ∀ (k : Nat) (tw : Nat) (tp : Bool) (D : am_M), k < K → Inv k tw tp D → ∀ (a1 : Int32), ∃ (r r' : Int32) (D1 D2 : am_M), f_X5_drift tw a1 D = some (r, D1) ∧ f_X6_drift a1 D1 = some (r', D2) ∧ Inv (k + 1) tw tp D2
def ok_give (K : Nat) (Inv : Nat → Nat → Bool → am_M → Prop) : Prop := ∀ (k : Nat) (tw : Nat) (tp : Bool) (D : am_M), k < K → Inv k tw tp D → ∀ (a1 a2 a3 : Int32), ∃ (r r' : Int32) (D1 D2 : am_M), f_X5_give tw a1 a2 a3 D = some (r, D1) ∧ f_X6_give a1 a2 a3 D1 = some (r', D2) ∧ Inv (k + 1) tw tp D2
def ok_change (K : Nat) (Inv : Nat → Nat → Bool → am_M → Prop) : Prop := ∀ (k : Nat) (tw : Nat) (tp : Bool) (D : am_M), k < K → Inv k tw tp D → ∀ (a1 a2 a3 : Int32), ∃ (r r' : Int32) (D1 D2 : am_M), f_X5_change tw a1 a2 a3 D = some (r, D1) ∧ f_X6_change a1 a2 a3 D1 = some (r', D2) ∧ Inv (k + 1) tw tp D2
def ok_firstShort (K : Nat) (Inv : Nat → Nat → Bool → am_M → Prop) : Prop := ∀ (k : Nat) (tw : Nat) (tp : Bool) (D : am_M), k < K → Inv k tw tp D → ∀ (a1 : Int32), ∃ (r r' : Int32) (D1 D2 : am_M), f_X5_firstShort tw a1 D = some (r, D1) ∧ f_X6_firstShort a1 D1 = some (r', D2) ∧ Inv (k + 1) tw tp D2
def ok_richest (K : Nat) (Inv : Nat → Nat → Bool → am_M → Prop) : Prop := ∀ (k : Nat) (tw : Nat) (tp : Bool) (D : am_M), k < K → Inv k tw tp D → ∀ (a1 a2 : Int32), ∃ (r r' : Int32) (D1 D2 : am_M), f_X5_richest tw a1 a2 D = some (r, D1) ∧ f_X6_richest a1 a2 D1 = some (r', D2) ∧ Inv (k + 1) tw tp D2
def ok_life (K : Nat) (Inv : Nat → Nat → Bool → am_M → Prop) : Prop := ∀ (k : Nat) (tw : Nat) (tp : Bool) (D : am_M), k < K → Inv k tw tp D → ∀ (a1 a2 a3 : Int32), ∃ (r r' : Int32) (b1 : Bool) (D1 D2 : am_M), f_X5_life tw tp a1 a2 a3 D = some (r, b1, D1) ∧ f_X6_life a1 a2 a3 D1 = some (r', D2) ∧ Inv (k + 1) tw b1 D2
def ok_shift (K : Nat) (Inv : Nat → Nat → Bool → am_M → Prop) : Prop := ∀ (k : Nat) (tw : Nat) (tp : Bool) (D : am_M), k < K → Inv k tw tp D → ∀ (a1 a2 : Int32), ∃ (r r' : Int32) (D1 D2 : am_M), f_X5_shift tw a1 a2 D = some (r, D1) ∧ f_X6_shift a1 a2 D1 = some (r', D2) ∧ Inv (k + 1) tw tp D2
def ok_coins (K : Nat) (Inv : Nat → Nat → Bool → am_M → Prop) : Prop := ∀ (k : Nat) (tw : Nat) (tp : Bool) (D : am_M), k < K → Inv k tw tp D → ∀ (a1 a2 : Int32), ∃ (r r' : Int32) (D1 D2 : am_M), f_X5_coins tw a1 a2 D = some (r, D1) ∧ f_X6_coins a1 a2 D1 = some (r', D2) ∧ Inv (k + 1) tw tp D2
def ok_strike (K : Nat) (Inv : Nat → Nat → Bool → am_M → Prop) : Prop := ∀ (k : Nat) (tw : Nat) (tp : Bool) (D : am_M), k < K → Inv k tw tp D → ∀ (a1 : Int32), ∃ (r r' : Int32) (D1 D2 : am_M), f_X5_strike tw a1 D = some (r, D1) ∧ f_X6_strike a1 D1 = some (r', D2) ∧ Inv (k + 1) tw tp D2
def ok_isFalse (K : Nat) (Inv : Nat → Nat → Bool → am_M → Prop) : Prop := ∀ (k : Nat) (tw : Nat) (tp : Bool) (D : am_M), k < K → Inv k tw tp D → ∀ (a1 a2 a3 a4 a5 : Int32), ∃ (r r' : Int32) (D1 D2 : am_M), f_X5_isFalse tw a1 a2 a3 a4 a5 D = some (r, D1) ∧ f_X6_isFalse a1 a2 a3 a4 a5 D1 = some (r', D2) ∧ Inv (k + 1) tw tp D2
def ok_prices (K : Nat) (Inv : Nat → Nat → Bool → am_M → Prop) : Prop := ∀ (k : Nat) (tw : Nat) (tp : Bool) (D : am_M), k < K → Inv k tw tp D → ∀ (a1 a2 a3 a4 : Int32), ∃ (r r' : Int32) (D1 D2 : am_M), f_X5_prices tw a1 a2 a3 a4 D = some (r, D1) ∧ f_X6_prices a1 a2 a3 a4 D1 = some (r', D2) ∧ Inv (k + 1) tw tp D2
def ok_robbed (K : Nat) (Inv : Nat → Nat → Bool → am_M → Prop) : Prop := ∀ (k : Nat) (tw : Nat) (tp : Bool) (D : am_M), k < K → Inv k tw tp D → ∀ (a1 a2 a3 : Int32), ∃ (r r' : Int32) (D1 D2 : am_M), f_X5_robbed tw a1 a2 a3 D = some (r, D1) ∧ f_X6_robbed a1 a2 a3 D1 = some (r', D2) ∧ Inv (k + 1) tw tp D2
def ok_run (K : Nat) (Inv : Nat → Nat → Bool → am_M → Prop) : Prop := ∀ (k : Nat) (tw : Nat) (tp : Bool) (D : am_M), k < K → Inv k tw tp D → ∀ (a1 a2 : Int32), ∃ (r r' : Int32) (D1 D2 : am_M), f_X5_run tw a1 a2 D = some (r, D1) ∧ f_X6_run a1 a2 D1 = some (r', D2) ∧ Inv (k + 1) tw tp D2
def ok_write (K : Nat) (Inv : Nat → Nat → Bool → am_M → Prop) : Prop := ∀ (k : Nat) (tw : Nat) (tp : Bool) (D : am_M), k < K → Inv k tw tp D → ∀ (a1 a2 : Int32), ∃ (r r' : Int32) (D1 D2 : am_M), f_X5_write tw a1 a2 D = some (r, D1) ∧ f_X6_write a1 a2 D1 = some (r', D2) ∧ Inv (k + 1) tw tp D2
def ok_tear (K : Nat) (Inv : Nat → Nat → Bool → am_M → Prop) : Prop := ∀ (k : Nat) (tw : Nat) (tp : Bool) (D : am_M), k < K → Inv k tw tp D → ∃ (r r' : Int32) (D1 D2 : am_M), f_X5_tear tw D = some (r, D1) ∧ f_X6_tear D1 = some (r', D2) ∧ Inv (k + 1) tw tp D2
def ok_judge (K : Nat) (Inv : Nat → Nat → Bool → am_M → Prop) : Prop := ∀ (k : Nat) (tw : Nat) (tp : Bool) (D : am_M), k < K → Inv k tw tp D → ∃ (r r' : Int32) (D1 D2 : am_M), f_X5_judge tw D = some (r, D1) ∧ f_X6_judge D1 = some (r', D2) ∧ Inv (k + 1) tw tp D2
def ok_seed (K : Nat) (Inv : Nat → Nat → Bool → am_M → Prop) : Prop := ∀ (k : Nat) (tw : Nat) (tp : Bool) (D : am_M), k < K → Inv k tw tp D → ∀ (a1 : Int32), ∃ (r r' : Int32) (D1 D2 : am_M), f_X5_seed tw a1 D = some (r, D1) ∧ f_X6_seed a1 D1 = some (r', D2) ∧ Inv (k + 1) tw tp D2
def ok_keep (K : Nat) (Inv : Nat → Nat → Bool → am_M → Prop) : Prop := ∀ (k : Nat) (tw : Nat) (tp : Bool) (D : am_M), k < K → Inv k tw tp D → ∀ (a1 : Int32), ∃ (r r' : Int32) (D1 D2 : am_M), f_X5_keep tw a1 D = some (r, D1) ∧ f_X6_keep a1 D1 = some (r', D2) ∧ Inv (k + 1) tw tp D2
def ok_goBack (K : Nat) (Inv : Nat → Nat → Bool → am_M → Prop) : Prop := ∀ (k : Nat) (tw : Nat) (tp : Bool) (D : am_M), k < K → Inv k tw tp D → ∀ (a1 : Int32), ∃ (r : Int32) (D1 D2 : am_M), f_X5_goBack tw a1 D = some (r, D1) ∧ f_X6_goBack a1 D1 = some (r, D2) ∧ Inv (k + 1) tw tp D2
theorem lw_ix {k L : Nat} (v : Nat) {x : Int32} (h : 6 * k + v < L) (hL : L < 1000) (hx : nI v = x) : vp_in (nI (6 * k) + x) L := by
  rw [← hx, nI_add]
  exact vp_in_nI h (by omega)
theorem lw_case_feed {l : Launch} {b L : Nat} {xs : Nat → Int32} {K : Nat} {Inv : Nat → Nat → Bool → am_M → Prop} (hOK : ok_feed K Inv) {k tw : Nat} {tp : Bool} {D : am_M} (hk : k < K) (hkL : 6 * k + 6 ≤ L) (hL : L ≤ 384) (hI : Inv k tw tp D) (htw : lyT tw) {c1 c2 : Nat} (h1 : c1 + 2 ≤ 600000) (h2 : c2 + 88200 ≤ 7302250) (kk : ∀ (tw : Nat) (tp : Bool) (D : am_M), Inv (k + 1) tw tp D → am_Ex (lw_E l b L xs) code (c1 + 2, c2 + 88200) 994 [(0, .ref 1000000), (1, .ref 0), (2, .ref 56), (3, .int (nI (6 * k)))] [] (ly tw tp D)) : am_Ex (lw_E l b L xs) code (c1, c2) 160 [(0, .ref 1000000), (1, .ref 0), (2, .ref 56), (3, .int (nI (6 * k)))] [] (ly tw tp D) := by
  obtain ⟨r, r', D1, D2, e1, e2, hI2⟩ := hOK k tw tp D hk hI (xs (nI (6 * k) + 1).toNatClampNeg)
  refine am_aload_n (j := 1) (am_dk tk_law_0 22 rfl) rfl rfl ?_
  refine am_aload_n (j := 0) (am_dk tk_law_0 23 rfl) rfl rfl ?_
  refine am_iload_n (j := 3) (am_dk tk_law_0 24 rfl) rfl rfl ?_
  refine am_iconst (v := 1) (am_dk tk_law_0 25 rfl) (by decide) ?_
  refine am_iadd (am_dk tk_law_0 26 rfl) ?_
  refine lw_sld (lw_ix 1 (by omega) (by omega) rfl) (am_dk tk_law_0 27 rfl) ?_
  refine ly_cV (M := m_X5_feed) (As := [.int (xs (nI (6 * k) + 1).toNatClampNeg)]) (b := 0) (st := []) (ct_X5_feed htw e1) rfl (by decide) rfl ml_L_13 ld_X5_feed rfl ⟨Nat.le_of_ble_eq_true rfl, Nat.le_of_ble_eq_true rfl⟩ (Nat.le_of_ble_eq_true rfl) ⟨rfl, rfl⟩ ⟨by show c1 + 0 ≤ 600000; omega, by show c2 + 0 ≤ 7302250; omega⟩ (am_dk tk_law_0 28 rfl) (am_kki ?_)
  refine am_pop (am_dk tk_law_0 29 rfl) rfl ?_
  refine am_aload_n (j := 2) (am_dk tk_law_0 30 rfl) rfl rfl ?_
  refine am_aload_n (j := 0) (am_dk tk_law_0 31 rfl) rfl rfl ?_
  refine am_iload_n (j := 3) (am_dk tk_law_0 32 rfl) rfl rfl ?_
  refine am_iconst (v := 1) (am_dk tk_law_0 33 rfl) (by decide) ?_
  refine am_iadd (am_dk tk_law_0 34 rfl) ?_
  refine lw_sld (lw_ix 1 (by omega) (by omega) rfl) (am_dk tk_law_0 35 rfl) ?_
  refine ly_cV (M := m_X6_feed) (As := [.int (xs (nI (6 * k) + 1).toNatClampNeg)]) (b := 56) (st := []) (ct_X6_feed e2) rfl (by decide) rfl ml_L_17 ld_X6_feed rfl ⟨Nat.le_of_ble_eq_true rfl, Nat.le_of_ble_eq_true rfl⟩ (Nat.le_of_ble_eq_true rfl) ⟨rfl, rfl⟩ ⟨by show c1 + 0 ≤ 600000; omega, by show c2 + 0 ≤ 7302250; omega⟩ (am_dk tk_law_0 36 rfl) (am_kki ?_)
  refine am_pop (am_dk tk_law_0 37 rfl) rfl ?_
  refine am_goto (tgt := 994) (am_dk tk_law_0 38 rfl) (by decide) ?_
  refine am_wid (cs' := (c1 + 2, c2 + 88200)) (by show c1 ≤ c1 + 2; omega) (by show c2 ≤ c2 + 88200; omega) ?_
  exact kk _ _ _ hI2
theorem lw_case_capital {l : Launch} {b L : Nat} {xs : Nat → Int32} {K : Nat} {Inv : Nat → Nat → Bool → am_M → Prop} (hOK : ok_capital K Inv) {k tw : Nat} {tp : Bool} {D : am_M} (hk : k < K) (hkL : 6 * k + 6 ≤ L) (hL : L ≤ 384) (hI : Inv k tw tp D) (htw : lyT tw) {c1 c2 : Nat} (h1 : c1 + 2 ≤ 600000) (h2 : c2 + 88200 ≤ 7302250) (kk : ∀ (tw : Nat) (tp : Bool) (D : am_M), Inv (k + 1) tw tp D → am_Ex (lw_E l b L xs) code (c1 + 2, c2 + 88200) 994 [(0, .ref 1000000), (1, .ref 0), (2, .ref 56), (3, .int (nI (6 * k)))] [] (ly tw tp D)) : am_Ex (lw_E l b L xs) code (c1, c2) 183 [(0, .ref 1000000), (1, .ref 0), (2, .ref 56), (3, .int (nI (6 * k)))] [] (ly tw tp D) := by
  obtain ⟨r, r', t1, D1, D2, e1, e2, hI2⟩ := hOK k tw tp D hk hI
  refine am_aload_n (j := 1) (am_dk tk_law_0 39 rfl) rfl rfl ?_
  refine ly_cV (M := m_X5_capital) (As := []) (b := 0) (st := []) (ct_X5_capital htw e1) rfl (by decide) rfl ml_L_18 ld_X5_capital rfl ⟨Nat.le_of_ble_eq_true rfl, Nat.le_of_ble_eq_true rfl⟩ (Nat.le_of_ble_eq_true rfl) ⟨rfl, rfl⟩ ⟨by show c1 + 0 ≤ 600000; omega, by show c2 + 0 ≤ 7302250; omega⟩ (am_dk tk_law_0 40 rfl) (am_kki ?_)
  refine am_pop (am_dk tk_law_0 41 rfl) rfl ?_
  refine am_aload_n (j := 2) (am_dk tk_law_0 42 rfl) rfl rfl ?_
  refine ly_cV (M := m_X6_capital) (As := []) (b := 56) (st := []) (ct_X6_capital e2) rfl (by decide) rfl ml_L_22 ld_X6_capital rfl ⟨Nat.le_of_ble_eq_true rfl, Nat.le_of_ble_eq_true rfl⟩ (Nat.le_of_ble_eq_true rfl) ⟨rfl, rfl⟩ ⟨by show c1 + 0 ≤ 600000; omega, by show c2 + 0 ≤ 7302250; omega⟩ (am_dk tk_law_0 43 rfl) (am_kki ?_)
  refine am_pop (am_dk tk_law_0 44 rfl) rfl ?_
  refine am_goto (tgt := 994) (am_dk tk_law_0 45 rfl) (by decide) ?_
  refine am_wid (cs' := (c1 + 2, c2 + 88200)) (by show c1 ≤ c1 + 2; omega) (by show c2 ≤ c2 + 88200; omega) ?_
  exact kk _ _ _ hI2
theorem lw_case_fault {l : Launch} {b L : Nat} {xs : Nat → Int32} {K : Nat} {Inv : Nat → Nat → Bool → am_M → Prop} (hOK : ok_fault K Inv) {k tw : Nat} {tp : Bool} {D : am_M} (hk : k < K) (hkL : 6 * k + 6 ≤ L) (hL : L ≤ 384) (hI : Inv k tw tp D) (htw : lyT tw) {c1 c2 : Nat} (h1 : c1 + 2 ≤ 600000) (h2 : c2 + 88200 ≤ 7302250) (kk : ∀ (tw : Nat) (tp : Bool) (D : am_M), Inv (k + 1) tw tp D → am_Ex (lw_E l b L xs) code (c1 + 2, c2 + 88200) 994 [(0, .ref 1000000), (1, .ref 0), (2, .ref 56), (3, .int (nI (6 * k)))] [] (ly tw tp D)) : am_Ex (lw_E l b L xs) code (c1, c2) 196 [(0, .ref 1000000), (1, .ref 0), (2, .ref 56), (3, .int (nI (6 * k)))] [] (ly tw tp D) := by
  obtain ⟨r, r', e1, e2, hI2⟩ := hOK k tw tp D hk hI 
  refine am_aload_n (j := 1) (am_dk tk_law_0 46 rfl) rfl rfl ?_
  refine ly_cV (M := m_X5_fault) (As := []) (b := 0) (st := []) (ct_X5_fault htw  _) rfl (by decide) rfl ml_L_23 ld_X5_fault rfl ⟨Nat.le_of_ble_eq_true rfl, Nat.le_of_ble_eq_true rfl⟩ (Nat.le_of_ble_eq_true rfl) ⟨rfl, rfl⟩ ⟨by show c1 + 0 ≤ 600000; omega, by show c2 + 0 ≤ 7302250; omega⟩ (am_dk tk_law_0 47 rfl) (am_kki ?_)
  refine am_pop (am_dk tk_law_0 48 rfl) rfl ?_
  refine am_aload_n (j := 2) (am_dk tk_law_0 49 rfl) rfl rfl ?_
  refine ly_cV (M := m_X6_fault) (As := []) (b := 56) (st := []) (ct_X6_fault  _) rfl (by decide) rfl ml_L_26 ld_X6_fault rfl ⟨Nat.le_of_ble_eq_true rfl, Nat.le_of_ble_eq_true rfl⟩ (Nat.le_of_ble_eq_true rfl) ⟨rfl, rfl⟩ ⟨by show c1 + 0 ≤ 600000; omega, by show c2 + 0 ≤ 7302250; omega⟩ (am_dk tk_law_1 0 rfl) (am_kki ?_)
  refine am_pop (am_dk tk_law_1 1 rfl) rfl ?_
  refine am_goto (tgt := 994) (am_dk tk_law_1 2 rfl) (by decide) ?_
  refine am_wid (cs' := (c1 + 2, c2 + 88200)) (by show c1 ≤ c1 + 2; omega) (by show c2 ≤ c2 + 88200; omega) ?_
  exact kk _ _ _ hI2
theorem lw_case_told {l : Launch} {b L : Nat} {xs : Nat → Int32} {K : Nat} {Inv : Nat → Nat → Bool → am_M → Prop} (hOK : ok_told K Inv) {k tw : Nat} {tp : Bool} {D : am_M} (hk : k < K) (hkL : 6 * k + 6 ≤ L) (hL : L ≤ 384) (hI : Inv k tw tp D) (htw : lyT tw) {c1 c2 : Nat} (h1 : c1 + 2 ≤ 600000) (h2 : c2 + 88200 ≤ 7302250) (kk : ∀ (tw : Nat) (tp : Bool) (D : am_M), Inv (k + 1) tw tp D → am_Ex (lw_E l b L xs) code (c1 + 2, c2 + 88200) 994 [(0, .ref 1000000), (1, .ref 0), (2, .ref 56), (3, .int (nI (6 * k)))] [] (ly tw tp D)) : am_Ex (lw_E l b L xs) code (c1, c2) 209 [(0, .ref 1000000), (1, .ref 0), (2, .ref 56), (3, .int (nI (6 * k)))] [] (ly tw tp D) := by
  obtain ⟨r, r', D1, D2, e1, e2, hI2⟩ := hOK k tw tp D hk hI (xs (nI (6 * k) + 1).toNatClampNeg)
  refine am_aload_n (j := 1) (am_dk tk_law_1 3 rfl) rfl rfl ?_
  refine am_aload_n (j := 0) (am_dk tk_law_1 4 rfl) rfl rfl ?_
  refine am_iload_n (j := 3) (am_dk tk_law_1 5 rfl) rfl rfl ?_
  refine am_iconst (v := 1) (am_dk tk_law_1 6 rfl) (by decide) ?_
  refine am_iadd (am_dk tk_law_1 7 rfl) ?_
  refine lw_sld (lw_ix 1 (by omega) (by omega) rfl) (am_dk tk_law_1 8 rfl) ?_
  refine ly_cV (M := m_X5_told) (As := [.int (xs (nI (6 * k) + 1).toNatClampNeg)]) (b := 0) (st := []) (ct_X5_told htw e1) rfl (by decide) rfl ml_L_27 ld_X5_told rfl ⟨Nat.le_of_ble_eq_true rfl, Nat.le_of_ble_eq_true rfl⟩ (Nat.le_of_ble_eq_true rfl) ⟨rfl, rfl⟩ ⟨by show c1 + 0 ≤ 600000; omega, by show c2 + 0 ≤ 7302250; omega⟩ (am_dk tk_law_1 9 rfl) (am_kki ?_)
  refine am_pop (am_dk tk_law_1 10 rfl) rfl ?_
  refine am_aload_n (j := 2) (am_dk tk_law_1 11 rfl) rfl rfl ?_
  refine am_aload_n (j := 0) (am_dk tk_law_1 12 rfl) rfl rfl ?_
  refine am_iload_n (j := 3) (am_dk tk_law_1 13 rfl) rfl rfl ?_
  refine am_iconst (v := 1) (am_dk tk_law_1 14 rfl) (by decide) ?_
  refine am_iadd (am_dk tk_law_1 15 rfl) ?_
  refine lw_sld (lw_ix 1 (by omega) (by omega) rfl) (am_dk tk_law_1 16 rfl) ?_
  refine ly_cV (M := m_X6_told) (As := [.int (xs (nI (6 * k) + 1).toNatClampNeg)]) (b := 56) (st := []) (ct_X6_told e2) rfl (by decide) rfl ml_L_30 ld_X6_told rfl ⟨Nat.le_of_ble_eq_true rfl, Nat.le_of_ble_eq_true rfl⟩ (Nat.le_of_ble_eq_true rfl) ⟨rfl, rfl⟩ ⟨by show c1 + 0 ≤ 600000; omega, by show c2 + 0 ≤ 7302250; omega⟩ (am_dk tk_law_1 17 rfl) (am_kki ?_)
  refine am_pop (am_dk tk_law_1 18 rfl) rfl ?_
  refine am_goto (tgt := 994) (am_dk tk_law_1 19 rfl) (by decide) ?_
  refine am_wid (cs' := (c1 + 2, c2 + 88200)) (by show c1 ≤ c1 + 2; omega) (by show c2 ≤ c2 + 88200; omega) ?_
  exact kk _ _ _ hI2
theorem lw_case_person {l : Launch} {b L : Nat} {xs : Nat → Int32} {K : Nat} {Inv : Nat → Nat → Bool → am_M → Prop} (hOK : ok_person K Inv) {k tw : Nat} {tp : Bool} {D : am_M} (hk : k < K) (hkL : 6 * k + 6 ≤ L) (hL : L ≤ 384) (hI : Inv k tw tp D) (htw : lyT tw) {c1 c2 : Nat} (h1 : c1 + 2 ≤ 600000) (h2 : c2 + 88200 ≤ 7302250) (kk : ∀ (tw : Nat) (tp : Bool) (D : am_M), Inv (k + 1) tw tp D → am_Ex (lw_E l b L xs) code (c1 + 2, c2 + 88200) 994 [(0, .ref 1000000), (1, .ref 0), (2, .ref 56), (3, .int (nI (6 * k)))] [] (ly tw tp D)) : am_Ex (lw_E l b L xs) code (c1, c2) 232 [(0, .ref 1000000), (1, .ref 0), (2, .ref 56), (3, .int (nI (6 * k)))] [] (ly tw tp D) := by
  obtain ⟨r, r', D1, D2, e1, e2, hI2⟩ := hOK k tw tp D hk hI (xs (nI (6 * k) + 1).toNatClampNeg) (xs (nI (6 * k) + 2).toNatClampNeg)
  refine am_aload_n (j := 1) (am_dk tk_law_1 20 rfl) rfl rfl ?_
  refine am_aload_n (j := 0) (am_dk tk_law_1 21 rfl) rfl rfl ?_
  refine am_iload_n (j := 3) (am_dk tk_law_1 22 rfl) rfl rfl ?_
  refine am_iconst (v := 1) (am_dk tk_law_1 23 rfl) (by decide) ?_
  refine am_iadd (am_dk tk_law_1 24 rfl) ?_
  refine lw_sld (lw_ix 1 (by omega) (by omega) rfl) (am_dk tk_law_1 25 rfl) ?_
  refine am_aload_n (j := 0) (am_dk tk_law_1 26 rfl) rfl rfl ?_
  refine am_iload_n (j := 3) (am_dk tk_law_1 27 rfl) rfl rfl ?_
  refine am_iconst (v := 2) (am_dk tk_law_1 28 rfl) (by decide) ?_
  refine am_iadd (am_dk tk_law_1 29 rfl) ?_
  refine lw_sld (lw_ix 2 (by omega) (by omega) rfl) (am_dk tk_law_1 30 rfl) ?_
  refine ly_cV (M := m_X5_person) (As := [.int (xs (nI (6 * k) + 1).toNatClampNeg), .int (xs (nI (6 * k) + 2).toNatClampNeg)]) (b := 0) (st := []) (ct_X5_person htw e1) rfl (by decide) rfl ml_L_31 ld_X5_person rfl ⟨Nat.le_of_ble_eq_true rfl, Nat.le_of_ble_eq_true rfl⟩ (Nat.le_of_ble_eq_true rfl) ⟨rfl, rfl⟩ ⟨by show c1 + 0 ≤ 600000; omega, by show c2 + 0 ≤ 7302250; omega⟩ (am_dk tk_law_1 31 rfl) (am_kki ?_)
  refine am_pop (am_dk tk_law_1 32 rfl) rfl ?_
  refine am_aload_n (j := 2) (am_dk tk_law_1 33 rfl) rfl rfl ?_
  refine am_aload_n (j := 0) (am_dk tk_law_1 34 rfl) rfl rfl ?_
  refine am_iload_n (j := 3) (am_dk tk_law_1 35 rfl) rfl rfl ?_
  refine am_iconst (v := 1) (am_dk tk_law_1 36 rfl) (by decide) ?_
  refine am_iadd (am_dk tk_law_1 37 rfl) ?_
  refine lw_sld (lw_ix 1 (by omega) (by omega) rfl) (am_dk tk_law_1 38 rfl) ?_
  refine am_aload_n (j := 0) (am_dk tk_law_1 39 rfl) rfl rfl ?_
  refine am_iload_n (j := 3) (am_dk tk_law_1 40 rfl) rfl rfl ?_
  refine am_iconst (v := 2) (am_dk tk_law_1 41 rfl) (by decide) ?_
  refine am_iadd (am_dk tk_law_1 42 rfl) ?_
  refine lw_sld (lw_ix 2 (by omega) (by omega) rfl) (am_dk tk_law_1 43 rfl) ?_
  refine ly_cV (M := m_X6_person) (As := [.int (xs (nI (6 * k) + 1).toNatClampNeg), .int (xs (nI (6 * k) + 2).toNatClampNeg)]) (b := 56) (st := []) (ct_X6_person e2) rfl (by decide) rfl ml_L_35 ld_X6_person rfl ⟨Nat.le_of_ble_eq_true rfl, Nat.le_of_ble_eq_true rfl⟩ (Nat.le_of_ble_eq_true rfl) ⟨rfl, rfl⟩ ⟨by show c1 + 0 ≤ 600000; omega, by show c2 + 0 ≤ 7302250; omega⟩ (am_dk tk_law_1 44 rfl) (am_kki ?_)
  refine am_pop (am_dk tk_law_1 45 rfl) rfl ?_
  refine am_goto (tgt := 994) (am_dk tk_law_1 46 rfl) (by decide) ?_
  refine am_wid (cs' := (c1 + 2, c2 + 88200)) (by show c1 ≤ c1 + 2; omega) (by show c2 ≤ c2 + 88200; omega) ?_
  exact kk _ _ _ hI2
theorem lw_case_row {l : Launch} {b L : Nat} {xs : Nat → Int32} {K : Nat} {Inv : Nat → Nat → Bool → am_M → Prop} (hOK : ok_row K Inv) {k tw : Nat} {tp : Bool} {D : am_M} (hk : k < K) (hkL : 6 * k + 6 ≤ L) (hL : L ≤ 384) (hI : Inv k tw tp D) (htw : lyT tw) {c1 c2 : Nat} (h1 : c1 + 2 ≤ 600000) (h2 : c2 + 88200 ≤ 7302250) (kk : ∀ (tw : Nat) (tp : Bool) (D : am_M), Inv (k + 1) tw tp D → am_Ex (lw_E l b L xs) code (c1 + 2, c2 + 88200) 994 [(0, .ref 1000000), (1, .ref 0), (2, .ref 56), (3, .int (nI (6 * k)))] [] (ly tw tp D)) : am_Ex (lw_E l b L xs) code (c1, c2) 265 [(0, .ref 1000000), (1, .ref 0), (2, .ref 56), (3, .int (nI (6 * k)))] [] (ly tw tp D) := by
  obtain ⟨r, r', D1, D2, e1, e2, hI2⟩ := hOK k tw tp D hk hI (xs (nI (6 * k) + 1).toNatClampNeg) (xs (nI (6 * k) + 2).toNatClampNeg)
  refine am_aload_n (j := 1) (am_dk tk_law_1 47 rfl) rfl rfl ?_
  refine am_aload_n (j := 0) (am_dk tk_law_1 48 rfl) rfl rfl ?_
  refine am_iload_n (j := 3) (am_dk tk_law_1 49 rfl) rfl rfl ?_
  refine am_iconst (v := 1) (am_dk tk_law_2 0 rfl) (by decide) ?_
  refine am_iadd (am_dk tk_law_2 1 rfl) ?_
  refine lw_sld (lw_ix 1 (by omega) (by omega) rfl) (am_dk tk_law_2 2 rfl) ?_
  refine am_aload_n (j := 0) (am_dk tk_law_2 3 rfl) rfl rfl ?_
  refine am_iload_n (j := 3) (am_dk tk_law_2 4 rfl) rfl rfl ?_
  refine am_iconst (v := 2) (am_dk tk_law_2 5 rfl) (by decide) ?_
  refine am_iadd (am_dk tk_law_2 6 rfl) ?_
  refine lw_sld (lw_ix 2 (by omega) (by omega) rfl) (am_dk tk_law_2 7 rfl) ?_
  refine ly_cV (M := m_X5_row) (As := [.int (xs (nI (6 * k) + 1).toNatClampNeg), .int (xs (nI (6 * k) + 2).toNatClampNeg)]) (b := 0) (st := []) (ct_X5_row htw e1) rfl (by decide) rfl ml_L_36 ld_X5_row rfl ⟨Nat.le_of_ble_eq_true rfl, Nat.le_of_ble_eq_true rfl⟩ (Nat.le_of_ble_eq_true rfl) ⟨rfl, rfl⟩ ⟨by show c1 + 0 ≤ 600000; omega, by show c2 + 0 ≤ 7302250; omega⟩ (am_dk tk_law_2 8 rfl) (am_kki ?_)
  refine am_pop (am_dk tk_law_2 9 rfl) rfl ?_
  refine am_aload_n (j := 2) (am_dk tk_law_2 10 rfl) rfl rfl ?_
  refine am_aload_n (j := 0) (am_dk tk_law_2 11 rfl) rfl rfl ?_
  refine am_iload_n (j := 3) (am_dk tk_law_2 12 rfl) rfl rfl ?_
  refine am_iconst (v := 1) (am_dk tk_law_2 13 rfl) (by decide) ?_
  refine am_iadd (am_dk tk_law_2 14 rfl) ?_
  refine lw_sld (lw_ix 1 (by omega) (by omega) rfl) (am_dk tk_law_2 15 rfl) ?_
  refine am_aload_n (j := 0) (am_dk tk_law_2 16 rfl) rfl rfl ?_
  refine am_iload_n (j := 3) (am_dk tk_law_2 17 rfl) rfl rfl ?_
  refine am_iconst (v := 2) (am_dk tk_law_2 18 rfl) (by decide) ?_
  refine am_iadd (am_dk tk_law_2 19 rfl) ?_
  refine lw_sld (lw_ix 2 (by omega) (by omega) rfl) (am_dk tk_law_2 20 rfl) ?_
  refine ly_cV (M := m_X6_row) (As := [.int (xs (nI (6 * k) + 1).toNatClampNeg), .int (xs (nI (6 * k) + 2).toNatClampNeg)]) (b := 56) (st := []) (ct_X6_row e2) rfl (by decide) rfl ml_L_39 ld_X6_row rfl ⟨Nat.le_of_ble_eq_true rfl, Nat.le_of_ble_eq_true rfl⟩ (Nat.le_of_ble_eq_true rfl) ⟨rfl, rfl⟩ ⟨by show c1 + 0 ≤ 600000; omega, by show c2 + 0 ≤ 7302250; omega⟩ (am_dk tk_law_2 21 rfl) (am_kki ?_)
  refine am_pop (am_dk tk_law_2 22 rfl) rfl ?_
  refine am_goto (tgt := 994) (am_dk tk_law_2 23 rfl) (by decide) ?_
  refine am_wid (cs' := (c1 + 2, c2 + 88200)) (by show c1 ≤ c1 + 2; omega) (by show c2 ≤ c2 + 88200; omega) ?_
  exact kk _ _ _ hI2
theorem lw_case_coin {l : Launch} {b L : Nat} {xs : Nat → Int32} {K : Nat} {Inv : Nat → Nat → Bool → am_M → Prop} (hOK : ok_coin K Inv) {k tw : Nat} {tp : Bool} {D : am_M} (hk : k < K) (hkL : 6 * k + 6 ≤ L) (hL : L ≤ 384) (hI : Inv k tw tp D) (htw : lyT tw) {c1 c2 : Nat} (h1 : c1 + 2 ≤ 600000) (h2 : c2 + 88200 ≤ 7302250) (kk : ∀ (tw : Nat) (tp : Bool) (D : am_M), Inv (k + 1) tw tp D → am_Ex (lw_E l b L xs) code (c1 + 2, c2 + 88200) 994 [(0, .ref 1000000), (1, .ref 0), (2, .ref 56), (3, .int (nI (6 * k)))] [] (ly tw tp D)) : am_Ex (lw_E l b L xs) code (c1, c2) 298 [(0, .ref 1000000), (1, .ref 0), (2, .ref 56), (3, .int (nI (6 * k)))] [] (ly tw tp D) := by
  obtain ⟨r, r', D1, D2, e1, e2, hI2⟩ := hOK k tw tp D hk hI (xs (nI (6 * k) + 1).toNatClampNeg)
  refine am_aload_n (j := 1) (am_dk tk_law_2 24 rfl) rfl rfl ?_
  refine am_aload_n (j := 0) (am_dk tk_law_2 25 rfl) rfl rfl ?_
  refine am_iload_n (j := 3) (am_dk tk_law_2 26 rfl) rfl rfl ?_
  refine am_iconst (v := 1) (am_dk tk_law_2 27 rfl) (by decide) ?_
  refine am_iadd (am_dk tk_law_2 28 rfl) ?_
  refine lw_sld (lw_ix 1 (by omega) (by omega) rfl) (am_dk tk_law_2 29 rfl) ?_
  refine ly_cV (M := m_X5_coin) (As := [.int (xs (nI (6 * k) + 1).toNatClampNeg)]) (b := 0) (st := []) (ct_X5_coin htw e1) rfl (by decide) rfl ml_L_40 ld_X5_coin rfl ⟨Nat.le_of_ble_eq_true rfl, Nat.le_of_ble_eq_true rfl⟩ (Nat.le_of_ble_eq_true rfl) ⟨rfl, rfl⟩ ⟨by show c1 + 0 ≤ 600000; omega, by show c2 + 0 ≤ 7302250; omega⟩ (am_dk tk_law_2 30 rfl) (am_kki ?_)
  refine am_pop (am_dk tk_law_2 31 rfl) rfl ?_
  refine am_aload_n (j := 2) (am_dk tk_law_2 32 rfl) rfl rfl ?_
  refine am_aload_n (j := 0) (am_dk tk_law_2 33 rfl) rfl rfl ?_
  refine am_iload_n (j := 3) (am_dk tk_law_2 34 rfl) rfl rfl ?_
  refine am_iconst (v := 1) (am_dk tk_law_2 35 rfl) (by decide) ?_
  refine am_iadd (am_dk tk_law_2 36 rfl) ?_
  refine lw_sld (lw_ix 1 (by omega) (by omega) rfl) (am_dk tk_law_2 37 rfl) ?_
  refine ly_cV (M := m_X6_coin) (As := [.int (xs (nI (6 * k) + 1).toNatClampNeg)]) (b := 56) (st := []) (ct_X6_coin e2) rfl (by decide) rfl ml_L_43 ld_X6_coin rfl ⟨Nat.le_of_ble_eq_true rfl, Nat.le_of_ble_eq_true rfl⟩ (Nat.le_of_ble_eq_true rfl) ⟨rfl, rfl⟩ ⟨by show c1 + 0 ≤ 600000; omega, by show c2 + 0 ≤ 7302250; omega⟩ (am_dk tk_law_2 38 rfl) (am_kki ?_)
  refine am_pop (am_dk tk_law_2 39 rfl) rfl ?_
  refine am_goto (tgt := 994) (am_dk tk_law_2 40 rfl) (by decide) ?_
  refine am_wid (cs' := (c1 + 2, c2 + 88200)) (by show c1 ≤ c1 + 2; omega) (by show c2 ≤ c2 + 88200; omega) ?_
  exact kk _ _ _ hI2
theorem lw_case_debt {l : Launch} {b L : Nat} {xs : Nat → Int32} {K : Nat} {Inv : Nat → Nat → Bool → am_M → Prop} (hOK : ok_debt K Inv) {k tw : Nat} {tp : Bool} {D : am_M} (hk : k < K) (hkL : 6 * k + 6 ≤ L) (hL : L ≤ 384) (hI : Inv k tw tp D) (htw : lyT tw) {c1 c2 : Nat} (h1 : c1 + 2 ≤ 600000) (h2 : c2 + 88200 ≤ 7302250) (kk : ∀ (tw : Nat) (tp : Bool) (D : am_M), Inv (k + 1) tw tp D → am_Ex (lw_E l b L xs) code (c1 + 2, c2 + 88200) 994 [(0, .ref 1000000), (1, .ref 0), (2, .ref 56), (3, .int (nI (6 * k)))] [] (ly tw tp D)) : am_Ex (lw_E l b L xs) code (c1, c2) 321 [(0, .ref 1000000), (1, .ref 0), (2, .ref 56), (3, .int (nI (6 * k)))] [] (ly tw tp D) := by
  obtain ⟨r, r', D1, D2, e1, e2, hI2⟩ := hOK k tw tp D hk hI (xs (nI (6 * k) + 1).toNatClampNeg) (xs (nI (6 * k) + 2).toNatClampNeg)
  refine am_aload_n (j := 1) (am_dk tk_law_2 41 rfl) rfl rfl ?_
  refine am_aload_n (j := 0) (am_dk tk_law_2 42 rfl) rfl rfl ?_
  refine am_iload_n (j := 3) (am_dk tk_law_2 43 rfl) rfl rfl ?_
  refine am_iconst (v := 1) (am_dk tk_law_2 44 rfl) (by decide) ?_
  refine am_iadd (am_dk tk_law_2 45 rfl) ?_
  refine lw_sld (lw_ix 1 (by omega) (by omega) rfl) (am_dk tk_law_2 46 rfl) ?_
  refine am_aload_n (j := 0) (am_dk tk_law_2 47 rfl) rfl rfl ?_
  refine am_iload_n (j := 3) (am_dk tk_law_2 48 rfl) rfl rfl ?_
  refine am_iconst (v := 2) (am_dk tk_law_2 49 rfl) (by decide) ?_
  refine am_iadd (am_dk tk_law_3 0 rfl) ?_
  refine lw_sld (lw_ix 2 (by omega) (by omega) rfl) (am_dk tk_law_3 1 rfl) ?_
  refine ly_cV (M := m_X5_debt) (As := [.int (xs (nI (6 * k) + 1).toNatClampNeg), .int (xs (nI (6 * k) + 2).toNatClampNeg)]) (b := 0) (st := []) (ct_X5_debt htw e1) rfl (by decide) rfl ml_L_44 ld_X5_debt rfl ⟨Nat.le_of_ble_eq_true rfl, Nat.le_of_ble_eq_true rfl⟩ (Nat.le_of_ble_eq_true rfl) ⟨rfl, rfl⟩ ⟨by show c1 + 0 ≤ 600000; omega, by show c2 + 0 ≤ 7302250; omega⟩ (am_dk tk_law_3 2 rfl) (am_kki ?_)
  refine am_pop (am_dk tk_law_3 3 rfl) rfl ?_
  refine am_aload_n (j := 2) (am_dk tk_law_3 4 rfl) rfl rfl ?_
  refine am_aload_n (j := 0) (am_dk tk_law_3 5 rfl) rfl rfl ?_
  refine am_iload_n (j := 3) (am_dk tk_law_3 6 rfl) rfl rfl ?_
  refine am_iconst (v := 1) (am_dk tk_law_3 7 rfl) (by decide) ?_
  refine am_iadd (am_dk tk_law_3 8 rfl) ?_
  refine lw_sld (lw_ix 1 (by omega) (by omega) rfl) (am_dk tk_law_3 9 rfl) ?_
  refine am_aload_n (j := 0) (am_dk tk_law_3 10 rfl) rfl rfl ?_
  refine am_iload_n (j := 3) (am_dk tk_law_3 11 rfl) rfl rfl ?_
  refine am_iconst (v := 2) (am_dk tk_law_3 12 rfl) (by decide) ?_
  refine am_iadd (am_dk tk_law_3 13 rfl) ?_
  refine lw_sld (lw_ix 2 (by omega) (by omega) rfl) (am_dk tk_law_3 14 rfl) ?_
  refine ly_cV (M := m_X6_debt) (As := [.int (xs (nI (6 * k) + 1).toNatClampNeg), .int (xs (nI (6 * k) + 2).toNatClampNeg)]) (b := 56) (st := []) (ct_X6_debt e2) rfl (by decide) rfl ml_L_47 ld_X6_debt rfl ⟨Nat.le_of_ble_eq_true rfl, Nat.le_of_ble_eq_true rfl⟩ (Nat.le_of_ble_eq_true rfl) ⟨rfl, rfl⟩ ⟨by show c1 + 0 ≤ 600000; omega, by show c2 + 0 ≤ 7302250; omega⟩ (am_dk tk_law_3 15 rfl) (am_kki ?_)
  refine am_pop (am_dk tk_law_3 16 rfl) rfl ?_
  refine am_goto (tgt := 994) (am_dk tk_law_3 17 rfl) (by decide) ?_
  refine am_wid (cs' := (c1 + 2, c2 + 88200)) (by show c1 ≤ c1 + 2; omega) (by show c2 ≤ c2 + 88200; omega) ?_
  exact kk _ _ _ hI2
theorem lw_case_hour {l : Launch} {b L : Nat} {xs : Nat → Int32} {K : Nat} {Inv : Nat → Nat → Bool → am_M → Prop} (hOK : ok_hour K Inv) {k tw : Nat} {tp : Bool} {D : am_M} (hk : k < K) (hkL : 6 * k + 6 ≤ L) (hL : L ≤ 384) (hI : Inv k tw tp D) (htw : lyT tw) {c1 c2 : Nat} (h1 : c1 + 2 ≤ 600000) (h2 : c2 + 88200 ≤ 7302250) (kk : ∀ (tw : Nat) (tp : Bool) (D : am_M), Inv (k + 1) tw tp D → am_Ex (lw_E l b L xs) code (c1 + 2, c2 + 88200) 994 [(0, .ref 1000000), (1, .ref 0), (2, .ref 56), (3, .int (nI (6 * k)))] [] (ly tw tp D)) : am_Ex (lw_E l b L xs) code (c1, c2) 354 [(0, .ref 1000000), (1, .ref 0), (2, .ref 56), (3, .int (nI (6 * k)))] [] (ly tw tp D) := by
  obtain ⟨r, r', D1, D2, e1, e2, hI2⟩ := hOK k tw tp D hk hI (xs (nI (6 * k) + 1).toNatClampNeg)
  refine am_aload_n (j := 1) (am_dk tk_law_3 18 rfl) rfl rfl ?_
  refine am_aload_n (j := 0) (am_dk tk_law_3 19 rfl) rfl rfl ?_
  refine am_iload_n (j := 3) (am_dk tk_law_3 20 rfl) rfl rfl ?_
  refine am_iconst (v := 1) (am_dk tk_law_3 21 rfl) (by decide) ?_
  refine am_iadd (am_dk tk_law_3 22 rfl) ?_
  refine lw_sld (lw_ix 1 (by omega) (by omega) rfl) (am_dk tk_law_3 23 rfl) ?_
  refine ly_cV (M := m_X5_hour) (As := [.int (xs (nI (6 * k) + 1).toNatClampNeg)]) (b := 0) (st := []) (ct_X5_hour htw e1) rfl (by decide) rfl ml_L_48 ld_X5_hour rfl ⟨Nat.le_of_ble_eq_true rfl, Nat.le_of_ble_eq_true rfl⟩ (Nat.le_of_ble_eq_true rfl) ⟨rfl, rfl⟩ ⟨by show c1 + 0 ≤ 600000; omega, by show c2 + 0 ≤ 7302250; omega⟩ (am_dk tk_law_3 24 rfl) (am_kki ?_)
  refine am_pop (am_dk tk_law_3 25 rfl) rfl ?_
  refine am_aload_n (j := 2) (am_dk tk_law_3 26 rfl) rfl rfl ?_
  refine am_aload_n (j := 0) (am_dk tk_law_3 27 rfl) rfl rfl ?_
  refine am_iload_n (j := 3) (am_dk tk_law_3 28 rfl) rfl rfl ?_
  refine am_iconst (v := 1) (am_dk tk_law_3 29 rfl) (by decide) ?_
  refine am_iadd (am_dk tk_law_3 30 rfl) ?_
  refine lw_sld (lw_ix 1 (by omega) (by omega) rfl) (am_dk tk_law_3 31 rfl) ?_
  refine ly_cV (M := m_X6_hour) (As := [.int (xs (nI (6 * k) + 1).toNatClampNeg)]) (b := 56) (st := []) (ct_X6_hour e2) rfl (by decide) rfl ml_L_51 ld_X6_hour rfl ⟨Nat.le_of_ble_eq_true rfl, Nat.le_of_ble_eq_true rfl⟩ (Nat.le_of_ble_eq_true rfl) ⟨rfl, rfl⟩ ⟨by show c1 + 0 ≤ 600000; omega, by show c2 + 0 ≤ 7302250; omega⟩ (am_dk tk_law_3 32 rfl) (am_kki ?_)
  refine am_pop (am_dk tk_law_3 33 rfl) rfl ?_
  refine am_goto (tgt := 994) (am_dk tk_law_3 34 rfl) (by decide) ?_
  refine am_wid (cs' := (c1 + 2, c2 + 88200)) (by show c1 ≤ c1 + 2; omega) (by show c2 ≤ c2 + 88200; omega) ?_
  exact kk _ _ _ hI2
theorem lw_case_drift {l : Launch} {b L : Nat} {xs : Nat → Int32} {K : Nat} {Inv : Nat → Nat → Bool → am_M → Prop} (hOK : ok_drift K Inv) {k tw : Nat} {tp : Bool} {D : am_M} (hk : k < K) (hkL : 6 * k + 6 ≤ L) (hL : L ≤ 384) (hI : Inv k tw tp D) (htw : lyT tw) {c1 c2 : Nat} (h1 : c1 + 2 ≤ 600000) (h2 : c2 + 88200 ≤ 7302250) (kk : ∀ (tw : Nat) (tp : Bool) (D : am_M), Inv (k + 1) tw tp D → am_Ex (lw_E l b L xs) code (c1 + 2, c2 + 88200) 994 [(0, .ref 1000000), (1, .ref 0), (2, .ref 56), (3, .int (nI (6 * k)))] [] (ly tw tp D)) : am_Ex (lw_E l b L xs) code (c1, c2) 377 [(0, .ref 1000000), (1, .ref 0), (2, .ref 56), (3, .int (nI (6 * k)))] [] (ly tw tp D) := by
  obtain ⟨r, r', D1, D2, e1, e2, hI2⟩ := hOK k tw tp D hk hI (xs (nI (6 * k) + 1).toNatClampNeg)
  refine am_aload_n (j := 1) (am_dk tk_law_3 35 rfl) rfl rfl ?_
  refine am_aload_n (j := 0) (am_dk tk_law_3 36 rfl) rfl rfl ?_
  refine am_iload_n (j := 3) (am_dk tk_law_3 37 rfl) rfl rfl ?_
  refine am_iconst (v := 1) (am_dk tk_law_3 38 rfl) (by decide) ?_
  refine am_iadd (am_dk tk_law_3 39 rfl) ?_
  refine lw_sld (lw_ix 1 (by omega) (by omega) rfl) (am_dk tk_law_3 40 rfl) ?_
  refine ly_cV (M := m_X5_drift) (As := [.int (xs (nI (6 * k) + 1).toNatClampNeg)]) (b := 0) (st := []) (ct_X5_drift htw e1) rfl (by decide) rfl ml_L_52 ld_X5_drift rfl ⟨Nat.le_of_ble_eq_true rfl, Nat.le_of_ble_eq_true rfl⟩ (Nat.le_of_ble_eq_true rfl) ⟨rfl, rfl⟩ ⟨by show c1 + 0 ≤ 600000; omega, by show c2 + 0 ≤ 7302250; omega⟩ (am_dk tk_law_3 41 rfl) (am_kki ?_)
  refine am_pop (am_dk tk_law_3 42 rfl) rfl ?_
  refine am_aload_n (j := 2) (am_dk tk_law_3 43 rfl) rfl rfl ?_
  refine am_aload_n (j := 0) (am_dk tk_law_3 44 rfl) rfl rfl ?_
  refine am_iload_n (j := 3) (am_dk tk_law_3 45 rfl) rfl rfl ?_
  refine am_iconst (v := 1) (am_dk tk_law_3 46 rfl) (by decide) ?_
  refine am_iadd (am_dk tk_law_3 47 rfl) ?_
  refine lw_sld (lw_ix 1 (by omega) (by omega) rfl) (am_dk tk_law_3 48 rfl) ?_
  refine ly_cV (M := m_X6_drift) (As := [.int (xs (nI (6 * k) + 1).toNatClampNeg)]) (b := 56) (st := []) (ct_X6_drift e2) rfl (by decide) rfl ml_L_55 ld_X6_drift rfl ⟨Nat.le_of_ble_eq_true rfl, Nat.le_of_ble_eq_true rfl⟩ (Nat.le_of_ble_eq_true rfl) ⟨rfl, rfl⟩ ⟨by show c1 + 0 ≤ 600000; omega, by show c2 + 0 ≤ 7302250; omega⟩ (am_dk tk_law_3 49 rfl) (am_kki ?_)
  refine am_pop (am_dk tk_law_4 0 rfl) rfl ?_
  refine am_goto (tgt := 994) (am_dk tk_law_4 1 rfl) (by decide) ?_
  refine am_wid (cs' := (c1 + 2, c2 + 88200)) (by show c1 ≤ c1 + 2; omega) (by show c2 ≤ c2 + 88200; omega) ?_
  exact kk _ _ _ hI2
theorem lw_case_give {l : Launch} {b L : Nat} {xs : Nat → Int32} {K : Nat} {Inv : Nat → Nat → Bool → am_M → Prop} (hOK : ok_give K Inv) {k tw : Nat} {tp : Bool} {D : am_M} (hk : k < K) (hkL : 6 * k + 6 ≤ L) (hL : L ≤ 384) (hI : Inv k tw tp D) (htw : lyT tw) {c1 c2 : Nat} (h1 : c1 + 2 ≤ 600000) (h2 : c2 + 88200 ≤ 7302250) (kk : ∀ (tw : Nat) (tp : Bool) (D : am_M), Inv (k + 1) tw tp D → am_Ex (lw_E l b L xs) code (c1 + 2, c2 + 88200) 994 [(0, .ref 1000000), (1, .ref 0), (2, .ref 56), (3, .int (nI (6 * k)))] [] (ly tw tp D)) : am_Ex (lw_E l b L xs) code (c1, c2) 400 [(0, .ref 1000000), (1, .ref 0), (2, .ref 56), (3, .int (nI (6 * k)))] [] (ly tw tp D) := by
  obtain ⟨r, r', D1, D2, e1, e2, hI2⟩ := hOK k tw tp D hk hI (xs (nI (6 * k) + 1).toNatClampNeg) (xs (nI (6 * k) + 2).toNatClampNeg) (xs (nI (6 * k) + 3).toNatClampNeg)
  refine am_aload_n (j := 1) (am_dk tk_law_4 2 rfl) rfl rfl ?_
  refine am_aload_n (j := 0) (am_dk tk_law_4 3 rfl) rfl rfl ?_
  refine am_iload_n (j := 3) (am_dk tk_law_4 4 rfl) rfl rfl ?_
  refine am_iconst (v := 1) (am_dk tk_law_4 5 rfl) (by decide) ?_
  refine am_iadd (am_dk tk_law_4 6 rfl) ?_
  refine lw_sld (lw_ix 1 (by omega) (by omega) rfl) (am_dk tk_law_4 7 rfl) ?_
  refine am_aload_n (j := 0) (am_dk tk_law_4 8 rfl) rfl rfl ?_
  refine am_iload_n (j := 3) (am_dk tk_law_4 9 rfl) rfl rfl ?_
  refine am_iconst (v := 2) (am_dk tk_law_4 10 rfl) (by decide) ?_
  refine am_iadd (am_dk tk_law_4 11 rfl) ?_
  refine lw_sld (lw_ix 2 (by omega) (by omega) rfl) (am_dk tk_law_4 12 rfl) ?_
  refine am_aload_n (j := 0) (am_dk tk_law_4 13 rfl) rfl rfl ?_
  refine am_iload_n (j := 3) (am_dk tk_law_4 14 rfl) rfl rfl ?_
  refine am_iconst (v := 3) (am_dk tk_law_4 15 rfl) (by decide) ?_
  refine am_iadd (am_dk tk_law_4 16 rfl) ?_
  refine lw_sld (lw_ix 3 (by omega) (by omega) rfl) (am_dk tk_law_4 17 rfl) ?_
  refine ly_cV (M := m_X5_give) (As := [.int (xs (nI (6 * k) + 1).toNatClampNeg), .int (xs (nI (6 * k) + 2).toNatClampNeg), .int (xs (nI (6 * k) + 3).toNatClampNeg)]) (b := 0) (st := []) (ct_X5_give htw e1) rfl (by decide) rfl ml_L_56 ld_X5_give rfl ⟨Nat.le_of_ble_eq_true rfl, Nat.le_of_ble_eq_true rfl⟩ (Nat.le_of_ble_eq_true rfl) ⟨rfl, rfl⟩ ⟨by show c1 + 0 ≤ 600000; omega, by show c2 + 0 ≤ 7302250; omega⟩ (am_dk tk_law_4 18 rfl) (am_kki ?_)
  refine am_pop (am_dk tk_law_4 19 rfl) rfl ?_
  refine am_aload_n (j := 2) (am_dk tk_law_4 20 rfl) rfl rfl ?_
  refine am_aload_n (j := 0) (am_dk tk_law_4 21 rfl) rfl rfl ?_
  refine am_iload_n (j := 3) (am_dk tk_law_4 22 rfl) rfl rfl ?_
  refine am_iconst (v := 1) (am_dk tk_law_4 23 rfl) (by decide) ?_
  refine am_iadd (am_dk tk_law_4 24 rfl) ?_
  refine lw_sld (lw_ix 1 (by omega) (by omega) rfl) (am_dk tk_law_4 25 rfl) ?_
  refine am_aload_n (j := 0) (am_dk tk_law_4 26 rfl) rfl rfl ?_
  refine am_iload_n (j := 3) (am_dk tk_law_4 27 rfl) rfl rfl ?_
  refine am_iconst (v := 2) (am_dk tk_law_4 28 rfl) (by decide) ?_
  refine am_iadd (am_dk tk_law_4 29 rfl) ?_
  refine lw_sld (lw_ix 2 (by omega) (by omega) rfl) (am_dk tk_law_4 30 rfl) ?_
  refine am_aload_n (j := 0) (am_dk tk_law_4 31 rfl) rfl rfl ?_
  refine am_iload_n (j := 3) (am_dk tk_law_4 32 rfl) rfl rfl ?_
  refine am_iconst (v := 3) (am_dk tk_law_4 33 rfl) (by decide) ?_
  refine am_iadd (am_dk tk_law_4 34 rfl) ?_
  refine lw_sld (lw_ix 3 (by omega) (by omega) rfl) (am_dk tk_law_4 35 rfl) ?_
  refine ly_cV (M := m_X6_give) (As := [.int (xs (nI (6 * k) + 1).toNatClampNeg), .int (xs (nI (6 * k) + 2).toNatClampNeg), .int (xs (nI (6 * k) + 3).toNatClampNeg)]) (b := 56) (st := []) (ct_X6_give e2) rfl (by decide) rfl ml_L_60 ld_X6_give rfl ⟨Nat.le_of_ble_eq_true rfl, Nat.le_of_ble_eq_true rfl⟩ (Nat.le_of_ble_eq_true rfl) ⟨rfl, rfl⟩ ⟨by show c1 + 0 ≤ 600000; omega, by show c2 + 0 ≤ 7302250; omega⟩ (am_dk tk_law_4 36 rfl) (am_kki ?_)
  refine am_pop (am_dk tk_law_4 37 rfl) rfl ?_
  refine am_goto (tgt := 994) (am_dk tk_law_4 38 rfl) (by decide) ?_
  refine am_wid (cs' := (c1 + 2, c2 + 88200)) (by show c1 ≤ c1 + 2; omega) (by show c2 ≤ c2 + 88200; omega) ?_
  exact kk _ _ _ hI2
theorem lw_case_change {l : Launch} {b L : Nat} {xs : Nat → Int32} {K : Nat} {Inv : Nat → Nat → Bool → am_M → Prop} (hOK : ok_change K Inv) {k tw : Nat} {tp : Bool} {D : am_M} (hk : k < K) (hkL : 6 * k + 6 ≤ L) (hL : L ≤ 384) (hI : Inv k tw tp D) (htw : lyT tw) {c1 c2 : Nat} (h1 : c1 + 2 ≤ 600000) (h2 : c2 + 88200 ≤ 7302250) (kk : ∀ (tw : Nat) (tp : Bool) (D : am_M), Inv (k + 1) tw tp D → am_Ex (lw_E l b L xs) code (c1 + 2, c2 + 88200) 994 [(0, .ref 1000000), (1, .ref 0), (2, .ref 56), (3, .int (nI (6 * k)))] [] (ly tw tp D)) : am_Ex (lw_E l b L xs) code (c1, c2) 443 [(0, .ref 1000000), (1, .ref 0), (2, .ref 56), (3, .int (nI (6 * k)))] [] (ly tw tp D) := by
  obtain ⟨r, r', D1, D2, e1, e2, hI2⟩ := hOK k tw tp D hk hI (xs (nI (6 * k) + 1).toNatClampNeg) (xs (nI (6 * k) + 2).toNatClampNeg) (xs (nI (6 * k) + 3).toNatClampNeg)
  refine am_aload_n (j := 1) (am_dk tk_law_4 39 rfl) rfl rfl ?_
  refine am_aload_n (j := 0) (am_dk tk_law_4 40 rfl) rfl rfl ?_
  refine am_iload_n (j := 3) (am_dk tk_law_4 41 rfl) rfl rfl ?_
  refine am_iconst (v := 1) (am_dk tk_law_4 42 rfl) (by decide) ?_
  refine am_iadd (am_dk tk_law_4 43 rfl) ?_
  refine lw_sld (lw_ix 1 (by omega) (by omega) rfl) (am_dk tk_law_4 44 rfl) ?_
  refine am_aload_n (j := 0) (am_dk tk_law_4 45 rfl) rfl rfl ?_
  refine am_iload_n (j := 3) (am_dk tk_law_4 46 rfl) rfl rfl ?_
  refine am_iconst (v := 2) (am_dk tk_law_4 47 rfl) (by decide) ?_
  refine am_iadd (am_dk tk_law_4 48 rfl) ?_
  refine lw_sld (lw_ix 2 (by omega) (by omega) rfl) (am_dk tk_law_4 49 rfl) ?_
  refine am_aload_n (j := 0) (am_dk tk_law_5 0 rfl) rfl rfl ?_
  refine am_iload_n (j := 3) (am_dk tk_law_5 1 rfl) rfl rfl ?_
  refine am_iconst (v := 3) (am_dk tk_law_5 2 rfl) (by decide) ?_
  refine am_iadd (am_dk tk_law_5 3 rfl) ?_
  refine lw_sld (lw_ix 3 (by omega) (by omega) rfl) (am_dk tk_law_5 4 rfl) ?_
  refine ly_cV (M := m_X5_change) (As := [.int (xs (nI (6 * k) + 1).toNatClampNeg), .int (xs (nI (6 * k) + 2).toNatClampNeg), .int (xs (nI (6 * k) + 3).toNatClampNeg)]) (b := 0) (st := []) (ct_X5_change htw e1) rfl (by decide) rfl ml_L_61 ld_X5_change rfl ⟨Nat.le_of_ble_eq_true rfl, Nat.le_of_ble_eq_true rfl⟩ (Nat.le_of_ble_eq_true rfl) ⟨rfl, rfl⟩ ⟨by show c1 + 0 ≤ 600000; omega, by show c2 + 0 ≤ 7302250; omega⟩ (am_dk tk_law_5 5 rfl) (am_kki ?_)
  refine am_pop (am_dk tk_law_5 6 rfl) rfl ?_
  refine am_aload_n (j := 2) (am_dk tk_law_5 7 rfl) rfl rfl ?_
  refine am_aload_n (j := 0) (am_dk tk_law_5 8 rfl) rfl rfl ?_
  refine am_iload_n (j := 3) (am_dk tk_law_5 9 rfl) rfl rfl ?_
  refine am_iconst (v := 1) (am_dk tk_law_5 10 rfl) (by decide) ?_
  refine am_iadd (am_dk tk_law_5 11 rfl) ?_
  refine lw_sld (lw_ix 1 (by omega) (by omega) rfl) (am_dk tk_law_5 12 rfl) ?_
  refine am_aload_n (j := 0) (am_dk tk_law_5 13 rfl) rfl rfl ?_
  refine am_iload_n (j := 3) (am_dk tk_law_5 14 rfl) rfl rfl ?_
  refine am_iconst (v := 2) (am_dk tk_law_5 15 rfl) (by decide) ?_
  refine am_iadd (am_dk tk_law_5 16 rfl) ?_
  refine lw_sld (lw_ix 2 (by omega) (by omega) rfl) (am_dk tk_law_5 17 rfl) ?_
  refine am_aload_n (j := 0) (am_dk tk_law_5 18 rfl) rfl rfl ?_
  refine am_iload_n (j := 3) (am_dk tk_law_5 19 rfl) rfl rfl ?_
  refine am_iconst (v := 3) (am_dk tk_law_5 20 rfl) (by decide) ?_
  refine am_iadd (am_dk tk_law_5 21 rfl) ?_
  refine lw_sld (lw_ix 3 (by omega) (by omega) rfl) (am_dk tk_law_5 22 rfl) ?_
  refine ly_cV (M := m_X6_change) (As := [.int (xs (nI (6 * k) + 1).toNatClampNeg), .int (xs (nI (6 * k) + 2).toNatClampNeg), .int (xs (nI (6 * k) + 3).toNatClampNeg)]) (b := 56) (st := []) (ct_X6_change e2) rfl (by decide) rfl ml_L_64 ld_X6_change rfl ⟨Nat.le_of_ble_eq_true rfl, Nat.le_of_ble_eq_true rfl⟩ (Nat.le_of_ble_eq_true rfl) ⟨rfl, rfl⟩ ⟨by show c1 + 0 ≤ 600000; omega, by show c2 + 0 ≤ 7302250; omega⟩ (am_dk tk_law_5 23 rfl) (am_kki ?_)
  refine am_pop (am_dk tk_law_5 24 rfl) rfl ?_
  refine am_goto (tgt := 994) (am_dk tk_law_5 25 rfl) (by decide) ?_
  refine am_wid (cs' := (c1 + 2, c2 + 88200)) (by show c1 ≤ c1 + 2; omega) (by show c2 ≤ c2 + 88200; omega) ?_
  exact kk _ _ _ hI2
theorem lw_case_firstShort {l : Launch} {b L : Nat} {xs : Nat → Int32} {K : Nat} {Inv : Nat → Nat → Bool → am_M → Prop} (hOK : ok_firstShort K Inv) {k tw : Nat} {tp : Bool} {D : am_M} (hk : k < K) (hkL : 6 * k + 6 ≤ L) (hL : L ≤ 384) (hI : Inv k tw tp D) (htw : lyT tw) {c1 c2 : Nat} (h1 : c1 + 2 ≤ 600000) (h2 : c2 + 88200 ≤ 7302250) (kk : ∀ (tw : Nat) (tp : Bool) (D : am_M), Inv (k + 1) tw tp D → am_Ex (lw_E l b L xs) code (c1 + 2, c2 + 88200) 994 [(0, .ref 1000000), (1, .ref 0), (2, .ref 56), (3, .int (nI (6 * k)))] [] (ly tw tp D)) : am_Ex (lw_E l b L xs) code (c1, c2) 486 [(0, .ref 1000000), (1, .ref 0), (2, .ref 56), (3, .int (nI (6 * k)))] [] (ly tw tp D) := by
  obtain ⟨r, r', D1, D2, e1, e2, hI2⟩ := hOK k tw tp D hk hI (xs (nI (6 * k) + 1).toNatClampNeg)
  refine am_aload_n (j := 1) (am_dk tk_law_5 26 rfl) rfl rfl ?_
  refine am_aload_n (j := 0) (am_dk tk_law_5 27 rfl) rfl rfl ?_
  refine am_iload_n (j := 3) (am_dk tk_law_5 28 rfl) rfl rfl ?_
  refine am_iconst (v := 1) (am_dk tk_law_5 29 rfl) (by decide) ?_
  refine am_iadd (am_dk tk_law_5 30 rfl) ?_
  refine lw_sld (lw_ix 1 (by omega) (by omega) rfl) (am_dk tk_law_5 31 rfl) ?_
  refine ly_cV (M := m_X5_firstShort) (As := [.int (xs (nI (6 * k) + 1).toNatClampNeg)]) (b := 0) (st := []) (ct_X5_firstShort htw e1) rfl (by decide) rfl ml_L_65 ld_X5_firstShort rfl ⟨Nat.le_of_ble_eq_true rfl, Nat.le_of_ble_eq_true rfl⟩ (Nat.le_of_ble_eq_true rfl) ⟨rfl, rfl⟩ ⟨by show c1 + 0 ≤ 600000; omega, by show c2 + 0 ≤ 7302250; omega⟩ (am_dk tk_law_5 32 rfl) (am_kki ?_)
  refine am_pop (am_dk tk_law_5 33 rfl) rfl ?_
  refine am_aload_n (j := 2) (am_dk tk_law_5 34 rfl) rfl rfl ?_
  refine am_aload_n (j := 0) (am_dk tk_law_5 35 rfl) rfl rfl ?_
  refine am_iload_n (j := 3) (am_dk tk_law_5 36 rfl) rfl rfl ?_
  refine am_iconst (v := 1) (am_dk tk_law_5 37 rfl) (by decide) ?_
  refine am_iadd (am_dk tk_law_5 38 rfl) ?_
  refine lw_sld (lw_ix 1 (by omega) (by omega) rfl) (am_dk tk_law_5 39 rfl) ?_
  refine ly_cV (M := m_X6_firstShort) (As := [.int (xs (nI (6 * k) + 1).toNatClampNeg)]) (b := 56) (st := []) (ct_X6_firstShort e2) rfl (by decide) rfl ml_L_68 ld_X6_firstShort rfl ⟨Nat.le_of_ble_eq_true rfl, Nat.le_of_ble_eq_true rfl⟩ (Nat.le_of_ble_eq_true rfl) ⟨rfl, rfl⟩ ⟨by show c1 + 0 ≤ 600000; omega, by show c2 + 0 ≤ 7302250; omega⟩ (am_dk tk_law_5 40 rfl) (am_kki ?_)
  refine am_pop (am_dk tk_law_5 41 rfl) rfl ?_
  refine am_goto (tgt := 994) (am_dk tk_law_5 42 rfl) (by decide) ?_
  refine am_wid (cs' := (c1 + 2, c2 + 88200)) (by show c1 ≤ c1 + 2; omega) (by show c2 ≤ c2 + 88200; omega) ?_
  exact kk _ _ _ hI2
theorem lw_case_richest {l : Launch} {b L : Nat} {xs : Nat → Int32} {K : Nat} {Inv : Nat → Nat → Bool → am_M → Prop} (hOK : ok_richest K Inv) {k tw : Nat} {tp : Bool} {D : am_M} (hk : k < K) (hkL : 6 * k + 6 ≤ L) (hL : L ≤ 384) (hI : Inv k tw tp D) (htw : lyT tw) {c1 c2 : Nat} (h1 : c1 + 2 ≤ 600000) (h2 : c2 + 88200 ≤ 7302250) (kk : ∀ (tw : Nat) (tp : Bool) (D : am_M), Inv (k + 1) tw tp D → am_Ex (lw_E l b L xs) code (c1 + 2, c2 + 88200) 994 [(0, .ref 1000000), (1, .ref 0), (2, .ref 56), (3, .int (nI (6 * k)))] [] (ly tw tp D)) : am_Ex (lw_E l b L xs) code (c1, c2) 509 [(0, .ref 1000000), (1, .ref 0), (2, .ref 56), (3, .int (nI (6 * k)))] [] (ly tw tp D) := by
  obtain ⟨r, r', D1, D2, e1, e2, hI2⟩ := hOK k tw tp D hk hI (xs (nI (6 * k) + 1).toNatClampNeg) (xs (nI (6 * k) + 2).toNatClampNeg)
  refine am_aload_n (j := 1) (am_dk tk_law_5 43 rfl) rfl rfl ?_
  refine am_aload_n (j := 0) (am_dk tk_law_5 44 rfl) rfl rfl ?_
  refine am_iload_n (j := 3) (am_dk tk_law_5 45 rfl) rfl rfl ?_
  refine am_iconst (v := 1) (am_dk tk_law_5 46 rfl) (by decide) ?_
  refine am_iadd (am_dk tk_law_5 47 rfl) ?_
  refine lw_sld (lw_ix 1 (by omega) (by omega) rfl) (am_dk tk_law_5 48 rfl) ?_
  refine am_aload_n (j := 0) (am_dk tk_law_5 49 rfl) rfl rfl ?_
  refine am_iload_n (j := 3) (am_dk tk_law_6 0 rfl) rfl rfl ?_
  refine am_iconst (v := 2) (am_dk tk_law_6 1 rfl) (by decide) ?_
  refine am_iadd (am_dk tk_law_6 2 rfl) ?_
  refine lw_sld (lw_ix 2 (by omega) (by omega) rfl) (am_dk tk_law_6 3 rfl) ?_
  refine ly_cV (M := m_X5_richest) (As := [.int (xs (nI (6 * k) + 1).toNatClampNeg), .int (xs (nI (6 * k) + 2).toNatClampNeg)]) (b := 0) (st := []) (ct_X5_richest htw e1) rfl (by decide) rfl ml_L_69 ld_X5_richest rfl ⟨Nat.le_of_ble_eq_true rfl, Nat.le_of_ble_eq_true rfl⟩ (Nat.le_of_ble_eq_true rfl) ⟨rfl, rfl⟩ ⟨by show c1 + 0 ≤ 600000; omega, by show c2 + 0 ≤ 7302250; omega⟩ (am_dk tk_law_6 4 rfl) (am_kki ?_)
  refine am_pop (am_dk tk_law_6 5 rfl) rfl ?_
  refine am_aload_n (j := 2) (am_dk tk_law_6 6 rfl) rfl rfl ?_
  refine am_aload_n (j := 0) (am_dk tk_law_6 7 rfl) rfl rfl ?_
  refine am_iload_n (j := 3) (am_dk tk_law_6 8 rfl) rfl rfl ?_
  refine am_iconst (v := 1) (am_dk tk_law_6 9 rfl) (by decide) ?_
  refine am_iadd (am_dk tk_law_6 10 rfl) ?_
  refine lw_sld (lw_ix 1 (by omega) (by omega) rfl) (am_dk tk_law_6 11 rfl) ?_
  refine am_aload_n (j := 0) (am_dk tk_law_6 12 rfl) rfl rfl ?_
  refine am_iload_n (j := 3) (am_dk tk_law_6 13 rfl) rfl rfl ?_
  refine am_iconst (v := 2) (am_dk tk_law_6 14 rfl) (by decide) ?_
  refine am_iadd (am_dk tk_law_6 15 rfl) ?_
  refine lw_sld (lw_ix 2 (by omega) (by omega) rfl) (am_dk tk_law_6 16 rfl) ?_
  refine ly_cV (M := m_X6_richest) (As := [.int (xs (nI (6 * k) + 1).toNatClampNeg), .int (xs (nI (6 * k) + 2).toNatClampNeg)]) (b := 56) (st := []) (ct_X6_richest e2) rfl (by decide) rfl ml_L_72 ld_X6_richest rfl ⟨Nat.le_of_ble_eq_true rfl, Nat.le_of_ble_eq_true rfl⟩ (Nat.le_of_ble_eq_true rfl) ⟨rfl, rfl⟩ ⟨by show c1 + 0 ≤ 600000; omega, by show c2 + 0 ≤ 7302250; omega⟩ (am_dk tk_law_6 17 rfl) (am_kki ?_)
  refine am_pop (am_dk tk_law_6 18 rfl) rfl ?_
  refine am_goto (tgt := 994) (am_dk tk_law_6 19 rfl) (by decide) ?_
  refine am_wid (cs' := (c1 + 2, c2 + 88200)) (by show c1 ≤ c1 + 2; omega) (by show c2 ≤ c2 + 88200; omega) ?_
  exact kk _ _ _ hI2
theorem lw_case_life {l : Launch} {b L : Nat} {xs : Nat → Int32} {K : Nat} {Inv : Nat → Nat → Bool → am_M → Prop} (hOK : ok_life K Inv) {k tw : Nat} {tp : Bool} {D : am_M} (hk : k < K) (hkL : 6 * k + 6 ≤ L) (hL : L ≤ 384) (hI : Inv k tw tp D) (htw : lyT tw) {c1 c2 : Nat} (h1 : c1 + 2 ≤ 600000) (h2 : c2 + 88200 ≤ 7302250) (kk : ∀ (tw : Nat) (tp : Bool) (D : am_M), Inv (k + 1) tw tp D → am_Ex (lw_E l b L xs) code (c1 + 2, c2 + 88200) 994 [(0, .ref 1000000), (1, .ref 0), (2, .ref 56), (3, .int (nI (6 * k)))] [] (ly tw tp D)) : am_Ex (lw_E l b L xs) code (c1, c2) 542 [(0, .ref 1000000), (1, .ref 0), (2, .ref 56), (3, .int (nI (6 * k)))] [] (ly tw tp D) := by
  obtain ⟨r, r', b1, D1, D2, e1, e2, hI2⟩ := hOK k tw tp D hk hI (xs (nI (6 * k) + 1).toNatClampNeg) (xs (nI (6 * k) + 2).toNatClampNeg) (xs (nI (6 * k) + 3).toNatClampNeg)
  refine am_aload_n (j := 1) (am_dk tk_law_6 20 rfl) rfl rfl ?_
  refine am_aload_n (j := 0) (am_dk tk_law_6 21 rfl) rfl rfl ?_
  refine am_iload_n (j := 3) (am_dk tk_law_6 22 rfl) rfl rfl ?_
  refine am_iconst (v := 1) (am_dk tk_law_6 23 rfl) (by decide) ?_
  refine am_iadd (am_dk tk_law_6 24 rfl) ?_
  refine lw_sld (lw_ix 1 (by omega) (by omega) rfl) (am_dk tk_law_6 25 rfl) ?_
  refine am_aload_n (j := 0) (am_dk tk_law_6 26 rfl) rfl rfl ?_
  refine am_iload_n (j := 3) (am_dk tk_law_6 27 rfl) rfl rfl ?_
  refine am_iconst (v := 2) (am_dk tk_law_6 28 rfl) (by decide) ?_
  refine am_iadd (am_dk tk_law_6 29 rfl) ?_
  refine lw_sld (lw_ix 2 (by omega) (by omega) rfl) (am_dk tk_law_6 30 rfl) ?_
  refine am_aload_n (j := 0) (am_dk tk_law_6 31 rfl) rfl rfl ?_
  refine am_iload_n (j := 3) (am_dk tk_law_6 32 rfl) rfl rfl ?_
  refine am_iconst (v := 3) (am_dk tk_law_6 33 rfl) (by decide) ?_
  refine am_iadd (am_dk tk_law_6 34 rfl) ?_
  refine lw_sld (lw_ix 3 (by omega) (by omega) rfl) (am_dk tk_law_6 35 rfl) ?_
  refine am_callVB (M := m_X5_life) (cs := (c1, c2)) (n1 := 2) (n2 := 88200) ⟨rfl, rfl⟩ (As := [.int (xs (nI (6 * k) + 1).toNatClampNeg), .int (xs (nI (6 * k) + 2).toNatClampNeg), .int (xs (nI (6 * k) + 3).toNatClampNeg)]) (b := 0) (st := []) rfl (Nat.zero_le _) (by cases tp <;> rfl) rfl (ct_X5_life htw e1) rfl (by decide) rfl ml_L_73 ld_X5_life rfl ⟨Nat.le_of_ble_eq_true rfl, Nat.le_of_ble_eq_true rfl⟩ (Nat.le_of_ble_eq_true rfl) ⟨h1, h2⟩ (am_dk tk_law_6 36 rfl) (am_kki ?_)
  refine am_pop (am_dk tk_law_6 37 rfl) rfl ?_
  refine am_aload_n (j := 2) (am_dk tk_law_6 38 rfl) rfl rfl ?_
  refine am_aload_n (j := 0) (am_dk tk_law_6 39 rfl) rfl rfl ?_
  refine am_iload_n (j := 3) (am_dk tk_law_6 40 rfl) rfl rfl ?_
  refine am_iconst (v := 1) (am_dk tk_law_6 41 rfl) (by decide) ?_
  refine am_iadd (am_dk tk_law_6 42 rfl) ?_
  refine lw_sld (lw_ix 1 (by omega) (by omega) rfl) (am_dk tk_law_6 43 rfl) ?_
  refine am_aload_n (j := 0) (am_dk tk_law_6 44 rfl) rfl rfl ?_
  refine am_iload_n (j := 3) (am_dk tk_law_6 45 rfl) rfl rfl ?_
  refine am_iconst (v := 2) (am_dk tk_law_6 46 rfl) (by decide) ?_
  refine am_iadd (am_dk tk_law_6 47 rfl) ?_
  refine lw_sld (lw_ix 2 (by omega) (by omega) rfl) (am_dk tk_law_6 48 rfl) ?_
  refine am_aload_n (j := 0) (am_dk tk_law_6 49 rfl) rfl rfl ?_
  refine am_iload_n (j := 3) (am_dk tk_law_7 0 rfl) rfl rfl ?_
  refine am_iconst (v := 3) (am_dk tk_law_7 1 rfl) (by decide) ?_
  refine am_iadd (am_dk tk_law_7 2 rfl) ?_
  refine lw_sld (lw_ix 3 (by omega) (by omega) rfl) (am_dk tk_law_7 3 rfl) ?_
  refine ly_cV (M := m_X6_life) (As := [.int (xs (nI (6 * k) + 1).toNatClampNeg), .int (xs (nI (6 * k) + 2).toNatClampNeg), .int (xs (nI (6 * k) + 3).toNatClampNeg)]) (b := 56) (st := []) (ct_X6_life e2) rfl (by decide) rfl ml_L_76 ld_X6_life rfl ⟨Nat.le_of_ble_eq_true rfl, Nat.le_of_ble_eq_true rfl⟩ (Nat.le_of_ble_eq_true rfl) ⟨rfl, rfl⟩ (am_fcs0 ⟨rfl, rfl⟩ h1 h2) (am_dk tk_law_7 4 rfl) (am_kki ?_)
  refine am_pop (am_dk tk_law_7 5 rfl) rfl ?_
  refine am_goto (tgt := 994) (am_dk tk_law_7 6 rfl) (by decide) ?_
  exact kk _ _ _ hI2
theorem lw_case_shift {l : Launch} {b L : Nat} {xs : Nat → Int32} {K : Nat} {Inv : Nat → Nat → Bool → am_M → Prop} (hOK : ok_shift K Inv) {k tw : Nat} {tp : Bool} {D : am_M} (hk : k < K) (hkL : 6 * k + 6 ≤ L) (hL : L ≤ 384) (hI : Inv k tw tp D) (htw : lyT tw) {c1 c2 : Nat} (h1 : c1 + 2 ≤ 600000) (h2 : c2 + 88200 ≤ 7302250) (kk : ∀ (tw : Nat) (tp : Bool) (D : am_M), Inv (k + 1) tw tp D → am_Ex (lw_E l b L xs) code (c1 + 2, c2 + 88200) 994 [(0, .ref 1000000), (1, .ref 0), (2, .ref 56), (3, .int (nI (6 * k)))] [] (ly tw tp D)) : am_Ex (lw_E l b L xs) code (c1, c2) 585 [(0, .ref 1000000), (1, .ref 0), (2, .ref 56), (3, .int (nI (6 * k)))] [] (ly tw tp D) := by
  obtain ⟨r, r', D1, D2, e1, e2, hI2⟩ := hOK k tw tp D hk hI (xs (nI (6 * k) + 1).toNatClampNeg) (xs (nI (6 * k) + 2).toNatClampNeg)
  refine am_aload_n (j := 1) (am_dk tk_law_7 7 rfl) rfl rfl ?_
  refine am_aload_n (j := 0) (am_dk tk_law_7 8 rfl) rfl rfl ?_
  refine am_iload_n (j := 3) (am_dk tk_law_7 9 rfl) rfl rfl ?_
  refine am_iconst (v := 1) (am_dk tk_law_7 10 rfl) (by decide) ?_
  refine am_iadd (am_dk tk_law_7 11 rfl) ?_
  refine lw_sld (lw_ix 1 (by omega) (by omega) rfl) (am_dk tk_law_7 12 rfl) ?_
  refine am_aload_n (j := 0) (am_dk tk_law_7 13 rfl) rfl rfl ?_
  refine am_iload_n (j := 3) (am_dk tk_law_7 14 rfl) rfl rfl ?_
  refine am_iconst (v := 2) (am_dk tk_law_7 15 rfl) (by decide) ?_
  refine am_iadd (am_dk tk_law_7 16 rfl) ?_
  refine lw_sld (lw_ix 2 (by omega) (by omega) rfl) (am_dk tk_law_7 17 rfl) ?_
  refine ly_cV (M := m_X5_shift) (As := [.int (xs (nI (6 * k) + 1).toNatClampNeg), .int (xs (nI (6 * k) + 2).toNatClampNeg)]) (b := 0) (st := []) (ct_X5_shift htw e1) rfl (by decide) rfl ml_L_77 ld_X5_shift rfl ⟨Nat.le_of_ble_eq_true rfl, Nat.le_of_ble_eq_true rfl⟩ (Nat.le_of_ble_eq_true rfl) ⟨rfl, rfl⟩ ⟨by show c1 + 0 ≤ 600000; omega, by show c2 + 0 ≤ 7302250; omega⟩ (am_dk tk_law_7 18 rfl) (am_kki ?_)
  refine am_pop (am_dk tk_law_7 19 rfl) rfl ?_
  refine am_aload_n (j := 2) (am_dk tk_law_7 20 rfl) rfl rfl ?_
  refine am_aload_n (j := 0) (am_dk tk_law_7 21 rfl) rfl rfl ?_
  refine am_iload_n (j := 3) (am_dk tk_law_7 22 rfl) rfl rfl ?_
  refine am_iconst (v := 1) (am_dk tk_law_7 23 rfl) (by decide) ?_
  refine am_iadd (am_dk tk_law_7 24 rfl) ?_
  refine lw_sld (lw_ix 1 (by omega) (by omega) rfl) (am_dk tk_law_7 25 rfl) ?_
  refine am_aload_n (j := 0) (am_dk tk_law_7 26 rfl) rfl rfl ?_
  refine am_iload_n (j := 3) (am_dk tk_law_7 27 rfl) rfl rfl ?_
  refine am_iconst (v := 2) (am_dk tk_law_7 28 rfl) (by decide) ?_
  refine am_iadd (am_dk tk_law_7 29 rfl) ?_
  refine lw_sld (lw_ix 2 (by omega) (by omega) rfl) (am_dk tk_law_7 30 rfl) ?_
  refine ly_cV (M := m_X6_shift) (As := [.int (xs (nI (6 * k) + 1).toNatClampNeg), .int (xs (nI (6 * k) + 2).toNatClampNeg)]) (b := 56) (st := []) (ct_X6_shift e2) rfl (by decide) rfl ml_L_80 ld_X6_shift rfl ⟨Nat.le_of_ble_eq_true rfl, Nat.le_of_ble_eq_true rfl⟩ (Nat.le_of_ble_eq_true rfl) ⟨rfl, rfl⟩ ⟨by show c1 + 0 ≤ 600000; omega, by show c2 + 0 ≤ 7302250; omega⟩ (am_dk tk_law_7 31 rfl) (am_kki ?_)
  refine am_pop (am_dk tk_law_7 32 rfl) rfl ?_
  refine am_goto (tgt := 994) (am_dk tk_law_7 33 rfl) (by decide) ?_
  refine am_wid (cs' := (c1 + 2, c2 + 88200)) (by show c1 ≤ c1 + 2; omega) (by show c2 ≤ c2 + 88200; omega) ?_
  exact kk _ _ _ hI2
theorem lw_case_coins {l : Launch} {b L : Nat} {xs : Nat → Int32} {K : Nat} {Inv : Nat → Nat → Bool → am_M → Prop} (hOK : ok_coins K Inv) {k tw : Nat} {tp : Bool} {D : am_M} (hk : k < K) (hkL : 6 * k + 6 ≤ L) (hL : L ≤ 384) (hI : Inv k tw tp D) (htw : lyT tw) {c1 c2 : Nat} (h1 : c1 + 2 ≤ 600000) (h2 : c2 + 88200 ≤ 7302250) (kk : ∀ (tw : Nat) (tp : Bool) (D : am_M), Inv (k + 1) tw tp D → am_Ex (lw_E l b L xs) code (c1 + 2, c2 + 88200) 994 [(0, .ref 1000000), (1, .ref 0), (2, .ref 56), (3, .int (nI (6 * k)))] [] (ly tw tp D)) : am_Ex (lw_E l b L xs) code (c1, c2) 618 [(0, .ref 1000000), (1, .ref 0), (2, .ref 56), (3, .int (nI (6 * k)))] [] (ly tw tp D) := by
  obtain ⟨r, r', D1, D2, e1, e2, hI2⟩ := hOK k tw tp D hk hI (xs (nI (6 * k) + 1).toNatClampNeg) (xs (nI (6 * k) + 2).toNatClampNeg)
  refine am_aload_n (j := 1) (am_dk tk_law_7 34 rfl) rfl rfl ?_
  refine am_aload_n (j := 0) (am_dk tk_law_7 35 rfl) rfl rfl ?_
  refine am_iload_n (j := 3) (am_dk tk_law_7 36 rfl) rfl rfl ?_
  refine am_iconst (v := 1) (am_dk tk_law_7 37 rfl) (by decide) ?_
  refine am_iadd (am_dk tk_law_7 38 rfl) ?_
  refine lw_sld (lw_ix 1 (by omega) (by omega) rfl) (am_dk tk_law_7 39 rfl) ?_
  refine am_aload_n (j := 0) (am_dk tk_law_7 40 rfl) rfl rfl ?_
  refine am_iload_n (j := 3) (am_dk tk_law_7 41 rfl) rfl rfl ?_
  refine am_iconst (v := 2) (am_dk tk_law_7 42 rfl) (by decide) ?_
  refine am_iadd (am_dk tk_law_7 43 rfl) ?_
  refine lw_sld (lw_ix 2 (by omega) (by omega) rfl) (am_dk tk_law_7 44 rfl) ?_
  refine ly_cV (M := m_X5_coins) (As := [.int (xs (nI (6 * k) + 1).toNatClampNeg), .int (xs (nI (6 * k) + 2).toNatClampNeg)]) (b := 0) (st := []) (ct_X5_coins htw e1) rfl (by decide) rfl ml_L_81 ld_X5_coins rfl ⟨Nat.le_of_ble_eq_true rfl, Nat.le_of_ble_eq_true rfl⟩ (Nat.le_of_ble_eq_true rfl) ⟨rfl, rfl⟩ ⟨by show c1 + 0 ≤ 600000; omega, by show c2 + 0 ≤ 7302250; omega⟩ (am_dk tk_law_7 45 rfl) (am_kki ?_)
  refine am_pop (am_dk tk_law_7 46 rfl) rfl ?_
  refine am_aload_n (j := 2) (am_dk tk_law_7 47 rfl) rfl rfl ?_
  refine am_aload_n (j := 0) (am_dk tk_law_7 48 rfl) rfl rfl ?_
  refine am_iload_n (j := 3) (am_dk tk_law_7 49 rfl) rfl rfl ?_
  refine am_iconst (v := 1) (am_dk tk_law_8 0 rfl) (by decide) ?_
  refine am_iadd (am_dk tk_law_8 1 rfl) ?_
  refine lw_sld (lw_ix 1 (by omega) (by omega) rfl) (am_dk tk_law_8 2 rfl) ?_
  refine am_aload_n (j := 0) (am_dk tk_law_8 3 rfl) rfl rfl ?_
  refine am_iload_n (j := 3) (am_dk tk_law_8 4 rfl) rfl rfl ?_
  refine am_iconst (v := 2) (am_dk tk_law_8 5 rfl) (by decide) ?_
  refine am_iadd (am_dk tk_law_8 6 rfl) ?_
  refine lw_sld (lw_ix 2 (by omega) (by omega) rfl) (am_dk tk_law_8 7 rfl) ?_
  refine ly_cV (M := m_X6_coins) (As := [.int (xs (nI (6 * k) + 1).toNatClampNeg), .int (xs (nI (6 * k) + 2).toNatClampNeg)]) (b := 56) (st := []) (ct_X6_coins e2) rfl (by decide) rfl ml_L_84 ld_X6_coins rfl ⟨Nat.le_of_ble_eq_true rfl, Nat.le_of_ble_eq_true rfl⟩ (Nat.le_of_ble_eq_true rfl) ⟨rfl, rfl⟩ ⟨by show c1 + 0 ≤ 600000; omega, by show c2 + 0 ≤ 7302250; omega⟩ (am_dk tk_law_8 8 rfl) (am_kki ?_)
  refine am_pop (am_dk tk_law_8 9 rfl) rfl ?_
  refine am_goto (tgt := 994) (am_dk tk_law_8 10 rfl) (by decide) ?_
  refine am_wid (cs' := (c1 + 2, c2 + 88200)) (by show c1 ≤ c1 + 2; omega) (by show c2 ≤ c2 + 88200; omega) ?_
  exact kk _ _ _ hI2
theorem lw_case_strike {l : Launch} {b L : Nat} {xs : Nat → Int32} {K : Nat} {Inv : Nat → Nat → Bool → am_M → Prop} (hOK : ok_strike K Inv) {k tw : Nat} {tp : Bool} {D : am_M} (hk : k < K) (hkL : 6 * k + 6 ≤ L) (hL : L ≤ 384) (hI : Inv k tw tp D) (htw : lyT tw) {c1 c2 : Nat} (h1 : c1 + 2 ≤ 600000) (h2 : c2 + 88200 ≤ 7302250) (kk : ∀ (tw : Nat) (tp : Bool) (D : am_M), Inv (k + 1) tw tp D → am_Ex (lw_E l b L xs) code (c1 + 2, c2 + 88200) 994 [(0, .ref 1000000), (1, .ref 0), (2, .ref 56), (3, .int (nI (6 * k)))] [] (ly tw tp D)) : am_Ex (lw_E l b L xs) code (c1, c2) 651 [(0, .ref 1000000), (1, .ref 0), (2, .ref 56), (3, .int (nI (6 * k)))] [] (ly tw tp D) := by
  obtain ⟨r, r', D1, D2, e1, e2, hI2⟩ := hOK k tw tp D hk hI (xs (nI (6 * k) + 1).toNatClampNeg)
  refine am_aload_n (j := 1) (am_dk tk_law_8 11 rfl) rfl rfl ?_
  refine am_aload_n (j := 0) (am_dk tk_law_8 12 rfl) rfl rfl ?_
  refine am_iload_n (j := 3) (am_dk tk_law_8 13 rfl) rfl rfl ?_
  refine am_iconst (v := 1) (am_dk tk_law_8 14 rfl) (by decide) ?_
  refine am_iadd (am_dk tk_law_8 15 rfl) ?_
  refine lw_sld (lw_ix 1 (by omega) (by omega) rfl) (am_dk tk_law_8 16 rfl) ?_
  refine ly_cV (M := m_X5_strike) (As := [.int (xs (nI (6 * k) + 1).toNatClampNeg)]) (b := 0) (st := []) (ct_X5_strike htw e1) rfl (by decide) rfl ml_L_85 ld_X5_strike rfl ⟨Nat.le_of_ble_eq_true rfl, Nat.le_of_ble_eq_true rfl⟩ (Nat.le_of_ble_eq_true rfl) ⟨rfl, rfl⟩ ⟨by show c1 + 0 ≤ 600000; omega, by show c2 + 0 ≤ 7302250; omega⟩ (am_dk tk_law_8 17 rfl) (am_kki ?_)
  refine am_pop (am_dk tk_law_8 18 rfl) rfl ?_
  refine am_aload_n (j := 2) (am_dk tk_law_8 19 rfl) rfl rfl ?_
  refine am_aload_n (j := 0) (am_dk tk_law_8 20 rfl) rfl rfl ?_
  refine am_iload_n (j := 3) (am_dk tk_law_8 21 rfl) rfl rfl ?_
  refine am_iconst (v := 1) (am_dk tk_law_8 22 rfl) (by decide) ?_
  refine am_iadd (am_dk tk_law_8 23 rfl) ?_
  refine lw_sld (lw_ix 1 (by omega) (by omega) rfl) (am_dk tk_law_8 24 rfl) ?_
  refine ly_cV (M := m_X6_strike) (As := [.int (xs (nI (6 * k) + 1).toNatClampNeg)]) (b := 56) (st := []) (ct_X6_strike e2) rfl (by decide) rfl ml_L_88 ld_X6_strike rfl ⟨Nat.le_of_ble_eq_true rfl, Nat.le_of_ble_eq_true rfl⟩ (Nat.le_of_ble_eq_true rfl) ⟨rfl, rfl⟩ ⟨by show c1 + 0 ≤ 600000; omega, by show c2 + 0 ≤ 7302250; omega⟩ (am_dk tk_law_8 25 rfl) (am_kki ?_)
  refine am_pop (am_dk tk_law_8 26 rfl) rfl ?_
  refine am_goto (tgt := 994) (am_dk tk_law_8 27 rfl) (by decide) ?_
  refine am_wid (cs' := (c1 + 2, c2 + 88200)) (by show c1 ≤ c1 + 2; omega) (by show c2 ≤ c2 + 88200; omega) ?_
  exact kk _ _ _ hI2
theorem lw_case_isFalse {l : Launch} {b L : Nat} {xs : Nat → Int32} {K : Nat} {Inv : Nat → Nat → Bool → am_M → Prop} (hOK : ok_isFalse K Inv) {k tw : Nat} {tp : Bool} {D : am_M} (hk : k < K) (hkL : 6 * k + 6 ≤ L) (hL : L ≤ 384) (hI : Inv k tw tp D) (htw : lyT tw) {c1 c2 : Nat} (h1 : c1 + 2 ≤ 600000) (h2 : c2 + 88200 ≤ 7302250) (kk : ∀ (tw : Nat) (tp : Bool) (D : am_M), Inv (k + 1) tw tp D → am_Ex (lw_E l b L xs) code (c1 + 2, c2 + 88200) 994 [(0, .ref 1000000), (1, .ref 0), (2, .ref 56), (3, .int (nI (6 * k)))] [] (ly tw tp D)) : am_Ex (lw_E l b L xs) code (c1, c2) 674 [(0, .ref 1000000), (1, .ref 0), (2, .ref 56), (3, .int (nI (6 * k)))] [] (ly tw tp D) := by
  obtain ⟨r, r', D1, D2, e1, e2, hI2⟩ := hOK k tw tp D hk hI (xs (nI (6 * k) + 1).toNatClampNeg) (xs (nI (6 * k) + 2).toNatClampNeg) (xs (nI (6 * k) + 3).toNatClampNeg) (xs (nI (6 * k) + 4).toNatClampNeg) (xs (nI (6 * k) + 5).toNatClampNeg)
  refine am_aload_n (j := 1) (am_dk tk_law_8 28 rfl) rfl rfl ?_
  refine am_aload_n (j := 0) (am_dk tk_law_8 29 rfl) rfl rfl ?_
  refine am_iload_n (j := 3) (am_dk tk_law_8 30 rfl) rfl rfl ?_
  refine am_iconst (v := 1) (am_dk tk_law_8 31 rfl) (by decide) ?_
  refine am_iadd (am_dk tk_law_8 32 rfl) ?_
  refine lw_sld (lw_ix 1 (by omega) (by omega) rfl) (am_dk tk_law_8 33 rfl) ?_
  refine am_aload_n (j := 0) (am_dk tk_law_8 34 rfl) rfl rfl ?_
  refine am_iload_n (j := 3) (am_dk tk_law_8 35 rfl) rfl rfl ?_
  refine am_iconst (v := 2) (am_dk tk_law_8 36 rfl) (by decide) ?_
  refine am_iadd (am_dk tk_law_8 37 rfl) ?_
  refine lw_sld (lw_ix 2 (by omega) (by omega) rfl) (am_dk tk_law_8 38 rfl) ?_
  refine am_aload_n (j := 0) (am_dk tk_law_8 39 rfl) rfl rfl ?_
  refine am_iload_n (j := 3) (am_dk tk_law_8 40 rfl) rfl rfl ?_
  refine am_iconst (v := 3) (am_dk tk_law_8 41 rfl) (by decide) ?_
  refine am_iadd (am_dk tk_law_8 42 rfl) ?_
  refine lw_sld (lw_ix 3 (by omega) (by omega) rfl) (am_dk tk_law_8 43 rfl) ?_
  refine am_aload_n (j := 0) (am_dk tk_law_8 44 rfl) rfl rfl ?_
  refine am_iload_n (j := 3) (am_dk tk_law_8 45 rfl) rfl rfl ?_
  refine am_iconst (v := 4) (am_dk tk_law_8 46 rfl) (by decide) ?_
  refine am_iadd (am_dk tk_law_8 47 rfl) ?_
  refine lw_sld (lw_ix 4 (by omega) (by omega) rfl) (am_dk tk_law_8 48 rfl) ?_
  refine am_aload_n (j := 0) (am_dk tk_law_8 49 rfl) rfl rfl ?_
  refine am_iload_n (j := 3) (am_dk tk_law_9 0 rfl) rfl rfl ?_
  refine am_iconst (v := 5) (am_dk tk_law_9 1 rfl) (by decide) ?_
  refine am_iadd (am_dk tk_law_9 2 rfl) ?_
  refine lw_sld (lw_ix 5 (by omega) (by omega) rfl) (am_dk tk_law_9 3 rfl) ?_
  refine ly_cV (M := m_X5_isFalse) (As := [.int (xs (nI (6 * k) + 1).toNatClampNeg), .int (xs (nI (6 * k) + 2).toNatClampNeg), .int (xs (nI (6 * k) + 3).toNatClampNeg), .int (xs (nI (6 * k) + 4).toNatClampNeg), .int (xs (nI (6 * k) + 5).toNatClampNeg)]) (b := 0) (st := []) (ct_X5_isFalse htw e1) rfl (by decide) rfl ml_L_89 ld_X5_isFalse rfl ⟨Nat.le_of_ble_eq_true rfl, Nat.le_of_ble_eq_true rfl⟩ (Nat.le_of_ble_eq_true rfl) ⟨rfl, rfl⟩ ⟨by show c1 + 0 ≤ 600000; omega, by show c2 + 0 ≤ 7302250; omega⟩ (am_dk tk_law_9 4 rfl) (am_kki ?_)
  refine am_pop (am_dk tk_law_9 5 rfl) rfl ?_
  refine am_aload_n (j := 2) (am_dk tk_law_9 6 rfl) rfl rfl ?_
  refine am_aload_n (j := 0) (am_dk tk_law_9 7 rfl) rfl rfl ?_
  refine am_iload_n (j := 3) (am_dk tk_law_9 8 rfl) rfl rfl ?_
  refine am_iconst (v := 1) (am_dk tk_law_9 9 rfl) (by decide) ?_
  refine am_iadd (am_dk tk_law_9 10 rfl) ?_
  refine lw_sld (lw_ix 1 (by omega) (by omega) rfl) (am_dk tk_law_9 11 rfl) ?_
  refine am_aload_n (j := 0) (am_dk tk_law_9 12 rfl) rfl rfl ?_
  refine am_iload_n (j := 3) (am_dk tk_law_9 13 rfl) rfl rfl ?_
  refine am_iconst (v := 2) (am_dk tk_law_9 14 rfl) (by decide) ?_
  refine am_iadd (am_dk tk_law_9 15 rfl) ?_
  refine lw_sld (lw_ix 2 (by omega) (by omega) rfl) (am_dk tk_law_9 16 rfl) ?_
  refine am_aload_n (j := 0) (am_dk tk_law_9 17 rfl) rfl rfl ?_
  refine am_iload_n (j := 3) (am_dk tk_law_9 18 rfl) rfl rfl ?_
  refine am_iconst (v := 3) (am_dk tk_law_9 19 rfl) (by decide) ?_
  refine am_iadd (am_dk tk_law_9 20 rfl) ?_
  refine lw_sld (lw_ix 3 (by omega) (by omega) rfl) (am_dk tk_law_9 21 rfl) ?_
  refine am_aload_n (j := 0) (am_dk tk_law_9 22 rfl) rfl rfl ?_
  refine am_iload_n (j := 3) (am_dk tk_law_9 23 rfl) rfl rfl ?_
  refine am_iconst (v := 4) (am_dk tk_law_9 24 rfl) (by decide) ?_
  refine am_iadd (am_dk tk_law_9 25 rfl) ?_
  refine lw_sld (lw_ix 4 (by omega) (by omega) rfl) (am_dk tk_law_9 26 rfl) ?_
  refine am_aload_n (j := 0) (am_dk tk_law_9 27 rfl) rfl rfl ?_
  refine am_iload_n (j := 3) (am_dk tk_law_9 28 rfl) rfl rfl ?_
  refine am_iconst (v := 5) (am_dk tk_law_9 29 rfl) (by decide) ?_
  refine am_iadd (am_dk tk_law_9 30 rfl) ?_
  refine lw_sld (lw_ix 5 (by omega) (by omega) rfl) (am_dk tk_law_9 31 rfl) ?_
  refine ly_cV (M := m_X6_isFalse) (As := [.int (xs (nI (6 * k) + 1).toNatClampNeg), .int (xs (nI (6 * k) + 2).toNatClampNeg), .int (xs (nI (6 * k) + 3).toNatClampNeg), .int (xs (nI (6 * k) + 4).toNatClampNeg), .int (xs (nI (6 * k) + 5).toNatClampNeg)]) (b := 56) (st := []) (ct_X6_isFalse e2) rfl (by decide) rfl ml_L_93 ld_X6_isFalse rfl ⟨Nat.le_of_ble_eq_true rfl, Nat.le_of_ble_eq_true rfl⟩ (Nat.le_of_ble_eq_true rfl) ⟨rfl, rfl⟩ ⟨by show c1 + 0 ≤ 600000; omega, by show c2 + 0 ≤ 7302250; omega⟩ (am_dk tk_law_9 32 rfl) (am_kki ?_)
  refine am_pop (am_dk tk_law_9 33 rfl) rfl ?_
  refine am_goto (tgt := 994) (am_dk tk_law_9 34 rfl) (by decide) ?_
  refine am_wid (cs' := (c1 + 2, c2 + 88200)) (by show c1 ≤ c1 + 2; omega) (by show c2 ≤ c2 + 88200; omega) ?_
  exact kk _ _ _ hI2
theorem lw_case_prices {l : Launch} {b L : Nat} {xs : Nat → Int32} {K : Nat} {Inv : Nat → Nat → Bool → am_M → Prop} (hOK : ok_prices K Inv) {k tw : Nat} {tp : Bool} {D : am_M} (hk : k < K) (hkL : 6 * k + 6 ≤ L) (hL : L ≤ 384) (hI : Inv k tw tp D) (htw : lyT tw) {c1 c2 : Nat} (h1 : c1 + 2 ≤ 600000) (h2 : c2 + 88200 ≤ 7302250) (kk : ∀ (tw : Nat) (tp : Bool) (D : am_M), Inv (k + 1) tw tp D → am_Ex (lw_E l b L xs) code (c1 + 2, c2 + 88200) 994 [(0, .ref 1000000), (1, .ref 0), (2, .ref 56), (3, .int (nI (6 * k)))] [] (ly tw tp D)) : am_Ex (lw_E l b L xs) code (c1, c2) 737 [(0, .ref 1000000), (1, .ref 0), (2, .ref 56), (3, .int (nI (6 * k)))] [] (ly tw tp D) := by
  obtain ⟨r, r', D1, D2, e1, e2, hI2⟩ := hOK k tw tp D hk hI (xs (nI (6 * k) + 1).toNatClampNeg) (xs (nI (6 * k) + 2).toNatClampNeg) (xs (nI (6 * k) + 3).toNatClampNeg) (xs (nI (6 * k) + 4).toNatClampNeg)
  refine am_aload_n (j := 1) (am_dk tk_law_9 35 rfl) rfl rfl ?_
  refine am_aload_n (j := 0) (am_dk tk_law_9 36 rfl) rfl rfl ?_
  refine am_iload_n (j := 3) (am_dk tk_law_9 37 rfl) rfl rfl ?_
  refine am_iconst (v := 1) (am_dk tk_law_9 38 rfl) (by decide) ?_
  refine am_iadd (am_dk tk_law_9 39 rfl) ?_
  refine lw_sld (lw_ix 1 (by omega) (by omega) rfl) (am_dk tk_law_9 40 rfl) ?_
  refine am_aload_n (j := 0) (am_dk tk_law_9 41 rfl) rfl rfl ?_
  refine am_iload_n (j := 3) (am_dk tk_law_9 42 rfl) rfl rfl ?_
  refine am_iconst (v := 2) (am_dk tk_law_9 43 rfl) (by decide) ?_
  refine am_iadd (am_dk tk_law_9 44 rfl) ?_
  refine lw_sld (lw_ix 2 (by omega) (by omega) rfl) (am_dk tk_law_9 45 rfl) ?_
  refine am_aload_n (j := 0) (am_dk tk_law_9 46 rfl) rfl rfl ?_
  refine am_iload_n (j := 3) (am_dk tk_law_9 47 rfl) rfl rfl ?_
  refine am_iconst (v := 3) (am_dk tk_law_9 48 rfl) (by decide) ?_
  refine am_iadd (am_dk tk_law_9 49 rfl) ?_
  refine lw_sld (lw_ix 3 (by omega) (by omega) rfl) (am_dk tk_law_10 0 rfl) ?_
  refine am_aload_n (j := 0) (am_dk tk_law_10 1 rfl) rfl rfl ?_
  refine am_iload_n (j := 3) (am_dk tk_law_10 2 rfl) rfl rfl ?_
  refine am_iconst (v := 4) (am_dk tk_law_10 3 rfl) (by decide) ?_
  refine am_iadd (am_dk tk_law_10 4 rfl) ?_
  refine lw_sld (lw_ix 4 (by omega) (by omega) rfl) (am_dk tk_law_10 5 rfl) ?_
  refine ly_cV (M := m_X5_prices) (As := [.int (xs (nI (6 * k) + 1).toNatClampNeg), .int (xs (nI (6 * k) + 2).toNatClampNeg), .int (xs (nI (6 * k) + 3).toNatClampNeg), .int (xs (nI (6 * k) + 4).toNatClampNeg)]) (b := 0) (st := []) (ct_X5_prices htw e1) rfl (by decide) rfl ml_L_94 ld_X5_prices rfl ⟨Nat.le_of_ble_eq_true rfl, Nat.le_of_ble_eq_true rfl⟩ (Nat.le_of_ble_eq_true rfl) ⟨rfl, rfl⟩ ⟨by show c1 + 0 ≤ 600000; omega, by show c2 + 0 ≤ 7302250; omega⟩ (am_dk tk_law_10 6 rfl) (am_kki ?_)
  refine am_pop (am_dk tk_law_10 7 rfl) rfl ?_
  refine am_aload_n (j := 2) (am_dk tk_law_10 8 rfl) rfl rfl ?_
  refine am_aload_n (j := 0) (am_dk tk_law_10 9 rfl) rfl rfl ?_
  refine am_iload_n (j := 3) (am_dk tk_law_10 10 rfl) rfl rfl ?_
  refine am_iconst (v := 1) (am_dk tk_law_10 11 rfl) (by decide) ?_
  refine am_iadd (am_dk tk_law_10 12 rfl) ?_
  refine lw_sld (lw_ix 1 (by omega) (by omega) rfl) (am_dk tk_law_10 13 rfl) ?_
  refine am_aload_n (j := 0) (am_dk tk_law_10 14 rfl) rfl rfl ?_
  refine am_iload_n (j := 3) (am_dk tk_law_10 15 rfl) rfl rfl ?_
  refine am_iconst (v := 2) (am_dk tk_law_10 16 rfl) (by decide) ?_
  refine am_iadd (am_dk tk_law_10 17 rfl) ?_
  refine lw_sld (lw_ix 2 (by omega) (by omega) rfl) (am_dk tk_law_10 18 rfl) ?_
  refine am_aload_n (j := 0) (am_dk tk_law_10 19 rfl) rfl rfl ?_
  refine am_iload_n (j := 3) (am_dk tk_law_10 20 rfl) rfl rfl ?_
  refine am_iconst (v := 3) (am_dk tk_law_10 21 rfl) (by decide) ?_
  refine am_iadd (am_dk tk_law_10 22 rfl) ?_
  refine lw_sld (lw_ix 3 (by omega) (by omega) rfl) (am_dk tk_law_10 23 rfl) ?_
  refine am_aload_n (j := 0) (am_dk tk_law_10 24 rfl) rfl rfl ?_
  refine am_iload_n (j := 3) (am_dk tk_law_10 25 rfl) rfl rfl ?_
  refine am_iconst (v := 4) (am_dk tk_law_10 26 rfl) (by decide) ?_
  refine am_iadd (am_dk tk_law_10 27 rfl) ?_
  refine lw_sld (lw_ix 4 (by omega) (by omega) rfl) (am_dk tk_law_10 28 rfl) ?_
  refine ly_cV (M := m_X6_prices) (As := [.int (xs (nI (6 * k) + 1).toNatClampNeg), .int (xs (nI (6 * k) + 2).toNatClampNeg), .int (xs (nI (6 * k) + 3).toNatClampNeg), .int (xs (nI (6 * k) + 4).toNatClampNeg)]) (b := 56) (st := []) (ct_X6_prices e2) rfl (by decide) rfl ml_L_98 ld_X6_prices rfl ⟨Nat.le_of_ble_eq_true rfl, Nat.le_of_ble_eq_true rfl⟩ (Nat.le_of_ble_eq_true rfl) ⟨rfl, rfl⟩ ⟨by show c1 + 0 ≤ 600000; omega, by show c2 + 0 ≤ 7302250; omega⟩ (am_dk tk_law_10 29 rfl) (am_kki ?_)
  refine am_pop (am_dk tk_law_10 30 rfl) rfl ?_
  refine am_goto (tgt := 994) (am_dk tk_law_10 31 rfl) (by decide) ?_
  refine am_wid (cs' := (c1 + 2, c2 + 88200)) (by show c1 ≤ c1 + 2; omega) (by show c2 ≤ c2 + 88200; omega) ?_
  exact kk _ _ _ hI2
theorem lw_case_robbed {l : Launch} {b L : Nat} {xs : Nat → Int32} {K : Nat} {Inv : Nat → Nat → Bool → am_M → Prop} (hOK : ok_robbed K Inv) {k tw : Nat} {tp : Bool} {D : am_M} (hk : k < K) (hkL : 6 * k + 6 ≤ L) (hL : L ≤ 384) (hI : Inv k tw tp D) (htw : lyT tw) {c1 c2 : Nat} (h1 : c1 + 2 ≤ 600000) (h2 : c2 + 88200 ≤ 7302250) (kk : ∀ (tw : Nat) (tp : Bool) (D : am_M), Inv (k + 1) tw tp D → am_Ex (lw_E l b L xs) code (c1 + 2, c2 + 88200) 994 [(0, .ref 1000000), (1, .ref 0), (2, .ref 56), (3, .int (nI (6 * k)))] [] (ly tw tp D)) : am_Ex (lw_E l b L xs) code (c1, c2) 790 [(0, .ref 1000000), (1, .ref 0), (2, .ref 56), (3, .int (nI (6 * k)))] [] (ly tw tp D) := by
  obtain ⟨r, r', D1, D2, e1, e2, hI2⟩ := hOK k tw tp D hk hI (xs (nI (6 * k) + 1).toNatClampNeg) (xs (nI (6 * k) + 2).toNatClampNeg) (xs (nI (6 * k) + 3).toNatClampNeg)
  refine am_aload_n (j := 1) (am_dk tk_law_10 32 rfl) rfl rfl ?_
  refine am_aload_n (j := 0) (am_dk tk_law_10 33 rfl) rfl rfl ?_
  refine am_iload_n (j := 3) (am_dk tk_law_10 34 rfl) rfl rfl ?_
  refine am_iconst (v := 1) (am_dk tk_law_10 35 rfl) (by decide) ?_
  refine am_iadd (am_dk tk_law_10 36 rfl) ?_
  refine lw_sld (lw_ix 1 (by omega) (by omega) rfl) (am_dk tk_law_10 37 rfl) ?_
  refine am_aload_n (j := 0) (am_dk tk_law_10 38 rfl) rfl rfl ?_
  refine am_iload_n (j := 3) (am_dk tk_law_10 39 rfl) rfl rfl ?_
  refine am_iconst (v := 2) (am_dk tk_law_10 40 rfl) (by decide) ?_
  refine am_iadd (am_dk tk_law_10 41 rfl) ?_
  refine lw_sld (lw_ix 2 (by omega) (by omega) rfl) (am_dk tk_law_10 42 rfl) ?_
  refine am_aload_n (j := 0) (am_dk tk_law_10 43 rfl) rfl rfl ?_
  refine am_iload_n (j := 3) (am_dk tk_law_10 44 rfl) rfl rfl ?_
  refine am_iconst (v := 3) (am_dk tk_law_10 45 rfl) (by decide) ?_
  refine am_iadd (am_dk tk_law_10 46 rfl) ?_
  refine lw_sld (lw_ix 3 (by omega) (by omega) rfl) (am_dk tk_law_10 47 rfl) ?_
  refine ly_cV (M := m_X5_robbed) (As := [.int (xs (nI (6 * k) + 1).toNatClampNeg), .int (xs (nI (6 * k) + 2).toNatClampNeg), .int (xs (nI (6 * k) + 3).toNatClampNeg)]) (b := 0) (st := []) (ct_X5_robbed htw e1) rfl (by decide) rfl ml_L_99 ld_X5_robbed rfl ⟨Nat.le_of_ble_eq_true rfl, Nat.le_of_ble_eq_true rfl⟩ (Nat.le_of_ble_eq_true rfl) ⟨rfl, rfl⟩ ⟨by show c1 + 0 ≤ 600000; omega, by show c2 + 0 ≤ 7302250; omega⟩ (am_dk tk_law_10 48 rfl) (am_kki ?_)
  refine am_pop (am_dk tk_law_10 49 rfl) rfl ?_
  refine am_aload_n (j := 2) (am_dk tk_law_11 0 rfl) rfl rfl ?_
  refine am_aload_n (j := 0) (am_dk tk_law_11 1 rfl) rfl rfl ?_
  refine am_iload_n (j := 3) (am_dk tk_law_11 2 rfl) rfl rfl ?_
  refine am_iconst (v := 1) (am_dk tk_law_11 3 rfl) (by decide) ?_
  refine am_iadd (am_dk tk_law_11 4 rfl) ?_
  refine lw_sld (lw_ix 1 (by omega) (by omega) rfl) (am_dk tk_law_11 5 rfl) ?_
  refine am_aload_n (j := 0) (am_dk tk_law_11 6 rfl) rfl rfl ?_
  refine am_iload_n (j := 3) (am_dk tk_law_11 7 rfl) rfl rfl ?_
  refine am_iconst (v := 2) (am_dk tk_law_11 8 rfl) (by decide) ?_
  refine am_iadd (am_dk tk_law_11 9 rfl) ?_
  refine lw_sld (lw_ix 2 (by omega) (by omega) rfl) (am_dk tk_law_11 10 rfl) ?_
  refine am_aload_n (j := 0) (am_dk tk_law_11 11 rfl) rfl rfl ?_
  refine am_iload_n (j := 3) (am_dk tk_law_11 12 rfl) rfl rfl ?_
  refine am_iconst (v := 3) (am_dk tk_law_11 13 rfl) (by decide) ?_
  refine am_iadd (am_dk tk_law_11 14 rfl) ?_
  refine lw_sld (lw_ix 3 (by omega) (by omega) rfl) (am_dk tk_law_11 15 rfl) ?_
  refine ly_cV (M := m_X6_robbed) (As := [.int (xs (nI (6 * k) + 1).toNatClampNeg), .int (xs (nI (6 * k) + 2).toNatClampNeg), .int (xs (nI (6 * k) + 3).toNatClampNeg)]) (b := 56) (st := []) (ct_X6_robbed e2) rfl (by decide) rfl ml_L_102 ld_X6_robbed rfl ⟨Nat.le_of_ble_eq_true rfl, Nat.le_of_ble_eq_true rfl⟩ (Nat.le_of_ble_eq_true rfl) ⟨rfl, rfl⟩ ⟨by show c1 + 0 ≤ 600000; omega, by show c2 + 0 ≤ 7302250; omega⟩ (am_dk tk_law_11 16 rfl) (am_kki ?_)
  refine am_pop (am_dk tk_law_11 17 rfl) rfl ?_
  refine am_goto (tgt := 994) (am_dk tk_law_11 18 rfl) (by decide) ?_
  refine am_wid (cs' := (c1 + 2, c2 + 88200)) (by show c1 ≤ c1 + 2; omega) (by show c2 ≤ c2 + 88200; omega) ?_
  exact kk _ _ _ hI2
theorem lw_case_run {l : Launch} {b L : Nat} {xs : Nat → Int32} {K : Nat} {Inv : Nat → Nat → Bool → am_M → Prop} (hOK : ok_run K Inv) {k tw : Nat} {tp : Bool} {D : am_M} (hk : k < K) (hkL : 6 * k + 6 ≤ L) (hL : L ≤ 384) (hI : Inv k tw tp D) (htw : lyT tw) {c1 c2 : Nat} (h1 : c1 + 2 ≤ 600000) (h2 : c2 + 88200 ≤ 7302250) (kk : ∀ (tw : Nat) (tp : Bool) (D : am_M), Inv (k + 1) tw tp D → am_Ex (lw_E l b L xs) code (c1 + 2, c2 + 88200) 994 [(0, .ref 1000000), (1, .ref 0), (2, .ref 56), (3, .int (nI (6 * k)))] [] (ly tw tp D)) : am_Ex (lw_E l b L xs) code (c1, c2) 833 [(0, .ref 1000000), (1, .ref 0), (2, .ref 56), (3, .int (nI (6 * k)))] [] (ly tw tp D) := by
  obtain ⟨r, r', D1, D2, e1, e2, hI2⟩ := hOK k tw tp D hk hI (xs (nI (6 * k) + 1).toNatClampNeg) (xs (nI (6 * k) + 2).toNatClampNeg)
  refine am_aload_n (j := 1) (am_dk tk_law_11 19 rfl) rfl rfl ?_
  refine am_aload_n (j := 0) (am_dk tk_law_11 20 rfl) rfl rfl ?_
  refine am_iload_n (j := 3) (am_dk tk_law_11 21 rfl) rfl rfl ?_
  refine am_iconst (v := 1) (am_dk tk_law_11 22 rfl) (by decide) ?_
  refine am_iadd (am_dk tk_law_11 23 rfl) ?_
  refine lw_sld (lw_ix 1 (by omega) (by omega) rfl) (am_dk tk_law_11 24 rfl) ?_
  refine am_aload_n (j := 0) (am_dk tk_law_11 25 rfl) rfl rfl ?_
  refine am_iload_n (j := 3) (am_dk tk_law_11 26 rfl) rfl rfl ?_
  refine am_iconst (v := 2) (am_dk tk_law_11 27 rfl) (by decide) ?_
  refine am_iadd (am_dk tk_law_11 28 rfl) ?_
  refine lw_sld (lw_ix 2 (by omega) (by omega) rfl) (am_dk tk_law_11 29 rfl) ?_
  refine ly_cV (M := m_X5_run) (As := [.int (xs (nI (6 * k) + 1).toNatClampNeg), .int (xs (nI (6 * k) + 2).toNatClampNeg)]) (b := 0) (st := []) (ct_X5_run htw e1) rfl (by decide) rfl ml_L_103 ld_X5_run rfl ⟨Nat.le_of_ble_eq_true rfl, Nat.le_of_ble_eq_true rfl⟩ (Nat.le_of_ble_eq_true rfl) ⟨rfl, rfl⟩ ⟨by show c1 + 0 ≤ 600000; omega, by show c2 + 0 ≤ 7302250; omega⟩ (am_dk tk_law_11 30 rfl) (am_kki ?_)
  refine am_pop (am_dk tk_law_11 31 rfl) rfl ?_
  refine am_aload_n (j := 2) (am_dk tk_law_11 32 rfl) rfl rfl ?_
  refine am_aload_n (j := 0) (am_dk tk_law_11 33 rfl) rfl rfl ?_
  refine am_iload_n (j := 3) (am_dk tk_law_11 34 rfl) rfl rfl ?_
  refine am_iconst (v := 1) (am_dk tk_law_11 35 rfl) (by decide) ?_
  refine am_iadd (am_dk tk_law_11 36 rfl) ?_
  refine lw_sld (lw_ix 1 (by omega) (by omega) rfl) (am_dk tk_law_11 37 rfl) ?_
  refine am_aload_n (j := 0) (am_dk tk_law_11 38 rfl) rfl rfl ?_
  refine am_iload_n (j := 3) (am_dk tk_law_11 39 rfl) rfl rfl ?_
  refine am_iconst (v := 2) (am_dk tk_law_11 40 rfl) (by decide) ?_
  refine am_iadd (am_dk tk_law_11 41 rfl) ?_
  refine lw_sld (lw_ix 2 (by omega) (by omega) rfl) (am_dk tk_law_11 42 rfl) ?_
  refine ly_cV (M := m_X6_run) (As := [.int (xs (nI (6 * k) + 1).toNatClampNeg), .int (xs (nI (6 * k) + 2).toNatClampNeg)]) (b := 56) (st := []) (ct_X6_run e2) rfl (by decide) rfl ml_L_106 ld_X6_run rfl ⟨Nat.le_of_ble_eq_true rfl, Nat.le_of_ble_eq_true rfl⟩ (Nat.le_of_ble_eq_true rfl) ⟨rfl, rfl⟩ ⟨by show c1 + 0 ≤ 600000; omega, by show c2 + 0 ≤ 7302250; omega⟩ (am_dk tk_law_11 43 rfl) (am_kki ?_)
  refine am_pop (am_dk tk_law_11 44 rfl) rfl ?_
  refine am_goto (tgt := 994) (am_dk tk_law_11 45 rfl) (by decide) ?_
  refine am_wid (cs' := (c1 + 2, c2 + 88200)) (by show c1 ≤ c1 + 2; omega) (by show c2 ≤ c2 + 88200; omega) ?_
  exact kk _ _ _ hI2
theorem lw_case_write {l : Launch} {b L : Nat} {xs : Nat → Int32} {K : Nat} {Inv : Nat → Nat → Bool → am_M → Prop} (hOK : ok_write K Inv) {k tw : Nat} {tp : Bool} {D : am_M} (hk : k < K) (hkL : 6 * k + 6 ≤ L) (hL : L ≤ 384) (hI : Inv k tw tp D) (htw : lyT tw) {c1 c2 : Nat} (h1 : c1 + 2 ≤ 600000) (h2 : c2 + 88200 ≤ 7302250) (kk : ∀ (tw : Nat) (tp : Bool) (D : am_M), Inv (k + 1) tw tp D → am_Ex (lw_E l b L xs) code (c1 + 2, c2 + 88200) 994 [(0, .ref 1000000), (1, .ref 0), (2, .ref 56), (3, .int (nI (6 * k)))] [] (ly tw tp D)) : am_Ex (lw_E l b L xs) code (c1, c2) 866 [(0, .ref 1000000), (1, .ref 0), (2, .ref 56), (3, .int (nI (6 * k)))] [] (ly tw tp D) := by
  obtain ⟨r, r', D1, D2, e1, e2, hI2⟩ := hOK k tw tp D hk hI (xs (nI (6 * k) + 1).toNatClampNeg) (xs (nI (6 * k) + 2).toNatClampNeg)
  refine am_aload_n (j := 1) (am_dk tk_law_11 46 rfl) rfl rfl ?_
  refine am_aload_n (j := 0) (am_dk tk_law_11 47 rfl) rfl rfl ?_
  refine am_iload_n (j := 3) (am_dk tk_law_11 48 rfl) rfl rfl ?_
  refine am_iconst (v := 1) (am_dk tk_law_11 49 rfl) (by decide) ?_
  refine am_iadd (am_dk tk_law_12 0 rfl) ?_
  refine lw_sld (lw_ix 1 (by omega) (by omega) rfl) (am_dk tk_law_12 1 rfl) ?_
  refine am_aload_n (j := 0) (am_dk tk_law_12 2 rfl) rfl rfl ?_
  refine am_iload_n (j := 3) (am_dk tk_law_12 3 rfl) rfl rfl ?_
  refine am_iconst (v := 2) (am_dk tk_law_12 4 rfl) (by decide) ?_
  refine am_iadd (am_dk tk_law_12 5 rfl) ?_
  refine lw_sld (lw_ix 2 (by omega) (by omega) rfl) (am_dk tk_law_12 6 rfl) ?_
  refine ly_cV (M := m_X5_write) (As := [.int (xs (nI (6 * k) + 1).toNatClampNeg), .int (xs (nI (6 * k) + 2).toNatClampNeg)]) (b := 0) (st := []) (ct_X5_write htw e1) rfl (by decide) rfl ml_L_107 ld_X5_write rfl ⟨Nat.le_of_ble_eq_true rfl, Nat.le_of_ble_eq_true rfl⟩ (Nat.le_of_ble_eq_true rfl) ⟨rfl, rfl⟩ ⟨by show c1 + 0 ≤ 600000; omega, by show c2 + 0 ≤ 7302250; omega⟩ (am_dk tk_law_12 7 rfl) (am_kki ?_)
  refine am_pop (am_dk tk_law_12 8 rfl) rfl ?_
  refine am_aload_n (j := 2) (am_dk tk_law_12 9 rfl) rfl rfl ?_
  refine am_aload_n (j := 0) (am_dk tk_law_12 10 rfl) rfl rfl ?_
  refine am_iload_n (j := 3) (am_dk tk_law_12 11 rfl) rfl rfl ?_
  refine am_iconst (v := 1) (am_dk tk_law_12 12 rfl) (by decide) ?_
  refine am_iadd (am_dk tk_law_12 13 rfl) ?_
  refine lw_sld (lw_ix 1 (by omega) (by omega) rfl) (am_dk tk_law_12 14 rfl) ?_
  refine am_aload_n (j := 0) (am_dk tk_law_12 15 rfl) rfl rfl ?_
  refine am_iload_n (j := 3) (am_dk tk_law_12 16 rfl) rfl rfl ?_
  refine am_iconst (v := 2) (am_dk tk_law_12 17 rfl) (by decide) ?_
  refine am_iadd (am_dk tk_law_12 18 rfl) ?_
  refine lw_sld (lw_ix 2 (by omega) (by omega) rfl) (am_dk tk_law_12 19 rfl) ?_
  refine ly_cV (M := m_X6_write) (As := [.int (xs (nI (6 * k) + 1).toNatClampNeg), .int (xs (nI (6 * k) + 2).toNatClampNeg)]) (b := 56) (st := []) (ct_X6_write e2) rfl (by decide) rfl ml_L_110 ld_X6_write rfl ⟨Nat.le_of_ble_eq_true rfl, Nat.le_of_ble_eq_true rfl⟩ (Nat.le_of_ble_eq_true rfl) ⟨rfl, rfl⟩ ⟨by show c1 + 0 ≤ 600000; omega, by show c2 + 0 ≤ 7302250; omega⟩ (am_dk tk_law_12 20 rfl) (am_kki ?_)
  refine am_pop (am_dk tk_law_12 21 rfl) rfl ?_
  refine am_goto (tgt := 994) (am_dk tk_law_12 22 rfl) (by decide) ?_
  refine am_wid (cs' := (c1 + 2, c2 + 88200)) (by show c1 ≤ c1 + 2; omega) (by show c2 ≤ c2 + 88200; omega) ?_
  exact kk _ _ _ hI2
theorem lw_case_tear {l : Launch} {b L : Nat} {xs : Nat → Int32} {K : Nat} {Inv : Nat → Nat → Bool → am_M → Prop} (hOK : ok_tear K Inv) {k tw : Nat} {tp : Bool} {D : am_M} (hk : k < K) (hkL : 6 * k + 6 ≤ L) (hL : L ≤ 384) (hI : Inv k tw tp D) (htw : lyT tw) {c1 c2 : Nat} (h1 : c1 + 2 ≤ 600000) (h2 : c2 + 88200 ≤ 7302250) (kk : ∀ (tw : Nat) (tp : Bool) (D : am_M), Inv (k + 1) tw tp D → am_Ex (lw_E l b L xs) code (c1 + 2, c2 + 88200) 994 [(0, .ref 1000000), (1, .ref 0), (2, .ref 56), (3, .int (nI (6 * k)))] [] (ly tw tp D)) : am_Ex (lw_E l b L xs) code (c1, c2) 899 [(0, .ref 1000000), (1, .ref 0), (2, .ref 56), (3, .int (nI (6 * k)))] [] (ly tw tp D) := by
  obtain ⟨r, r', D1, D2, e1, e2, hI2⟩ := hOK k tw tp D hk hI 
  refine am_aload_n (j := 1) (am_dk tk_law_12 23 rfl) rfl rfl ?_
  refine ly_cV (M := m_X5_tear) (As := []) (b := 0) (st := []) (ct_X5_tear htw e1) rfl (by decide) rfl ml_L_111 ld_X5_tear rfl ⟨Nat.le_of_ble_eq_true rfl, Nat.le_of_ble_eq_true rfl⟩ (Nat.le_of_ble_eq_true rfl) ⟨rfl, rfl⟩ ⟨by show c1 + 0 ≤ 600000; omega, by show c2 + 0 ≤ 7302250; omega⟩ (am_dk tk_law_12 24 rfl) (am_kki ?_)
  refine am_pop (am_dk tk_law_12 25 rfl) rfl ?_
  refine am_aload_n (j := 2) (am_dk tk_law_12 26 rfl) rfl rfl ?_
  refine ly_cV (M := m_X6_tear) (As := []) (b := 56) (st := []) (ct_X6_tear e2) rfl (by decide) rfl ml_L_114 ld_X6_tear rfl ⟨Nat.le_of_ble_eq_true rfl, Nat.le_of_ble_eq_true rfl⟩ (Nat.le_of_ble_eq_true rfl) ⟨rfl, rfl⟩ ⟨by show c1 + 0 ≤ 600000; omega, by show c2 + 0 ≤ 7302250; omega⟩ (am_dk tk_law_12 27 rfl) (am_kki ?_)
  refine am_pop (am_dk tk_law_12 28 rfl) rfl ?_
  refine am_goto (tgt := 994) (am_dk tk_law_12 29 rfl) (by decide) ?_
  refine am_wid (cs' := (c1 + 2, c2 + 88200)) (by show c1 ≤ c1 + 2; omega) (by show c2 ≤ c2 + 88200; omega) ?_
  exact kk _ _ _ hI2
theorem lw_case_judge {l : Launch} {b L : Nat} {xs : Nat → Int32} {K : Nat} {Inv : Nat → Nat → Bool → am_M → Prop} (hOK : ok_judge K Inv) {k tw : Nat} {tp : Bool} {D : am_M} (hk : k < K) (hkL : 6 * k + 6 ≤ L) (hL : L ≤ 384) (hI : Inv k tw tp D) (htw : lyT tw) {c1 c2 : Nat} (h1 : c1 + 2 ≤ 600000) (h2 : c2 + 88200 ≤ 7302250) (kk : ∀ (tw : Nat) (tp : Bool) (D : am_M), Inv (k + 1) tw tp D → am_Ex (lw_E l b L xs) code (c1 + 2, c2 + 88200) 994 [(0, .ref 1000000), (1, .ref 0), (2, .ref 56), (3, .int (nI (6 * k)))] [] (ly tw tp D)) : am_Ex (lw_E l b L xs) code (c1, c2) 912 [(0, .ref 1000000), (1, .ref 0), (2, .ref 56), (3, .int (nI (6 * k)))] [] (ly tw tp D) := by
  obtain ⟨r, r', D1, D2, e1, e2, hI2⟩ := hOK k tw tp D hk hI 
  refine am_aload_n (j := 1) (am_dk tk_law_12 30 rfl) rfl rfl ?_
  refine ly_cV (M := m_X5_judge) (As := []) (b := 0) (st := []) (ct_X5_judge htw e1) rfl (by decide) rfl ml_L_115 ld_X5_judge rfl ⟨Nat.le_of_ble_eq_true rfl, Nat.le_of_ble_eq_true rfl⟩ (Nat.le_of_ble_eq_true rfl) ⟨rfl, rfl⟩ ⟨by show c1 + 0 ≤ 600000; omega, by show c2 + 0 ≤ 7302250; omega⟩ (am_dk tk_law_12 31 rfl) (am_kki ?_)
  refine am_pop (am_dk tk_law_12 32 rfl) rfl ?_
  refine am_aload_n (j := 2) (am_dk tk_law_12 33 rfl) rfl rfl ?_
  refine ly_cV (M := m_X6_judge) (As := []) (b := 56) (st := []) (ct_X6_judge e2) rfl (by decide) rfl ml_L_118 ld_X6_judge rfl ⟨Nat.le_of_ble_eq_true rfl, Nat.le_of_ble_eq_true rfl⟩ (Nat.le_of_ble_eq_true rfl) ⟨rfl, rfl⟩ ⟨by show c1 + 0 ≤ 600000; omega, by show c2 + 0 ≤ 7302250; omega⟩ (am_dk tk_law_12 34 rfl) (am_kki ?_)
  refine am_pop (am_dk tk_law_12 35 rfl) rfl ?_
  refine am_goto (tgt := 994) (am_dk tk_law_12 36 rfl) (by decide) ?_
  refine am_wid (cs' := (c1 + 2, c2 + 88200)) (by show c1 ≤ c1 + 2; omega) (by show c2 ≤ c2 + 88200; omega) ?_
  exact kk _ _ _ hI2
theorem lw_case_seed {l : Launch} {b L : Nat} {xs : Nat → Int32} {K : Nat} {Inv : Nat → Nat → Bool → am_M → Prop} (hOK : ok_seed K Inv) {k tw : Nat} {tp : Bool} {D : am_M} (hk : k < K) (hkL : 6 * k + 6 ≤ L) (hL : L ≤ 384) (hI : Inv k tw tp D) (htw : lyT tw) {c1 c2 : Nat} (h1 : c1 + 2 ≤ 600000) (h2 : c2 + 88200 ≤ 7302250) (kk : ∀ (tw : Nat) (tp : Bool) (D : am_M), Inv (k + 1) tw tp D → am_Ex (lw_E l b L xs) code (c1 + 2, c2 + 88200) 994 [(0, .ref 1000000), (1, .ref 0), (2, .ref 56), (3, .int (nI (6 * k)))] [] (ly tw tp D)) : am_Ex (lw_E l b L xs) code (c1, c2) 925 [(0, .ref 1000000), (1, .ref 0), (2, .ref 56), (3, .int (nI (6 * k)))] [] (ly tw tp D) := by
  obtain ⟨r, r', D1, D2, e1, e2, hI2⟩ := hOK k tw tp D hk hI (xs (nI (6 * k) + 1).toNatClampNeg)
  refine am_aload_n (j := 1) (am_dk tk_law_12 37 rfl) rfl rfl ?_
  refine am_aload_n (j := 0) (am_dk tk_law_12 38 rfl) rfl rfl ?_
  refine am_iload_n (j := 3) (am_dk tk_law_12 39 rfl) rfl rfl ?_
  refine am_iconst (v := 1) (am_dk tk_law_12 40 rfl) (by decide) ?_
  refine am_iadd (am_dk tk_law_12 41 rfl) ?_
  refine lw_sld (lw_ix 1 (by omega) (by omega) rfl) (am_dk tk_law_12 42 rfl) ?_
  refine ly_cV (M := m_X5_seed) (As := [.int (xs (nI (6 * k) + 1).toNatClampNeg)]) (b := 0) (st := []) (ct_X5_seed htw e1) rfl (by decide) rfl ml_L_119 ld_X5_seed rfl ⟨Nat.le_of_ble_eq_true rfl, Nat.le_of_ble_eq_true rfl⟩ (Nat.le_of_ble_eq_true rfl) ⟨rfl, rfl⟩ ⟨by show c1 + 0 ≤ 600000; omega, by show c2 + 0 ≤ 7302250; omega⟩ (am_dk tk_law_12 43 rfl) (am_kki ?_)
  refine am_pop (am_dk tk_law_12 44 rfl) rfl ?_
  refine am_aload_n (j := 2) (am_dk tk_law_12 45 rfl) rfl rfl ?_
  refine am_aload_n (j := 0) (am_dk tk_law_12 46 rfl) rfl rfl ?_
  refine am_iload_n (j := 3) (am_dk tk_law_12 47 rfl) rfl rfl ?_
  refine am_iconst (v := 1) (am_dk tk_law_12 48 rfl) (by decide) ?_
  refine am_iadd (am_dk tk_law_12 49 rfl) ?_
  refine lw_sld (lw_ix 1 (by omega) (by omega) rfl) (am_dk tk_law_13 0 rfl) ?_
  refine ly_cV (M := m_X6_seed) (As := [.int (xs (nI (6 * k) + 1).toNatClampNeg)]) (b := 56) (st := []) (ct_X6_seed e2) rfl (by decide) rfl ml_L_122 ld_X6_seed rfl ⟨Nat.le_of_ble_eq_true rfl, Nat.le_of_ble_eq_true rfl⟩ (Nat.le_of_ble_eq_true rfl) ⟨rfl, rfl⟩ ⟨by show c1 + 0 ≤ 600000; omega, by show c2 + 0 ≤ 7302250; omega⟩ (am_dk tk_law_13 1 rfl) (am_kki ?_)
  refine am_pop (am_dk tk_law_13 2 rfl) rfl ?_
  refine am_goto (tgt := 994) (am_dk tk_law_13 3 rfl) (by decide) ?_
  refine am_wid (cs' := (c1 + 2, c2 + 88200)) (by show c1 ≤ c1 + 2; omega) (by show c2 ≤ c2 + 88200; omega) ?_
  exact kk _ _ _ hI2
theorem lw_case_keep {l : Launch} {b L : Nat} {xs : Nat → Int32} {K : Nat} {Inv : Nat → Nat → Bool → am_M → Prop} (hOK : ok_keep K Inv) {k tw : Nat} {tp : Bool} {D : am_M} (hk : k < K) (hkL : 6 * k + 6 ≤ L) (hL : L ≤ 384) (hI : Inv k tw tp D) (htw : lyT tw) {c1 c2 : Nat} (h1 : c1 + 2 ≤ 600000) (h2 : c2 + 88200 ≤ 7302250) (kk : ∀ (tw : Nat) (tp : Bool) (D : am_M), Inv (k + 1) tw tp D → am_Ex (lw_E l b L xs) code (c1 + 2, c2 + 88200) 994 [(0, .ref 1000000), (1, .ref 0), (2, .ref 56), (3, .int (nI (6 * k)))] [] (ly tw tp D)) : am_Ex (lw_E l b L xs) code (c1, c2) 948 [(0, .ref 1000000), (1, .ref 0), (2, .ref 56), (3, .int (nI (6 * k)))] [] (ly tw tp D) := by
  obtain ⟨r, r', D1, D2, e1, e2, hI2⟩ := hOK k tw tp D hk hI (xs (nI (6 * k) + 1).toNatClampNeg)
  refine am_aload_n (j := 1) (am_dk tk_law_13 4 rfl) rfl rfl ?_
  refine am_aload_n (j := 0) (am_dk tk_law_13 5 rfl) rfl rfl ?_
  refine am_iload_n (j := 3) (am_dk tk_law_13 6 rfl) rfl rfl ?_
  refine am_iconst (v := 1) (am_dk tk_law_13 7 rfl) (by decide) ?_
  refine am_iadd (am_dk tk_law_13 8 rfl) ?_
  refine lw_sld (lw_ix 1 (by omega) (by omega) rfl) (am_dk tk_law_13 9 rfl) ?_
  refine ly_cV (M := m_X5_keep) (As := [.int (xs (nI (6 * k) + 1).toNatClampNeg)]) (b := 0) (st := []) (ct_X5_keep htw e1) rfl (by decide) rfl ml_L_123 ld_X5_keep rfl ⟨Nat.le_of_ble_eq_true rfl, Nat.le_of_ble_eq_true rfl⟩ (Nat.le_of_ble_eq_true rfl) ⟨rfl, rfl⟩ ⟨by show c1 + 0 ≤ 600000; omega, by show c2 + 0 ≤ 7302250; omega⟩ (am_dk tk_law_13 10 rfl) (am_kki ?_)
  refine am_pop (am_dk tk_law_13 11 rfl) rfl ?_
  refine am_aload_n (j := 2) (am_dk tk_law_13 12 rfl) rfl rfl ?_
  refine am_aload_n (j := 0) (am_dk tk_law_13 13 rfl) rfl rfl ?_
  refine am_iload_n (j := 3) (am_dk tk_law_13 14 rfl) rfl rfl ?_
  refine am_iconst (v := 1) (am_dk tk_law_13 15 rfl) (by decide) ?_
  refine am_iadd (am_dk tk_law_13 16 rfl) ?_
  refine lw_sld (lw_ix 1 (by omega) (by omega) rfl) (am_dk tk_law_13 17 rfl) ?_
  refine ly_cV (M := m_X6_keep) (As := [.int (xs (nI (6 * k) + 1).toNatClampNeg)]) (b := 56) (st := []) (ct_X6_keep e2) rfl (by decide) rfl ml_L_126 ld_X6_keep rfl ⟨Nat.le_of_ble_eq_true rfl, Nat.le_of_ble_eq_true rfl⟩ (Nat.le_of_ble_eq_true rfl) ⟨rfl, rfl⟩ ⟨by show c1 + 0 ≤ 600000; omega, by show c2 + 0 ≤ 7302250; omega⟩ (am_dk tk_law_13 18 rfl) (am_kki ?_)
  refine am_pop (am_dk tk_law_13 19 rfl) rfl ?_
  refine am_goto (tgt := 994) (am_dk tk_law_13 20 rfl) (by decide) ?_
  refine am_wid (cs' := (c1 + 2, c2 + 88200)) (by show c1 ≤ c1 + 2; omega) (by show c2 ≤ c2 + 88200; omega) ?_
  exact kk _ _ _ hI2
theorem lw_case_goBack {l : Launch} {b L : Nat} {xs : Nat → Int32} {K : Nat} {Inv : Nat → Nat → Bool → am_M → Prop} (hOK : ok_goBack K Inv) {k tw : Nat} {tp : Bool} {D : am_M} (hk : k < K) (hkL : 6 * k + 6 ≤ L) (hL : L ≤ 384) (hI : Inv k tw tp D) (htw : lyT tw) {c1 c2 : Nat} (h1 : c1 + 2 ≤ 600000) (h2 : c2 + 88200 ≤ 7302250) (kk : ∀ (tw : Nat) (tp : Bool) (D : am_M), Inv (k + 1) tw tp D → am_Ex (lw_E l b L xs) code (c1 + 2, c2 + 88200) 994 [(0, .ref 1000000), (1, .ref 0), (2, .ref 56), (3, .int (nI (6 * k)))] [] (ly tw tp D)) : am_Ex (lw_E l b L xs) code (c1, c2) 971 [(0, .ref 1000000), (1, .ref 0), (2, .ref 56), (3, .int (nI (6 * k)))] [] (ly tw tp D) := by
  obtain ⟨r, D1, D2, e1, e2, hI2⟩ := hOK k tw tp D hk hI (xs (nI (6 * k) + 1).toNatClampNeg)
  refine am_aload_n (j := 1) (am_dk tk_law_13 21 rfl) rfl rfl ?_
  refine am_aload_n (j := 0) (am_dk tk_law_13 22 rfl) rfl rfl ?_
  refine am_iload_n (j := 3) (am_dk tk_law_13 23 rfl) rfl rfl ?_
  refine am_iconst (v := 1) (am_dk tk_law_13 24 rfl) (by decide) ?_
  refine am_iadd (am_dk tk_law_13 25 rfl) ?_
  refine lw_sld (lw_ix 1 (by omega) (by omega) rfl) (am_dk tk_law_13 26 rfl) ?_
  refine ly_cV (M := m_X5_goBack) (As := [.int (xs (nI (6 * k) + 1).toNatClampNeg)]) (b := 0) (st := []) (ct_X5_goBack htw e1) rfl (by decide) rfl ml_L_127 ld_X5_goBack rfl ⟨Nat.le_of_ble_eq_true rfl, Nat.le_of_ble_eq_true rfl⟩ (Nat.le_of_ble_eq_true rfl) ⟨rfl, rfl⟩ ⟨by show c1 + 0 ≤ 600000; omega, by show c2 + 0 ≤ 7302250; omega⟩ (am_dk tk_law_13 27 rfl) (am_kki ?_)
  refine am_aload_n (j := 2) (am_dk tk_law_13 28 rfl) rfl rfl ?_
  refine am_aload_n (j := 0) (am_dk tk_law_13 29 rfl) rfl rfl ?_
  refine am_iload_n (j := 3) (am_dk tk_law_13 30 rfl) rfl rfl ?_
  refine am_iconst (v := 1) (am_dk tk_law_13 31 rfl) (by decide) ?_
  refine am_iadd (am_dk tk_law_13 32 rfl) ?_
  refine lw_sld (lw_ix 1 (by omega) (by omega) rfl) (am_dk tk_law_13 33 rfl) ?_
  refine ly_cV (M := m_X6_goBack) (As := [.int (xs (nI (6 * k) + 1).toNatClampNeg)]) (b := 56) (st := [.int r]) (ct_X6_goBack e2) rfl (by decide) rfl ml_L_130 ld_X6_goBack rfl ⟨Nat.le_of_ble_eq_true rfl, Nat.le_of_ble_eq_true rfl⟩ (Nat.le_of_ble_eq_true rfl) ⟨rfl, rfl⟩ ⟨by show c1 + 0 ≤ 600000; omega, by show c2 + 0 ≤ 7302250; omega⟩ (am_dk tk_law_13 34 rfl) (am_kki ?_)
  refine am_icmp_eq (tgt := 994) (am_dk tk_law_13 35 rfl) (by decide) (fun _ => ?_) (fun hc => absurd rfl hc)
  refine am_wid (cs' := (c1 + 2, c2 + 88200)) (by show c1 ≤ c1 + 2; omega) (by show c2 ≤ c2 + 88200; omega) ?_
  exact kk _ _ _ hI2
theorem lw_next (k : Nat) : nI (6 * k) + Int32.ofInt 6 = nI (6 * (k + 1)) := by
  rw [show Int32.ofInt 6 = nI 6 from by decide, nI_add, Nat.mul_add]
theorem lw_more {k L : Nat} (h1 : 6 * k ≤ L) (hL : L < 1000) (hc : ¬ (Int32.ofNat L - 6 < nI (6 * k))) : 6 * k + 6 ≤ L := by
  rcases Nat.lt_or_ge L 6 with h | h
  · exfalso
    apply hc
    refine Int32.lt_of_lt_of_le (b := 0) ?_ (nI_pos' (by omega))
    exact pk_sneg (a := L) (b := 6) (by decide) h
  · have e1 : Int32.ofNat L - 6 = nI (L - 6) := pk_sub h
    rw [e1] at hc
    have := (nI_leI (a := 6 * k) (b := L - 6) (by omega) (by omega)).mp (Int32.not_lt.mp hc)
    omega
theorem lw_loop {l : Launch} {b L : Nat} {xs : Nat → Int32} {K : Nat} {Inv : Nat → Nat → Bool → am_M → Prop} (hKN : K = 64) (hL : L ≤ 384) (hT : ∀ k tw tp D, Inv k tw tp D → lyT tw) (h_feed : ok_feed K Inv) (h_capital : ok_capital K Inv) (h_fault : ok_fault K Inv) (h_told : ok_told K Inv) (h_person : ok_person K Inv) (h_row : ok_row K Inv) (h_coin : ok_coin K Inv) (h_debt : ok_debt K Inv) (h_hour : ok_hour K Inv) (h_drift : ok_drift K Inv) (h_give : ok_give K Inv) (h_change : ok_change K Inv) (h_firstShort : ok_firstShort K Inv) (h_richest : ok_richest K Inv) (h_life : ok_life K Inv) (h_shift : ok_shift K Inv) (h_coins : ok_coins K Inv) (h_strike : ok_strike K Inv) (h_isFalse : ok_isFalse K Inv) (h_prices : ok_prices K Inv) (h_robbed : ok_robbed K Inv) (h_run : ok_run K Inv) (h_write : ok_write K Inv) (h_tear : ok_tear K Inv) (h_judge : ok_judge K Inv) (h_seed : ok_seed K Inv) (h_keep : ok_keep K Inv) (h_goBack : ok_goBack K Inv) (h_none : ∀ (k tw : Nat) (tp : Bool) (D : am_M), k < K → Inv k tw tp D → Inv (k + 1) tw tp D) : ∀ (n k tw : Nat) (tp : Bool) (D : am_M), 6 * k ≤ L → L < 6 * k + 6 * n → Inv k tw tp D → am_Ex (lw_E l b L xs) code (83 + 2 * k, 5000 + 88200 * k) 18 [(0, .ref 1000000), (1, .ref 0), (2, .ref 56), (3, .int (nI (6 * k)))] [] (ly tw tp D) := by
  intro n
  induction n with
  | zero =>
    intro k tw tp D h1 h2 _
    omega
  | succ n ih =>
    intro k tw tp D hkL hn hI
    have htw := hT _ _ _ _ hI
    refine am_iload_n (j := 3) (am_dk tk_law_0 10 rfl) rfl rfl ?_
    refine am_aload_n (j := 0) (am_dk tk_law_0 11 rfl) rfl rfl ?_
    refine lw_slen (am_dk tk_law_0 12 rfl) ?_
    refine am_bipush (v := 6) (am_dk tk_law_0 13 rfl) (by decide) ?_
    refine am_isub (am_dk tk_law_0 14 rfl) ?_
    refine am_icmp_gt (tgt := 1000) (am_dk tk_law_0 15 rfl) (by decide) (fun hc => ?_) (fun hc => ?_)
    · refine am_iconst (v := 1) (am_dk tk_law_13 40 rfl) (by decide) ?_
      exact lw_end ⟨by show 83 + 2 * k ≤ 600000; omega, by show 5000 + 88200 * k ≤ 7302250; omega⟩ (am_dk tk_law_13 41 rfl)
    · have hk6 : 6 * k + 6 ≤ L := lw_more hkL (by omega) hc
      have hk : k < K := by omega
      refine am_aload_n (j := 0) (am_dk tk_law_0 16 rfl) rfl rfl ?_
      refine am_iload_n (j := 3) (am_dk tk_law_0 17 rfl) rfl rfl ?_
      refine lw_sld (vp_in_nI (by omega) (by omega)) (am_dk tk_law_0 18 rfl) ?_
      refine am_bipush (v := 31) (am_dk tk_law_0 19 rfl) (by decide) ?_
      refine am_iand (am_dk tk_law_0 20 rfl) ?_
      generalize xs (nI (6 * k)).toNatClampNeg &&& 31 = y
      have kk : ∀ (tw : Nat) (tp : Bool) (D : am_M), Inv (k + 1) tw tp D → am_Ex (lw_E l b L xs) code (83 + 2 * k + 2, 5000 + 88200 * k + 88200) 994 [(0, .ref 1000000), (1, .ref 0), (2, .ref 56), (3, .int (nI (6 * k)))] [] (ly tw tp D) := by
        intro tw2 tp2 D2 hI2
        refine am_iinc (j := 3) (v := nI (6 * (k + 1))) (L' := [(3, .int (nI (6 * (k + 1)))), (0, .ref 1000000), (1, .ref 0), (2, .ref 56)]) (am_dk tk_law_13 38 rfl) rfl (lw_next k) (Nat.le_of_ble_eq_true rfl) rfl ?_
        refine am_goto (tgt := 18) (am_dk tk_law_13 39 rfl) (by decide) ?_
        refine am_ls [1, 2, 3, 0] rfl ?_
        have e1 : (83 + 2 * k + 2, 5000 + 88200 * k + 88200) = (83 + 2 * (k + 1), 5000 + 88200 * (k + 1)) := by rw [show 83 + 2 * k + 2 = 83 + 2 * (k + 1) by omega, show 5000 + 88200 * k + 88200 = 5000 + 88200 * (k + 1) by omega]
        rw [e1]
        exact ih (k + 1) tw2 tp2 D2 (by omega) (by omega) hI2
      by_cases s0 : y = 0
      · refine am_tableIn (off := 127) (tgt := 160) (am_dk tk_law_0 21 rfl) (by rw [s0]; decide) (by rw [s0]; decide) (by rw [s0]; decide) (by decide) ?_
        exact lw_case_feed h_feed hk hk6 hL hI htw (by omega) (by omega) kk
      by_cases s1 : y = 1
      · refine am_tableIn (off := 150) (tgt := 183) (am_dk tk_law_0 21 rfl) (by rw [s1]; decide) (by rw [s1]; decide) (by rw [s1]; decide) (by decide) ?_
        exact lw_case_capital h_capital hk hk6 hL hI htw (by omega) (by omega) kk
      by_cases s2 : y = 2
      · refine am_tableIn (off := 163) (tgt := 196) (am_dk tk_law_0 21 rfl) (by rw [s2]; decide) (by rw [s2]; decide) (by rw [s2]; decide) (by decide) ?_
        exact lw_case_fault h_fault hk hk6 hL hI htw (by omega) (by omega) kk
      by_cases s3 : y = 3
      · refine am_tableIn (off := 176) (tgt := 209) (am_dk tk_law_0 21 rfl) (by rw [s3]; decide) (by rw [s3]; decide) (by rw [s3]; decide) (by decide) ?_
        exact lw_case_told h_told hk hk6 hL hI htw (by omega) (by omega) kk
      by_cases s4 : y = 4
      · refine am_tableIn (off := 199) (tgt := 232) (am_dk tk_law_0 21 rfl) (by rw [s4]; decide) (by rw [s4]; decide) (by rw [s4]; decide) (by decide) ?_
        exact lw_case_person h_person hk hk6 hL hI htw (by omega) (by omega) kk
      by_cases s5 : y = 5
      · refine am_tableIn (off := 232) (tgt := 265) (am_dk tk_law_0 21 rfl) (by rw [s5]; decide) (by rw [s5]; decide) (by rw [s5]; decide) (by decide) ?_
        exact lw_case_row h_row hk hk6 hL hI htw (by omega) (by omega) kk
      by_cases s6 : y = 6
      · refine am_tableIn (off := 265) (tgt := 298) (am_dk tk_law_0 21 rfl) (by rw [s6]; decide) (by rw [s6]; decide) (by rw [s6]; decide) (by decide) ?_
        exact lw_case_coin h_coin hk hk6 hL hI htw (by omega) (by omega) kk
      by_cases s7 : y = 7
      · refine am_tableIn (off := 288) (tgt := 321) (am_dk tk_law_0 21 rfl) (by rw [s7]; decide) (by rw [s7]; decide) (by rw [s7]; decide) (by decide) ?_
        exact lw_case_debt h_debt hk hk6 hL hI htw (by omega) (by omega) kk
      by_cases s8 : y = 8
      · refine am_tableIn (off := 321) (tgt := 354) (am_dk tk_law_0 21 rfl) (by rw [s8]; decide) (by rw [s8]; decide) (by rw [s8]; decide) (by decide) ?_
        exact lw_case_hour h_hour hk hk6 hL hI htw (by omega) (by omega) kk
      by_cases s9 : y = 9
      · refine am_tableIn (off := 344) (tgt := 377) (am_dk tk_law_0 21 rfl) (by rw [s9]; decide) (by rw [s9]; decide) (by rw [s9]; decide) (by decide) ?_
        exact lw_case_drift h_drift hk hk6 hL hI htw (by omega) (by omega) kk
      by_cases s10 : y = 10
      · refine am_tableIn (off := 367) (tgt := 400) (am_dk tk_law_0 21 rfl) (by rw [s10]; decide) (by rw [s10]; decide) (by rw [s10]; decide) (by decide) ?_
        exact lw_case_give h_give hk hk6 hL hI htw (by omega) (by omega) kk
      by_cases s11 : y = 11
      · refine am_tableIn (off := 410) (tgt := 443) (am_dk tk_law_0 21 rfl) (by rw [s11]; decide) (by rw [s11]; decide) (by rw [s11]; decide) (by decide) ?_
        exact lw_case_change h_change hk hk6 hL hI htw (by omega) (by omega) kk
      by_cases s12 : y = 12
      · refine am_tableIn (off := 453) (tgt := 486) (am_dk tk_law_0 21 rfl) (by rw [s12]; decide) (by rw [s12]; decide) (by rw [s12]; decide) (by decide) ?_
        exact lw_case_firstShort h_firstShort hk hk6 hL hI htw (by omega) (by omega) kk
      by_cases s13 : y = 13
      · refine am_tableIn (off := 476) (tgt := 509) (am_dk tk_law_0 21 rfl) (by rw [s13]; decide) (by rw [s13]; decide) (by rw [s13]; decide) (by decide) ?_
        exact lw_case_richest h_richest hk hk6 hL hI htw (by omega) (by omega) kk
      by_cases s14 : y = 14
      · refine am_tableIn (off := 509) (tgt := 542) (am_dk tk_law_0 21 rfl) (by rw [s14]; decide) (by rw [s14]; decide) (by rw [s14]; decide) (by decide) ?_
        exact lw_case_life h_life hk hk6 hL hI htw (by omega) (by omega) kk
      by_cases s15 : y = 15
      · refine am_tableIn (off := 552) (tgt := 585) (am_dk tk_law_0 21 rfl) (by rw [s15]; decide) (by rw [s15]; decide) (by rw [s15]; decide) (by decide) ?_
        exact lw_case_shift h_shift hk hk6 hL hI htw (by omega) (by omega) kk
      by_cases s16 : y = 16
      · refine am_tableIn (off := 585) (tgt := 618) (am_dk tk_law_0 21 rfl) (by rw [s16]; decide) (by rw [s16]; decide) (by rw [s16]; decide) (by decide) ?_
        exact lw_case_coins h_coins hk hk6 hL hI htw (by omega) (by omega) kk
      by_cases s17 : y = 17
      · refine am_tableIn (off := 618) (tgt := 651) (am_dk tk_law_0 21 rfl) (by rw [s17]; decide) (by rw [s17]; decide) (by rw [s17]; decide) (by decide) ?_
        exact lw_case_strike h_strike hk hk6 hL hI htw (by omega) (by omega) kk
      by_cases s18 : y = 18
      · refine am_tableIn (off := 641) (tgt := 674) (am_dk tk_law_0 21 rfl) (by rw [s18]; decide) (by rw [s18]; decide) (by rw [s18]; decide) (by decide) ?_
        exact lw_case_isFalse h_isFalse hk hk6 hL hI htw (by omega) (by omega) kk
      by_cases s19 : y = 19
      · refine am_tableIn (off := 704) (tgt := 737) (am_dk tk_law_0 21 rfl) (by rw [s19]; decide) (by rw [s19]; decide) (by rw [s19]; decide) (by decide) ?_
        exact lw_case_prices h_prices hk hk6 hL hI htw (by omega) (by omega) kk
      by_cases s20 : y = 20
      · refine am_tableIn (off := 757) (tgt := 790) (am_dk tk_law_0 21 rfl) (by rw [s20]; decide) (by rw [s20]; decide) (by rw [s20]; decide) (by decide) ?_
        exact lw_case_robbed h_robbed hk hk6 hL hI htw (by omega) (by omega) kk
      by_cases s21 : y = 21
      · refine am_tableIn (off := 800) (tgt := 833) (am_dk tk_law_0 21 rfl) (by rw [s21]; decide) (by rw [s21]; decide) (by rw [s21]; decide) (by decide) ?_
        exact lw_case_run h_run hk hk6 hL hI htw (by omega) (by omega) kk
      by_cases s22 : y = 22
      · refine am_tableIn (off := 833) (tgt := 866) (am_dk tk_law_0 21 rfl) (by rw [s22]; decide) (by rw [s22]; decide) (by rw [s22]; decide) (by decide) ?_
        exact lw_case_write h_write hk hk6 hL hI htw (by omega) (by omega) kk
      by_cases s23 : y = 23
      · refine am_tableIn (off := 866) (tgt := 899) (am_dk tk_law_0 21 rfl) (by rw [s23]; decide) (by rw [s23]; decide) (by rw [s23]; decide) (by decide) ?_
        exact lw_case_tear h_tear hk hk6 hL hI htw (by omega) (by omega) kk
      by_cases s24 : y = 24
      · refine am_tableIn (off := 879) (tgt := 912) (am_dk tk_law_0 21 rfl) (by rw [s24]; decide) (by rw [s24]; decide) (by rw [s24]; decide) (by decide) ?_
        exact lw_case_judge h_judge hk hk6 hL hI htw (by omega) (by omega) kk
      by_cases s25 : y = 25
      · refine am_tableIn (off := 892) (tgt := 925) (am_dk tk_law_0 21 rfl) (by rw [s25]; decide) (by rw [s25]; decide) (by rw [s25]; decide) (by decide) ?_
        exact lw_case_seed h_seed hk hk6 hL hI htw (by omega) (by omega) kk
      by_cases s26 : y = 26
      · refine am_tableIn (off := 915) (tgt := 948) (am_dk tk_law_0 21 rfl) (by rw [s26]; decide) (by rw [s26]; decide) (by rw [s26]; decide) (by decide) ?_
        exact lw_case_keep h_keep hk hk6 hL hI htw (by omega) (by omega) kk
      by_cases s27 : y = 27
      · refine am_tableIn (off := 938) (tgt := 971) (am_dk tk_law_0 21 rfl) (by rw [s27]; decide) (by rw [s27]; decide) (by rw [s27]; decide) (by decide) ?_
        exact lw_case_goBack h_goBack hk hk6 hL hI htw (by omega) (by omega) kk
      refine am_tableOut (tgt := 994) (am_dk tk_law_0 21 rfl) (by have e0 := lv_neT (a := 0) s0 rfl; have e1 := lv_neT (a := 1) s1 rfl; have e2 := lv_neT (a := 2) s2 rfl; have e3 := lv_neT (a := 3) s3 rfl; have e4 := lv_neT (a := 4) s4 rfl; have e5 := lv_neT (a := 5) s5 rfl; have e6 := lv_neT (a := 6) s6 rfl; have e7 := lv_neT (a := 7) s7 rfl; have e8 := lv_neT (a := 8) s8 rfl; have e9 := lv_neT (a := 9) s9 rfl; have e10 := lv_neT (a := 10) s10 rfl; have e11 := lv_neT (a := 11) s11 rfl; have e12 := lv_neT (a := 12) s12 rfl; have e13 := lv_neT (a := 13) s13 rfl; have e14 := lv_neT (a := 14) s14 rfl; have e15 := lv_neT (a := 15) s15 rfl; have e16 := lv_neT (a := 16) s16 rfl; have e17 := lv_neT (a := 17) s17 rfl; have e18 := lv_neT (a := 18) s18 rfl; have e19 := lv_neT (a := 19) s19 rfl; have e20 := lv_neT (a := 20) s20 rfl; have e21 := lv_neT (a := 21) s21 rfl; have e22 := lv_neT (a := 22) s22 rfl; have e23 := lv_neT (a := 23) s23 rfl; have e24 := lv_neT (a := 24) s24 rfl; have e25 := lv_neT (a := 25) s25 rfl; have e26 := lv_neT (a := 26) s26 rfl; have e27 := lv_neT (a := 27) s27 rfl; omega) (by decide) ?_
      refine am_wid (cs' := (83 + 2 * k + 2, 5000 + 88200 * k + 88200)) (by show 83 + 2 * k ≤ 83 + 2 * k + 2; omega) (by show 5000 + 88200 * k ≤ 5000 + 88200 * k + 88200; omega) ?_
      exact kk _ _ _ (h_none k tw tp D hk hI)
theorem lw_nest : ∀ q ∈ am_nest, Cond.methodLinkNest q.1 q.2.1 q.2.2.1 q.2.2.2 ∈ lw_tbl := by decide +kernel
theorem lw_first (l : Launch) {b L : Nat} {xs : Nat → Int32} (k : am_Ex (lw_E l b L xs) code (83, 5000) 18 [(0, .ref 1000000), (1, .ref 0), (2, .ref 56), (3, .int 0)] [] (ly 1 false d0)) : am_Ex (lw_E l b L xs) code (0, 0) 0 [(0, .ref 1000000)] [] lw_h00 := by
  refine am_newN (c := 5) (p0 := 0) rfl (by decide) rfl (Nat.le_refl _) (by decide) rfl rfl nw_L_7 ⟨Nat.le_of_ble_eq_true rfl, Nat.le_of_ble_eq_true rfl⟩ (am_dv 5 (by decide)) (am_dk tk_law_0 0 rfl) ?_
  refine am_h (h' := lw_h1) rfl ?_
  refine am_dup (am_dk tk_law_0 1 rfl) rfl ?_
  refine am_callI (M := m_X5_init) (b := 0) (n := 0) (ws0 := []) (st := [.ref 0]) rfl (Nat.zero_le _) rfl rfl rfl rfl (ct_X5_init (n := 1) rfl (by decide) rfl) ml_L_9 ld_X5_init ⟨Nat.le_of_ble_eq_true rfl, Nat.le_of_ble_eq_true rfl⟩ (Nat.le_of_ble_eq_true rfl) ⟨Nat.le_of_ble_eq_true rfl, Nat.le_of_ble_eq_true rfl⟩ (am_dk tk_law_0 2 rfl) (am_kkv ?_)
  refine am_h (h' := lw_h2) rfl ?_
  refine am_astore_n (L' := [(1, .ref 0), (0, .ref 1000000)]) (am_dk tk_law_0 3 rfl) rfl (Nat.le_of_ble_eq_true rfl) rfl ?_
  refine am_newN (c := 6) (p0 := 56) lw_l2 (by decide) rfl (Nat.zero_le _) (by decide) rfl rfl nw_L_10 ⟨Nat.le_of_ble_eq_true rfl, Nat.le_of_ble_eq_true rfl⟩ (am_dv 6 (by decide)) (am_dk tk_law_0 4 rfl) ?_
  refine am_h (h' := lw_h3) rfl ?_
  refine am_dup (am_dk tk_law_0 5 rfl) rfl ?_
  refine am_callI (M := m_X6_init) (b := 56) (n := 0) (ws0 := []) (st := [.ref 56]) rfl (Nat.zero_le _) (by rw [lw_l3]; rfl) (by rw [lw_l3]; rfl) rfl rfl (ct_X6_init (n := 57) lw_l3 (by decide) (am_addn_new lw_l2 _)) ml_L_12 ld_X6_init ⟨Nat.le_of_ble_eq_true rfl, Nat.le_of_ble_eq_true rfl⟩ (Nat.le_of_ble_eq_true rfl) ⟨Nat.le_of_ble_eq_true rfl, Nat.le_of_ble_eq_true rfl⟩ (am_dk tk_law_0 6 rfl) (am_kkv ?_)
  refine am_h (h' := lw_h4) rfl ?_
  refine am_hw (h' := ly 1 false d0) lw_w (ly_wf (Or.inl rfl) d0) ?_
  refine am_astore_n (L' := [(2, .ref 56), (1, .ref 0), (0, .ref 1000000)]) (am_dk tk_law_0 7 rfl) rfl (Nat.le_of_ble_eq_true rfl) rfl ?_
  refine am_iconst (v := 0) (am_dk tk_law_0 8 rfl) (by decide) ?_
  refine am_istore_n (L' := [(3, .int 0), (2, .ref 56), (1, .ref 0), (0, .ref 1000000)]) (am_dk tk_law_0 9 rfl) rfl (Nat.le_of_ble_eq_true rfl) rfl ?_
  refine am_ls [3, 2, 1, 0] rfl ?_
  exact am_wid (cs' := (83, 5000)) (Nat.le_of_ble_eq_true rfl) (Nat.le_of_ble_eq_true rfl) k
theorem lw_start {p : Program} {e : Env} {s : State} {m : MethodId} {below : List Frame} {meth : Method} {c : Code} (l : Launch) {b L : Nat} {xs : Nat → Int32} (C0 : lw_At p s m meth c b L xs) (k : am_Ex (lw_E l b L xs) code (83, 5000) 18 [(0, .ref 1000000), (1, .ref 0), (2, .ref 56), (3, .int 0)] [] (ly 1 false d0)) : W p l e room_1 s m #[Value.ref b] below meth c s.heap [] 0 0 (lw_Z below #[Value.ref b] s) (entryFrame m ([Value.ref b] : List Value).toArray 4) := by
  obtain ⟨hx, hb, hr, hml, hown, hts, hX, hbl, hlocks, hgv⟩ := id C0
  have htb : ∀ w ∈ am_TB, w.before #[Value.ref b] s = true := fun w hw => hts w (List.mem_filter.mp hw).1
  obtain ⟨c0, i0, q0⟩ := u_known (C := RX0) (T := TX0) (N := 7) (n := 7) htb am_cin0 (htb (.instantiable RX0 7) (am_tb 325 (by decide +kernel) (by decide +kernel)))
  obtain ⟨c1, i1, q1⟩ := u_known (C := RX1) (T := TX1) (N := 16) (n := 16) htb am_cin1 (htb (.instantiable RX1 16) (am_tb 268 (by decide +kernel) (by decide +kernel)))
  obtain ⟨c2, i2, q2⟩ := u_known (C := RX2) (T := TX2) (N := 8) (n := 8) htb am_cin2 (htb (.instantiable RX2 8) (am_tb 104 (by decide +kernel) (by decide +kernel)))
  obtain ⟨c3, i3, q3⟩ := u_known (C := RX3) (T := TX3) (N := 7) (n := 7) htb am_cin3 (htb (.instantiable RX3 7) (am_tb 232 (by decide +kernel) (by decide +kernel)))
  obtain ⟨c4, i4, q4⟩ := u_known (C := RX4) (T := TX4) (N := 13) (n := 13) htb am_cin4 (htb (.instantiable RX4 13) (am_tb 98 (by decide +kernel) (by decide +kernel)))
  obtain ⟨c5, i5, q5⟩ := u_known (C := RX5) (T := TX5) (N := 12) (n := 12) htb am_cin5 (htb (.instantiable RX5 12) (am_tb 90 (by decide +kernel) (by decide +kernel)))
  obtain ⟨c6, i6, q6⟩ := u_known (C := RX6) (T := TX6) (N := 44) (n := 44) htb am_cin6 (htb (.instantiable RX6 44) (am_tb 824 (by decide +kernel) (by decide +kernel)))
  obtain ⟨dC, dI, hKc⟩ : ∃ (dC : Nat → ClassId) (dI : Nat → Nat → Nat), ∀ (k : Nat) (q : vw_C), am_cl[k]? = some q → u_Kn s q.1 q.2.1 q.2.2 (dC k) (dI k) := by
    refine ⟨fun k => [c0, c1, c2, c3, c4, c5, c6].getD k c0, fun k => [i0, i1, i2, i3, i4, i5, i6].getD k i0, ?_⟩
    intro k q hq
    match k, hq with
    | 0, hq => cases hq; exact q0
    | 1, hq => cases hq; exact q1
    | 2, hq => cases hq; exact q2
    | 3, hq => cases hq; exact q3
    | 4, hq => cases hq; exact q4
    | 5, hq => cases hq; exact q5
    | 6, hq => cases hq; exact q6
    | k + 7, hq => simp [am_cl] at hq
  obtain ⟨cA, kA, cpA, a1, a2, a3⟩ := Cond.arrayClass_spec (htb (.arrayClass .int) (am_tb 149 (by decide +kernel) (by decide +kernel)))
  obtain ⟨cB, kB, cpB, b1, b2, b3⟩ := Cond.arrayClass_spec (htb (.arrayClass .boolean) (am_tb 355 (by decide +kernel) (by decide +kernel)))
  have hTT : am_T ((dC, dI), fun k => if k = 0 then cA else cB) s := by
    refine ⟨⟨hKc, fun k q hq => ?_⟩, fun q hq => va_Nw.of rfl (hts _ (lw_nest q hq))⟩
    match k, hq with
    | 0, hq => cases hq; exact ⟨fun n z => ⟨fun k h => (by cases h), kA, a2, cpA, a3⟩, a1⟩
    | 1, hq => cases hq; exact ⟨fun n z => ⟨fun k h => (by cases h), kB, b2, cpB, b3⟩, b1⟩
    | k + 2, hq => simp at hq
  have hl := lv_entry ([.ref b]) (n := 4) (Nat.le_of_ble_eq_true rfl)
  rw [lg_entry_eq]
  generalize (lg_sl ([.ref b]) ++ List.replicate (4 - (lg_sl ([.ref b])).length) Slot.unset).toArray = ls at hl ⊢
  refine lw_first l k ((dC, dI), fun k => if k = 0 then cA else cB) (fun _ => b) s.heap.size (fun _ => b) p e s m #[Value.ref b] below meth c s.heap [] ls ⟨hx, hb, hml, hown, htb, hTT, rfl, ⟨rfl, rfl, hX, hbl, hr, hlocks⟩, am_rel.rf⟩ ⟨?_, ?_, ?_, va_S.rf⟩ hl
  · intro a j k' ha; exact absurd ha (Nat.not_lt_zero a)
  · intro k q h; simp [am_w, lw_h00] at h
  · refine ⟨fun i j p q h => ?_, fun k q h => ?_⟩
    · simp [am_w, lw_h00] at h
    · simp [am_w, lw_h00] at h
theorem law_main {p : Program} {e : Env} {s : State} {m : MethodId} {below : List Frame} {meth : Method} {c : Code} (l : Launch) {b L : Nat} {xs : Nat → Int32} (hL : L ≤ 384) (C0 : lw_At p s m meth c b L xs) {Inv : Nat → Nat → Bool → am_M → Prop} (hT : ∀ k tw tp D, Inv k tw tp D → lyT tw) (h0 : Inv 0 1 false d0) (h_feed : ok_feed 64 Inv) (h_capital : ok_capital 64 Inv) (h_fault : ok_fault 64 Inv) (h_told : ok_told 64 Inv) (h_person : ok_person 64 Inv) (h_row : ok_row 64 Inv) (h_coin : ok_coin 64 Inv) (h_debt : ok_debt 64 Inv) (h_hour : ok_hour 64 Inv) (h_drift : ok_drift 64 Inv) (h_give : ok_give 64 Inv) (h_change : ok_change 64 Inv) (h_firstShort : ok_firstShort 64 Inv) (h_richest : ok_richest 64 Inv) (h_life : ok_life 64 Inv) (h_shift : ok_shift 64 Inv) (h_coins : ok_coins 64 Inv) (h_strike : ok_strike 64 Inv) (h_isFalse : ok_isFalse 64 Inv) (h_prices : ok_prices 64 Inv) (h_robbed : ok_robbed 64 Inv) (h_run : ok_run 64 Inv) (h_write : ok_write 64 Inv) (h_tear : ok_tear 64 Inv) (h_judge : ok_judge 64 Inv) (h_seed : ok_seed 64 Inv) (h_keep : ok_keep 64 Inv) (h_goBack : ok_goBack 64 Inv) (h_none : ∀ (k tw : Nat) (tp : Bool) (D : am_M), k < 64 → Inv k tw tp D → Inv (k + 1) tw tp D) : W p l e room_1 s m #[Value.ref b] below meth c s.heap [] 0 0 (lw_Z below #[Value.ref b] s) (entryFrame m ([Value.ref b] : List Value).toArray 4) := by
  refine lw_start l C0 ?_
  exact lw_loop (K := 64) rfl hL hT h_feed h_capital h_fault h_told h_person h_row h_coin h_debt h_hour h_drift h_give h_change h_firstShort h_richest h_life h_shift h_coins h_strike h_isFalse h_prices h_robbed h_run h_write h_tear h_judge h_seed h_keep h_goBack h_none (L + 1) 0 1 false d0 (by omega) (by omega) h0
