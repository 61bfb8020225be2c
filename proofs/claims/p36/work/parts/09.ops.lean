/-! DECODE ROWS, OPCODE BY OPCODE -/
def oN (c : ByteArray) (p : Nat) : Option Nat := c.data.toList[p]?.map UInt8.toNat
def oC (c : ByteArray) (p : Nat) (l : List Nat) : Bool := ((c.data.toList.drop p).take l.length).map UInt8.toNat == l
theorem oC_N {c : ByteArray} {p : Nat} {l : List Nat} (h : oC c p l = true) (j b : Nat) (hj : l[j]? = some b) : oN c (p + j) = some b := by
  unfold oC at h
  have e := eq_of_beq h
  have e2 := congrArg (fun z => z[j]?) e
  obtain ⟨hh, _⟩ := List.getElem?_eq_some_iff.mp hj
  simp only [List.getElem?_map, List.getElem?_take, List.getElem?_drop, if_pos hh, hj] at e2
  exact e2
theorem oV {x : Bool} {P : Prop} [Decidable P] (h : (x && decide P) = true) : x = true ∧ P := by
  rw [Bool.and_eq_true] at h
  exact ⟨h.1, of_decide_eq_true h.2⟩
theorem ru_1 {c : ByteArray} {p n : Nat} (h : oN c p = some n) : Reader.runAt (Reader.u1 : Decoder Nat) c p = .ok (n, p + 1) := by
  unfold oN at h
  obtain ⟨x, hx, e⟩ := Option.map_eq_some_iff.mp h
  obtain ⟨hl, e2⟩ := List.getElem?_eq_some_iff.mp hx
  have hs : p < c.size := hl
  have e3 : Reader.runAt (Reader.u1 : Decoder Nat) c p = (dite (p < c.size) (fun h => (do set (p + 1); pure (c[p]'h).toNat : Decoder Nat)) (fun _ => throw (HasTruncated.truncated p))) c p := rfl
  rw [e3, dif_pos hs]
  show Except.ok ((c[p]'hs).toNat, p + 1) = _
  have e4 : c[p]'hs = x := e2
  rw [e4, e]
theorem ru_bind {α β : Type} (r : Decoder α) (f : α → Decoder β) (c : ByteArray) (p : Nat) : Reader.runAt (r >>= f) c p = Except.bind (Reader.runAt r c p) (fun x => Reader.runAt (f x.1) c x.2) := rfl
theorem ru_ok {α β : Type} {r : Decoder α} {f : α → Decoder β} {c : ByteArray} {p q : Nat} {v : α} (h : Reader.runAt r c p = .ok (v, q)) : Reader.runAt (r >>= f) c p = Reader.runAt (f v) c q := by
  rw [ru_bind, h]
  rfl
theorem ru_2 {c : ByteArray} {p a b : Nat} (h1 : oN c p = some a) (h2 : oN c (p + 1) = some b) : Reader.runAt (Reader.u2 : Decoder Nat) c p = .ok (a * 256 + b, p + 2) := by
  have e : (Reader.u2 : Decoder Nat) = (Reader.u1 >>= fun hi => Reader.u1 >>= fun lo => pure (hi * 256 + lo)) := rfl
  rw [e, ru_ok (ru_1 h1), ru_ok (ru_1 h2)]
  rfl
theorem ru_s1 {c : ByteArray} {p a : Nat} (h1 : oN c p = some a) : Reader.runAt (Reader.s1 : Decoder Int) c p = .ok (Reader.signed 8 a, p + 1) := by
  have e : (Reader.s1 : Decoder Int) = (Reader.u1 >>= fun x => pure (Reader.signed 8 x)) := rfl
  rw [e, ru_ok (ru_1 h1)]
  rfl
theorem ru_s2 {c : ByteArray} {p a b : Nat} (h1 : oN c p = some a) (h2 : oN c (p + 1) = some b) : Reader.runAt (Reader.s2 : Decoder Int) c p = .ok (Reader.signed 16 (a * 256 + b), p + 2) := by
  have e : (Reader.s2 : Decoder Int) = (Reader.u2 >>= fun x => pure (Reader.signed 16 x)) := rfl
  rw [e, ru_ok (ru_2 h1 h2)]
  rfl
theorem od {c : ByteArray} {pc b m : Nat} {i : Instr} {F : Nat → Decoder Instr} (hI : Decoder.instr pc = (Reader.u1 >>= F)) (h0 : oN c pc = some b) (hF : Reader.runAt (F b) c (pc + 1) = .ok (i, pc + m)) : decode c pc = .ok (i, m) := by
  have e : decode c pc = Except.bind (Reader.runAt (Decoder.instr pc) c pc) (fun x => .ok (x.1, x.2 - pc)) := rfl
  rw [e, hI, ru_ok (ru_1 h0), hF]
  show Except.ok (i, pc + m - pc) = _
  rw [Nat.add_sub_cancel_left]
theorem o_132 {c : ByteArray} {pc : Nat} (a d : Nat) (v : Int) (h : (oC c pc [132, a, d] && decide (Reader.signed 8 d = v)) = true) : decode c pc = .ok (.iinc a v, 3) := by
  obtain ⟨h, e⟩ := oV h
  rw [← e]
  exact od rfl (oC_N h 0 132 rfl) (Eq.trans (ru_ok (ru_1 (oC_N h 1 a rfl))) (Eq.trans (ru_ok (ru_s1 (oC_N h 2 d rfl))) rfl))
theorem o_10 {c : ByteArray} {pc : Nat} (h : oC c pc [10] = true) : decode c pc = .ok (.lconst 1, 1) := od rfl (oC_N h 0 10 rfl) rfl
theorem o_100 {c : ByteArray} {pc : Nat} (h : oC c pc [100] = true) : decode c pc = .ok (.isub, 1) := od rfl (oC_N h 0 100 rfl) rfl
theorem o_101 {c : ByteArray} {pc : Nat} (h : oC c pc [101] = true) : decode c pc = .ok (.lsub, 1) := od rfl (oC_N h 0 101 rfl) rfl
theorem o_104 {c : ByteArray} {pc : Nat} (h : oC c pc [104] = true) : decode c pc = .ok (.imul, 1) := od rfl (oC_N h 0 104 rfl) rfl
theorem o_108 {c : ByteArray} {pc : Nat} (h : oC c pc [108] = true) : decode c pc = .ok (.idiv, 1) := od rfl (oC_N h 0 108 rfl) rfl
theorem o_112 {c : ByteArray} {pc : Nat} (h : oC c pc [112] = true) : decode c pc = .ok (.irem, 1) := od rfl (oC_N h 0 112 rfl) rfl
theorem o_116 {c : ByteArray} {pc : Nat} (h : oC c pc [116] = true) : decode c pc = .ok (.ineg, 1) := od rfl (oC_N h 0 116 rfl) rfl
theorem o_120 {c : ByteArray} {pc : Nat} (h : oC c pc [120] = true) : decode c pc = .ok (.ishl, 1) := od rfl (oC_N h 0 120 rfl) rfl
theorem o_121 {c : ByteArray} {pc : Nat} (h : oC c pc [121] = true) : decode c pc = .ok (.lshl, 1) := od rfl (oC_N h 0 121 rfl) rfl
theorem o_122 {c : ByteArray} {pc : Nat} (h : oC c pc [122] = true) : decode c pc = .ok (.ishr, 1) := od rfl (oC_N h 0 122 rfl) rfl
theorem o_123 {c : ByteArray} {pc : Nat} (h : oC c pc [123] = true) : decode c pc = .ok (.lshr, 1) := od rfl (oC_N h 0 123 rfl) rfl
theorem o_124 {c : ByteArray} {pc : Nat} (h : oC c pc [124] = true) : decode c pc = .ok (.iushr, 1) := od rfl (oC_N h 0 124 rfl) rfl
theorem o_125 {c : ByteArray} {pc : Nat} (h : oC c pc [125] = true) : decode c pc = .ok (.lushr, 1) := od rfl (oC_N h 0 125 rfl) rfl
theorem o_126 {c : ByteArray} {pc : Nat} (h : oC c pc [126] = true) : decode c pc = .ok (.iand, 1) := od rfl (oC_N h 0 126 rfl) rfl
theorem o_127 {c : ByteArray} {pc : Nat} (h : oC c pc [127] = true) : decode c pc = .ok (.land, 1) := od rfl (oC_N h 0 127 rfl) rfl
theorem o_128 {c : ByteArray} {pc : Nat} (h : oC c pc [128] = true) : decode c pc = .ok (.ior, 1) := od rfl (oC_N h 0 128 rfl) rfl
theorem o_129 {c : ByteArray} {pc : Nat} (h : oC c pc [129] = true) : decode c pc = .ok (.lor, 1) := od rfl (oC_N h 0 129 rfl) rfl
theorem o_130 {c : ByteArray} {pc : Nat} (h : oC c pc [130] = true) : decode c pc = .ok (.ixor, 1) := od rfl (oC_N h 0 130 rfl) rfl
theorem o_136 {c : ByteArray} {pc : Nat} (h : oC c pc [136] = true) : decode c pc = .ok (.l2i, 1) := od rfl (oC_N h 0 136 rfl) rfl
theorem o_145 {c : ByteArray} {pc : Nat} (h : oC c pc [145] = true) : decode c pc = .ok (.i2b, 1) := od rfl (oC_N h 0 145 rfl) rfl
theorem o_146 {c : ByteArray} {pc : Nat} (h : oC c pc [146] = true) : decode c pc = .ok (.i2c, 1) := od rfl (oC_N h 0 146 rfl) rfl
theorem o_148 {c : ByteArray} {pc : Nat} (h : oC c pc [148] = true) : decode c pc = .ok (.lcmp, 1) := od rfl (oC_N h 0 148 rfl) rfl
theorem o_172 {c : ByteArray} {pc : Nat} (h : oC c pc [172] = true) : decode c pc = .ok (.ireturn, 1) := od rfl (oC_N h 0 172 rfl) rfl
theorem o_173 {c : ByteArray} {pc : Nat} (h : oC c pc [173] = true) : decode c pc = .ok (.lreturn, 1) := od rfl (oC_N h 0 173 rfl) rfl
theorem o_176 {c : ByteArray} {pc : Nat} (h : oC c pc [176] = true) : decode c pc = .ok (.areturn, 1) := od rfl (oC_N h 0 176 rfl) rfl
theorem o_177 {c : ByteArray} {pc : Nat} (h : oC c pc [177] = true) : decode c pc = .ok (.return_, 1) := od rfl (oC_N h 0 177 rfl) rfl
theorem o_190 {c : ByteArray} {pc : Nat} (h : oC c pc [190] = true) : decode c pc = .ok (.arraylength, 1) := od rfl (oC_N h 0 190 rfl) rfl
theorem o_191 {c : ByteArray} {pc : Nat} (h : oC c pc [191] = true) : decode c pc = .ok (.athrow, 1) := od rfl (oC_N h 0 191 rfl) rfl
theorem o_2 {c : ByteArray} {pc : Nat} (h : oC c pc [2] = true) : decode c pc = .ok (.iconst (-1), 1) := od rfl (oC_N h 0 2 rfl) rfl
theorem o_26 {c : ByteArray} {pc : Nat} (h : oC c pc [26] = true) : decode c pc = .ok (.iload_n 0, 1) := od rfl (oC_N h 0 26 rfl) rfl
theorem o_27 {c : ByteArray} {pc : Nat} (h : oC c pc [27] = true) : decode c pc = .ok (.iload_n 1, 1) := od rfl (oC_N h 0 27 rfl) rfl
theorem o_28 {c : ByteArray} {pc : Nat} (h : oC c pc [28] = true) : decode c pc = .ok (.iload_n 2, 1) := od rfl (oC_N h 0 28 rfl) rfl
theorem o_29 {c : ByteArray} {pc : Nat} (h : oC c pc [29] = true) : decode c pc = .ok (.iload_n 3, 1) := od rfl (oC_N h 0 29 rfl) rfl
theorem o_3 {c : ByteArray} {pc : Nat} (h : oC c pc [3] = true) : decode c pc = .ok (.iconst 0, 1) := od rfl (oC_N h 0 3 rfl) rfl
theorem o_30 {c : ByteArray} {pc : Nat} (h : oC c pc [30] = true) : decode c pc = .ok (.lload_n 0, 1) := od rfl (oC_N h 0 30 rfl) rfl
theorem o_31 {c : ByteArray} {pc : Nat} (h : oC c pc [31] = true) : decode c pc = .ok (.lload_n 1, 1) := od rfl (oC_N h 0 31 rfl) rfl
theorem o_4 {c : ByteArray} {pc : Nat} (h : oC c pc [4] = true) : decode c pc = .ok (.iconst 1, 1) := od rfl (oC_N h 0 4 rfl) rfl
theorem o_42 {c : ByteArray} {pc : Nat} (h : oC c pc [42] = true) : decode c pc = .ok (.aload_n 0, 1) := od rfl (oC_N h 0 42 rfl) rfl
theorem o_43 {c : ByteArray} {pc : Nat} (h : oC c pc [43] = true) : decode c pc = .ok (.aload_n 1, 1) := od rfl (oC_N h 0 43 rfl) rfl
theorem o_44 {c : ByteArray} {pc : Nat} (h : oC c pc [44] = true) : decode c pc = .ok (.aload_n 2, 1) := od rfl (oC_N h 0 44 rfl) rfl
theorem o_45 {c : ByteArray} {pc : Nat} (h : oC c pc [45] = true) : decode c pc = .ok (.aload_n 3, 1) := od rfl (oC_N h 0 45 rfl) rfl
theorem o_46 {c : ByteArray} {pc : Nat} (h : oC c pc [46] = true) : decode c pc = .ok (.iaload, 1) := od rfl (oC_N h 0 46 rfl) rfl
theorem o_5 {c : ByteArray} {pc : Nat} (h : oC c pc [5] = true) : decode c pc = .ok (.iconst 2, 1) := od rfl (oC_N h 0 5 rfl) rfl
theorem o_50 {c : ByteArray} {pc : Nat} (h : oC c pc [50] = true) : decode c pc = .ok (.aaload, 1) := od rfl (oC_N h 0 50 rfl) rfl
theorem o_51 {c : ByteArray} {pc : Nat} (h : oC c pc [51] = true) : decode c pc = .ok (.baload, 1) := od rfl (oC_N h 0 51 rfl) rfl
theorem o_59 {c : ByteArray} {pc : Nat} (h : oC c pc [59] = true) : decode c pc = .ok (.istore_n 0, 1) := od rfl (oC_N h 0 59 rfl) rfl
theorem o_6 {c : ByteArray} {pc : Nat} (h : oC c pc [6] = true) : decode c pc = .ok (.iconst 3, 1) := od rfl (oC_N h 0 6 rfl) rfl
theorem o_60 {c : ByteArray} {pc : Nat} (h : oC c pc [60] = true) : decode c pc = .ok (.istore_n 1, 1) := od rfl (oC_N h 0 60 rfl) rfl
theorem o_61 {c : ByteArray} {pc : Nat} (h : oC c pc [61] = true) : decode c pc = .ok (.istore_n 2, 1) := od rfl (oC_N h 0 61 rfl) rfl
theorem o_62 {c : ByteArray} {pc : Nat} (h : oC c pc [62] = true) : decode c pc = .ok (.istore_n 3, 1) := od rfl (oC_N h 0 62 rfl) rfl
theorem o_63 {c : ByteArray} {pc : Nat} (h : oC c pc [63] = true) : decode c pc = .ok (.lstore_n 0, 1) := od rfl (oC_N h 0 63 rfl) rfl
theorem o_64 {c : ByteArray} {pc : Nat} (h : oC c pc [64] = true) : decode c pc = .ok (.lstore_n 1, 1) := od rfl (oC_N h 0 64 rfl) rfl
theorem o_7 {c : ByteArray} {pc : Nat} (h : oC c pc [7] = true) : decode c pc = .ok (.iconst 4, 1) := od rfl (oC_N h 0 7 rfl) rfl
theorem o_76 {c : ByteArray} {pc : Nat} (h : oC c pc [76] = true) : decode c pc = .ok (.astore_n 1, 1) := od rfl (oC_N h 0 76 rfl) rfl
theorem o_77 {c : ByteArray} {pc : Nat} (h : oC c pc [77] = true) : decode c pc = .ok (.astore_n 2, 1) := od rfl (oC_N h 0 77 rfl) rfl
theorem o_78 {c : ByteArray} {pc : Nat} (h : oC c pc [78] = true) : decode c pc = .ok (.astore_n 3, 1) := od rfl (oC_N h 0 78 rfl) rfl
theorem o_79 {c : ByteArray} {pc : Nat} (h : oC c pc [79] = true) : decode c pc = .ok (.iastore, 1) := od rfl (oC_N h 0 79 rfl) rfl
theorem o_8 {c : ByteArray} {pc : Nat} (h : oC c pc [8] = true) : decode c pc = .ok (.iconst 5, 1) := od rfl (oC_N h 0 8 rfl) rfl
theorem o_83 {c : ByteArray} {pc : Nat} (h : oC c pc [83] = true) : decode c pc = .ok (.aastore, 1) := od rfl (oC_N h 0 83 rfl) rfl
theorem o_84 {c : ByteArray} {pc : Nat} (h : oC c pc [84] = true) : decode c pc = .ok (.bastore, 1) := od rfl (oC_N h 0 84 rfl) rfl
theorem o_87 {c : ByteArray} {pc : Nat} (h : oC c pc [87] = true) : decode c pc = .ok (.pop, 1) := od rfl (oC_N h 0 87 rfl) rfl
theorem o_89 {c : ByteArray} {pc : Nat} (h : oC c pc [89] = true) : decode c pc = .ok (.dup, 1) := od rfl (oC_N h 0 89 rfl) rfl
theorem o_9 {c : ByteArray} {pc : Nat} (h : oC c pc [9] = true) : decode c pc = .ok (.lconst 0, 1) := od rfl (oC_N h 0 9 rfl) rfl
theorem o_92 {c : ByteArray} {pc : Nat} (h : oC c pc [92] = true) : decode c pc = .ok (.dup2, 1) := od rfl (oC_N h 0 92 rfl) rfl
theorem o_96 {c : ByteArray} {pc : Nat} (h : oC c pc [96] = true) : decode c pc = .ok (.iadd, 1) := od rfl (oC_N h 0 96 rfl) rfl
theorem o_97 {c : ByteArray} {pc : Nat} (h : oC c pc [97] = true) : decode c pc = .ok (.ladd, 1) := od rfl (oC_N h 0 97 rfl) rfl
theorem o_188_10 {c : ByteArray} {pc : Nat} (h : oC c pc [188, 10] = true) : decode c pc = .ok (.newarray .int, 2) := od rfl (oC_N h 0 188 rfl) (Eq.trans (ru_ok (ru_1 (oC_N h 1 10 rfl))) rfl)
theorem o_188_8 {c : ByteArray} {pc : Nat} (h : oC c pc [188, 8] = true) : decode c pc = .ok (.newarray .byte, 2) := od rfl (oC_N h 0 188 rfl) (Eq.trans (ru_ok (ru_1 (oC_N h 1 8 rfl))) rfl)
theorem o_16 {c : ByteArray} {pc : Nat} (a : Nat) (v : Int) (h : (oC c pc [16, a] && decide (Reader.signed 8 a = v)) = true) : decode c pc = .ok (.bipush v, 2) := by
  obtain ⟨h, e⟩ := oV h
  rw [← e]
  exact od rfl (oC_N h 0 16 rfl) (Eq.trans (ru_ok (ru_s1 (oC_N h 1 a rfl))) rfl)
theorem o_153 {c : ByteArray} {pc : Nat} (a d : Nat) (v : Int) (h : (oC c pc [153, a, d] && decide (Reader.signed 16 (a * 256 + d) = v)) = true) : decode c pc = .ok (.ifCond .eq v, 3) := by
  obtain ⟨h, e⟩ := oV h
  rw [← e]
  exact od rfl (oC_N h 0 153 rfl) (Eq.trans (ru_ok (ru_s2 (oC_N h 1 a rfl) (oC_N h 2 d rfl))) rfl)
theorem o_154 {c : ByteArray} {pc : Nat} (a d : Nat) (v : Int) (h : (oC c pc [154, a, d] && decide (Reader.signed 16 (a * 256 + d) = v)) = true) : decode c pc = .ok (.ifCond .ne v, 3) := by
  obtain ⟨h, e⟩ := oV h
  rw [← e]
  exact od rfl (oC_N h 0 154 rfl) (Eq.trans (ru_ok (ru_s2 (oC_N h 1 a rfl) (oC_N h 2 d rfl))) rfl)
theorem o_155 {c : ByteArray} {pc : Nat} (a d : Nat) (v : Int) (h : (oC c pc [155, a, d] && decide (Reader.signed 16 (a * 256 + d) = v)) = true) : decode c pc = .ok (.ifCond .lt v, 3) := by
  obtain ⟨h, e⟩ := oV h
  rw [← e]
  exact od rfl (oC_N h 0 155 rfl) (Eq.trans (ru_ok (ru_s2 (oC_N h 1 a rfl) (oC_N h 2 d rfl))) rfl)
theorem o_156 {c : ByteArray} {pc : Nat} (a d : Nat) (v : Int) (h : (oC c pc [156, a, d] && decide (Reader.signed 16 (a * 256 + d) = v)) = true) : decode c pc = .ok (.ifCond .ge v, 3) := by
  obtain ⟨h, e⟩ := oV h
  rw [← e]
  exact od rfl (oC_N h 0 156 rfl) (Eq.trans (ru_ok (ru_s2 (oC_N h 1 a rfl) (oC_N h 2 d rfl))) rfl)
theorem o_157 {c : ByteArray} {pc : Nat} (a d : Nat) (v : Int) (h : (oC c pc [157, a, d] && decide (Reader.signed 16 (a * 256 + d) = v)) = true) : decode c pc = .ok (.ifCond .gt v, 3) := by
  obtain ⟨h, e⟩ := oV h
  rw [← e]
  exact od rfl (oC_N h 0 157 rfl) (Eq.trans (ru_ok (ru_s2 (oC_N h 1 a rfl) (oC_N h 2 d rfl))) rfl)
theorem o_158 {c : ByteArray} {pc : Nat} (a d : Nat) (v : Int) (h : (oC c pc [158, a, d] && decide (Reader.signed 16 (a * 256 + d) = v)) = true) : decode c pc = .ok (.ifCond .le v, 3) := by
  obtain ⟨h, e⟩ := oV h
  rw [← e]
  exact od rfl (oC_N h 0 158 rfl) (Eq.trans (ru_ok (ru_s2 (oC_N h 1 a rfl) (oC_N h 2 d rfl))) rfl)
theorem o_159 {c : ByteArray} {pc : Nat} (a d : Nat) (v : Int) (h : (oC c pc [159, a, d] && decide (Reader.signed 16 (a * 256 + d) = v)) = true) : decode c pc = .ok (.if_icmp .eq v, 3) := by
  obtain ⟨h, e⟩ := oV h
  rw [← e]
  exact od rfl (oC_N h 0 159 rfl) (Eq.trans (ru_ok (ru_s2 (oC_N h 1 a rfl) (oC_N h 2 d rfl))) rfl)
theorem o_160 {c : ByteArray} {pc : Nat} (a d : Nat) (v : Int) (h : (oC c pc [160, a, d] && decide (Reader.signed 16 (a * 256 + d) = v)) = true) : decode c pc = .ok (.if_icmp .ne v, 3) := by
  obtain ⟨h, e⟩ := oV h
  rw [← e]
  exact od rfl (oC_N h 0 160 rfl) (Eq.trans (ru_ok (ru_s2 (oC_N h 1 a rfl) (oC_N h 2 d rfl))) rfl)
theorem o_161 {c : ByteArray} {pc : Nat} (a d : Nat) (v : Int) (h : (oC c pc [161, a, d] && decide (Reader.signed 16 (a * 256 + d) = v)) = true) : decode c pc = .ok (.if_icmp .lt v, 3) := by
  obtain ⟨h, e⟩ := oV h
  rw [← e]
  exact od rfl (oC_N h 0 161 rfl) (Eq.trans (ru_ok (ru_s2 (oC_N h 1 a rfl) (oC_N h 2 d rfl))) rfl)
theorem o_162 {c : ByteArray} {pc : Nat} (a d : Nat) (v : Int) (h : (oC c pc [162, a, d] && decide (Reader.signed 16 (a * 256 + d) = v)) = true) : decode c pc = .ok (.if_icmp .ge v, 3) := by
  obtain ⟨h, e⟩ := oV h
  rw [← e]
  exact od rfl (oC_N h 0 162 rfl) (Eq.trans (ru_ok (ru_s2 (oC_N h 1 a rfl) (oC_N h 2 d rfl))) rfl)
theorem o_163 {c : ByteArray} {pc : Nat} (a d : Nat) (v : Int) (h : (oC c pc [163, a, d] && decide (Reader.signed 16 (a * 256 + d) = v)) = true) : decode c pc = .ok (.if_icmp .gt v, 3) := by
  obtain ⟨h, e⟩ := oV h
  rw [← e]
  exact od rfl (oC_N h 0 163 rfl) (Eq.trans (ru_ok (ru_s2 (oC_N h 1 a rfl) (oC_N h 2 d rfl))) rfl)
theorem o_164 {c : ByteArray} {pc : Nat} (a d : Nat) (v : Int) (h : (oC c pc [164, a, d] && decide (Reader.signed 16 (a * 256 + d) = v)) = true) : decode c pc = .ok (.if_icmp .le v, 3) := by
  obtain ⟨h, e⟩ := oV h
  rw [← e]
  exact od rfl (oC_N h 0 164 rfl) (Eq.trans (ru_ok (ru_s2 (oC_N h 1 a rfl) (oC_N h 2 d rfl))) rfl)
theorem o_167 {c : ByteArray} {pc : Nat} (a d : Nat) (v : Int) (h : (oC c pc [167, a, d] && decide (Reader.signed 16 (a * 256 + d) = v)) = true) : decode c pc = .ok (.goto v, 3) := by
  obtain ⟨h, e⟩ := oV h
  rw [← e]
  exact od rfl (oC_N h 0 167 rfl) (Eq.trans (ru_ok (ru_s2 (oC_N h 1 a rfl) (oC_N h 2 d rfl))) rfl)
theorem o_17 {c : ByteArray} {pc : Nat} (a d : Nat) (v : Int) (h : (oC c pc [17, a, d] && decide (Reader.signed 16 (a * 256 + d) = v)) = true) : decode c pc = .ok (.sipush v, 3) := by
  obtain ⟨h, e⟩ := oV h
  rw [← e]
  exact od rfl (oC_N h 0 17 rfl) (Eq.trans (ru_ok (ru_s2 (oC_N h 1 a rfl) (oC_N h 2 d rfl))) rfl)
theorem o_18 {c : ByteArray} {pc : Nat} (a : Nat) (h : oC c pc [18, a] = true) : decode c pc = .ok (.ldc a, 2) := od rfl (oC_N h 0 18 rfl) (Eq.trans (ru_ok (ru_1 (oC_N h 1 a rfl))) rfl)
theorem o_21 {c : ByteArray} {pc : Nat} (a : Nat) (h : oC c pc [21, a] = true) : decode c pc = .ok (.iload a, 2) := od rfl (oC_N h 0 21 rfl) (Eq.trans (ru_ok (ru_1 (oC_N h 1 a rfl))) rfl)
theorem o_25 {c : ByteArray} {pc : Nat} (a : Nat) (h : oC c pc [25, a] = true) : decode c pc = .ok (.aload a, 2) := od rfl (oC_N h 0 25 rfl) (Eq.trans (ru_ok (ru_1 (oC_N h 1 a rfl))) rfl)
theorem o_54 {c : ByteArray} {pc : Nat} (a : Nat) (h : oC c pc [54, a] = true) : decode c pc = .ok (.istore a, 2) := od rfl (oC_N h 0 54 rfl) (Eq.trans (ru_ok (ru_1 (oC_N h 1 a rfl))) rfl)
theorem o_58 {c : ByteArray} {pc : Nat} (a : Nat) (h : oC c pc [58, a] = true) : decode c pc = .ok (.astore a, 2) := od rfl (oC_N h 0 58 rfl) (Eq.trans (ru_ok (ru_1 (oC_N h 1 a rfl))) rfl)
theorem o_178 {c : ByteArray} {pc : Nat} (a d v : Nat) (h : (oC c pc [178, a, d] && decide (a * 256 + d = v)) = true) : decode c pc = .ok (.getstatic v, 3) := by
  obtain ⟨h, e⟩ := oV h
  rw [← e]
  exact od rfl (oC_N h 0 178 rfl) (Eq.trans (ru_ok (ru_2 (oC_N h 1 a rfl) (oC_N h 2 d rfl))) rfl)
theorem o_180 {c : ByteArray} {pc : Nat} (a d v : Nat) (h : (oC c pc [180, a, d] && decide (a * 256 + d = v)) = true) : decode c pc = .ok (.getfield v, 3) := by
  obtain ⟨h, e⟩ := oV h
  rw [← e]
  exact od rfl (oC_N h 0 180 rfl) (Eq.trans (ru_ok (ru_2 (oC_N h 1 a rfl) (oC_N h 2 d rfl))) rfl)
theorem o_181 {c : ByteArray} {pc : Nat} (a d v : Nat) (h : (oC c pc [181, a, d] && decide (a * 256 + d = v)) = true) : decode c pc = .ok (.putfield v, 3) := by
  obtain ⟨h, e⟩ := oV h
  rw [← e]
  exact od rfl (oC_N h 0 181 rfl) (Eq.trans (ru_ok (ru_2 (oC_N h 1 a rfl) (oC_N h 2 d rfl))) rfl)
theorem o_182 {c : ByteArray} {pc : Nat} (a d v : Nat) (h : (oC c pc [182, a, d] && decide (a * 256 + d = v)) = true) : decode c pc = .ok (.invokevirtual v, 3) := by
  obtain ⟨h, e⟩ := oV h
  rw [← e]
  exact od rfl (oC_N h 0 182 rfl) (Eq.trans (ru_ok (ru_2 (oC_N h 1 a rfl) (oC_N h 2 d rfl))) rfl)
theorem o_183 {c : ByteArray} {pc : Nat} (a d v : Nat) (h : (oC c pc [183, a, d] && decide (a * 256 + d = v)) = true) : decode c pc = .ok (.invokespecial v, 3) := by
  obtain ⟨h, e⟩ := oV h
  rw [← e]
  exact od rfl (oC_N h 0 183 rfl) (Eq.trans (ru_ok (ru_2 (oC_N h 1 a rfl) (oC_N h 2 d rfl))) rfl)
theorem o_184 {c : ByteArray} {pc : Nat} (a d v : Nat) (h : (oC c pc [184, a, d] && decide (a * 256 + d = v)) = true) : decode c pc = .ok (.invokestatic v, 3) := by
  obtain ⟨h, e⟩ := oV h
  rw [← e]
  exact od rfl (oC_N h 0 184 rfl) (Eq.trans (ru_ok (ru_2 (oC_N h 1 a rfl) (oC_N h 2 d rfl))) rfl)
theorem o_187 {c : ByteArray} {pc : Nat} (a d v : Nat) (h : (oC c pc [187, a, d] && decide (a * 256 + d = v)) = true) : decode c pc = .ok (.new v, 3) := by
  obtain ⟨h, e⟩ := oV h
  rw [← e]
  exact od rfl (oC_N h 0 187 rfl) (Eq.trans (ru_ok (ru_2 (oC_N h 1 a rfl) (oC_N h 2 d rfl))) rfl)
theorem o_189 {c : ByteArray} {pc : Nat} (a d v : Nat) (h : (oC c pc [189, a, d] && decide (a * 256 + d = v)) = true) : decode c pc = .ok (.anewarray v, 3) := by
  obtain ⟨h, e⟩ := oV h
  rw [← e]
  exact od rfl (oC_N h 0 189 rfl) (Eq.trans (ru_ok (ru_2 (oC_N h 1 a rfl) (oC_N h 2 d rfl))) rfl)
theorem o_19 {c : ByteArray} {pc : Nat} (a d v : Nat) (h : (oC c pc [19, a, d] && decide (a * 256 + d = v)) = true) : decode c pc = .ok (.ldc_w v, 3) := by
  obtain ⟨h, e⟩ := oV h
  rw [← e]
  exact od rfl (oC_N h 0 19 rfl) (Eq.trans (ru_ok (ru_2 (oC_N h 1 a rfl) (oC_N h 2 d rfl))) rfl)
theorem o_20 {c : ByteArray} {pc : Nat} (a d v : Nat) (h : (oC c pc [20, a, d] && decide (a * 256 + d = v)) = true) : decode c pc = .ok (.ldc2_w v, 3) := by
  obtain ⟨h, e⟩ := oV h
  rw [← e]
  exact od rfl (oC_N h 0 20 rfl) (Eq.trans (ru_ok (ru_2 (oC_N h 1 a rfl) (oC_N h 2 d rfl))) rfl)
theorem cq_0 : ("jdk/internal/util/Preconditions" ≠ "java/lang/invoke/MethodHandle") ∧ ("jdk/internal/util/Preconditions" ≠ "java/lang/invoke/VarHandle") := ⟨by decide +kernel, by decide +kernel⟩
theorem cq_1 : ("java/lang/String" ≠ "java/lang/invoke/MethodHandle") ∧ ("java/lang/String" ≠ "java/lang/invoke/VarHandle") := ⟨by decide +kernel, by decide +kernel⟩
theorem cq_2 : ("java/lang/StringLatin1" ≠ "java/lang/invoke/MethodHandle") ∧ ("java/lang/StringLatin1" ≠ "java/lang/invoke/VarHandle") := ⟨by decide +kernel, by decide +kernel⟩
theorem cq_3 : ("java/lang/Long" ≠ "java/lang/invoke/MethodHandle") ∧ ("java/lang/Long" ≠ "java/lang/invoke/VarHandle") := ⟨by decide +kernel, by decide +kernel⟩
theorem cq_4 : ("java/lang/Integer" ≠ "java/lang/invoke/MethodHandle") ∧ ("java/lang/Integer" ≠ "java/lang/invoke/VarHandle") := ⟨by decide +kernel, by decide +kernel⟩
theorem cq_5 : ("GingerRents$Borough" ≠ "java/lang/invoke/MethodHandle") ∧ ("GingerRents$Borough" ≠ "java/lang/invoke/VarHandle") := ⟨by decide +kernel, by decide +kernel⟩
theorem cq_6 : ("GingerRents$Rows" ≠ "java/lang/invoke/MethodHandle") ∧ ("GingerRents$Rows" ≠ "java/lang/invoke/VarHandle") := ⟨by decide +kernel, by decide +kernel⟩
theorem cq_7 : ("GingerRents$Slab" ≠ "java/lang/invoke/MethodHandle") ∧ ("GingerRents$Slab" ≠ "java/lang/invoke/VarHandle") := ⟨by decide +kernel, by decide +kernel⟩
theorem cq_8 : ("GingerRents$Kitchen" ≠ "java/lang/invoke/MethodHandle") ∧ ("GingerRents$Kitchen" ≠ "java/lang/invoke/VarHandle") := ⟨by decide +kernel, by decide +kernel⟩
theorem cq_9 : ("GingerRents$Law" ≠ "java/lang/invoke/MethodHandle") ∧ ("GingerRents$Law" ≠ "java/lang/invoke/VarHandle") := ⟨by decide +kernel, by decide +kernel⟩
theorem cq_10 : ("GingerRents$Past" ≠ "java/lang/invoke/MethodHandle") ∧ ("GingerRents$Past" ≠ "java/lang/invoke/VarHandle") := ⟨by decide +kernel, by decide +kernel⟩
theorem cq_11 : ("GingerRents$Told" ≠ "java/lang/invoke/MethodHandle") ∧ ("GingerRents$Told" ≠ "java/lang/invoke/VarHandle") := ⟨by decide +kernel, by decide +kernel⟩
theorem cq_12 : ("GingerRents$Street" ≠ "java/lang/invoke/MethodHandle") ∧ ("GingerRents$Street" ≠ "java/lang/invoke/VarHandle") := ⟨by decide +kernel, by decide +kernel⟩
theorem cq_13 : ("GingerRents$Tape" ≠ "java/lang/invoke/MethodHandle") ∧ ("GingerRents$Tape" ≠ "java/lang/invoke/VarHandle") := ⟨by decide +kernel, by decide +kernel⟩
theorem cq_14 : ("GingerRents$Season" ≠ "java/lang/invoke/MethodHandle") ∧ ("GingerRents$Season" ≠ "java/lang/invoke/VarHandle") := ⟨by decide +kernel, by decide +kernel⟩
theorem cq_15 : ("GingerRents$Reader" ≠ "java/lang/invoke/MethodHandle") ∧ ("GingerRents$Reader" ≠ "java/lang/invoke/VarHandle") := ⟨by decide +kernel, by decide +kernel⟩
theorem cq_16 : ("GingerRents" ≠ "java/lang/invoke/MethodHandle") ∧ ("GingerRents" ≠ "java/lang/invoke/VarHandle") := ⟨by decide +kernel, by decide +kernel⟩
theorem cq_17 : ("GingerRentsModel" ≠ "java/lang/invoke/MethodHandle") ∧ ("GingerRentsModel" ≠ "java/lang/invoke/VarHandle") := ⟨by decide +kernel, by decide +kernel⟩
theorem oW_g {α : Type} {D : List α} {f : α → Nat} {K r n m : Nat} {W l : List Nat} (e : ((D.drop K).take n).map f = W) (e2 : (W.drop r).take m = l) (hm : m ≤ n - r) : ((D.drop (K + r)).take m).map f = l := by
  subst e
  subst e2
  simp only [List.map_take, List.map_drop, List.drop_take, List.take_take, List.drop_drop, Nat.min_eq_left hm]
theorem oW {c : ByteArray} {K r : Nat} {W l : List Nat} (hW : oC c K W = true) (h : ((W.drop r).take l.length == l) = true) : oC c (K + r) l = true := by
  unfold oC at hW ⊢
  have e := eq_of_beq hW
  have e2 := eq_of_beq h
  have hl : l.length ≤ W.length - r := by
    have := congrArg List.length e2
    rw [List.length_take, List.length_drop] at this
    omega
  exact beq_iff_eq.mpr (oW_g e e2 hl)
theorem oWd {c : ByteArray} {K r : Nat} {W l : List Nat} {P : Prop} [Decidable P] (hW : oC c K W = true) (h : (((W.drop r).take l.length == l) && decide P) = true) : (oC c (K + r) l && decide P) = true := by
  rw [Bool.and_eq_true] at h ⊢
  exact ⟨oW hW h.1, h.2⟩
