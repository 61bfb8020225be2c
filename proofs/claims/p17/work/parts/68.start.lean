/-! THE LAW FROM ITS ENTRY, over a relation that every call keeps. Printed by wip/gen/p68.py -/
theorem cLw_7 : Cond.classLink R_law 7 "GingerRents" ∈ tb := tb_in (ch_1_1 _ (List.mem_of_getElem? (i := 7) rfl)) rfl
theorem cLw_10 : Cond.classLink R_law 10 "GingerRentsModel" ∈ tb := tb_in (ch_5_14 _ (List.mem_of_getElem? (i := 7) rfl)) rfl
theorem mLw_9 : Cond.methodLink R_law 9 tX_init.1 ∈ tb := tb_in (ch_1_1 _ (List.mem_of_getElem? (i := 9) rfl)) rfl
theorem mLw_12 : Cond.methodLink R_law 12 tm_init.1 ∈ tb := tb_in (ch_5_14 _ (List.mem_of_getElem? (i := 9) rfl)) rfl
theorem known_all {s : State} {args : Array Value} (hts : ∀ w ∈ lw_tbl, w.before args s = true) : ∃ (D : va_G) (cA : Nat → ClassId), va_K D clsL [(cA 0, .int), (cA 1, .byte), (cA 2, .object "GingerRents$Borough")] s := by
  obtain ⟨c0, i0, k0⟩ := u_known (C := "GingerRents") (T := tT_0) (N := 14) (n := 14) hts ws_ok_0 (hts _ (List.mem_filter.mp in_0).1)
  obtain ⟨c1, i1, k1⟩ := u_known (C := "GingerRents$Borough") (T := tT_1) (N := 8) (n := 8) hts ws_ok_1 (hts _ (List.mem_filter.mp in_1).1)
  obtain ⟨c2, i2, k2⟩ := u_known (C := "GingerRents$Kitchen") (T := tT_2) (N := 3) (n := 3) hts ws_ok_2 (hts _ (List.mem_filter.mp in_2).1)
  obtain ⟨c3, i3, k3⟩ := u_known (C := "GingerRents$Law") (T := tT_3) (N := 5) (n := 5) hts ws_ok_3 (hts _ (List.mem_filter.mp in_3).1)
  obtain ⟨c4, i4, k4⟩ := u_known (C := "GingerRents$Past") (T := tT_4) (N := 4) (n := 4) hts ws_ok_4 (hts _ (List.mem_filter.mp in_4).1)
  obtain ⟨c5, i5, k5⟩ := u_known (C := "GingerRents$Reader") (T := tT_5) (N := 10) (n := 10) hts ws_ok_5 (hts _ (List.mem_filter.mp in_5).1)
  obtain ⟨c6, i6, k6⟩ := u_known (C := "GingerRents$Rows") (T := tT_6) (N := 4) (n := 4) hts ws_ok_6 (hts _ (List.mem_filter.mp in_6).1)
  obtain ⟨c7, i7, k7⟩ := u_known (C := "GingerRents$Season") (T := tT_7) (N := 4) (n := 4) hts ws_ok_7 (hts _ (List.mem_filter.mp in_7).1)
  obtain ⟨c8, i8, k8⟩ := u_known (C := "GingerRents$Slab") (T := tT_8) (N := 2) (n := 2) hts ws_ok_8 (hts _ (List.mem_filter.mp in_8).1)
  obtain ⟨c9, i9, k9⟩ := u_known (C := "GingerRents$Street") (T := tT_9) (N := 2) (n := 2) hts ws_ok_9 (hts _ (List.mem_filter.mp in_9).1)
  obtain ⟨c10, i10, k10⟩ := u_known (C := "GingerRents$Tape") (T := tT_10) (N := 6) (n := 6) hts ws_ok_10 (hts _ (List.mem_filter.mp in_10).1)
  obtain ⟨c11, i11, k11⟩ := u_known (C := "GingerRents$Told") (T := tT_11) (N := 14) (n := 14) hts ws_ok_11 (hts _ (List.mem_filter.mp in_11).1)
  obtain ⟨c12, i12, k12⟩ := u_known (C := "GingerRentsModel") (T := tT_12) (N := 75) (n := 75) hts ws_ok_12 (hts _ (List.mem_filter.mp in_12).1)
  obtain ⟨cI, kI, pI, f1, f2, f3⟩ := Cond.arrayClass_spec (hts _ (List.mem_filter.mp ar_i).1)
  obtain ⟨cB, kB, pB, g1, g2, g3⟩ := Cond.arrayClass_spec (hts _ (List.mem_filter.mp ar_b).1)
  obtain ⟨pR, cR, kR, r1, r2, r3, r4, r5⟩ := Cond.arrayOver_spec (hts (.arrayOver (.object "GingerRents$Borough")) (ch_1_13 _ (List.mem_of_getElem? (i := 15) rfl)))
  refine ⟨(fun k => ([c0, c1, c2, c3, c4, c5, c6, c7, c8, c9, c10, c11, c12] : List ClassId).getD k c0, fun k => ([i0, i1, i2, i3, i4, i5, i6, i7, i8, i9, i10, i11, i12] : List (Nat → Nat)).getD k i0), fun k => if k = 0 then cI else if k = 1 then cB else cR, fun k q hq => ?_, fun k q hq => ?_⟩
  · match k, hq with
    | 0, hq => cases hq; exact k0
    | 1, hq => cases hq; exact k1
    | 2, hq => cases hq; exact k2
    | 3, hq => cases hq; exact k3
    | 4, hq => cases hq; exact k4
    | 5, hq => cases hq; exact k5
    | 6, hq => cases hq; exact k6
    | 7, hq => cases hq; exact k7
    | 8, hq => cases hq; exact k8
    | 9, hq => cases hq; exact k9
    | 10, hq => cases hq; exact k10
    | 11, hq => cases hq; exact k11
    | 12, hq => cases hq; exact k12
    | k + 13, hq => simp [clsL] at hq
  · match k, hq with
    | 0, hq => cases hq; exact ⟨fun n z => ⟨fun k h => (by cases h), kI, f2, pI, f3⟩, f1⟩
    | 1, hq => cases hq; exact ⟨fun n z => ⟨fun k h => (by cases h), kB, g2, pB, g3⟩, g1⟩
    | 2, hq => cases hq; exact ⟨fun n z => ⟨fun k h => (by cases h), kR, r3, pR, r4⟩, kR, pR, r3, r4, r1, r5⟩
    | k + 3, hq => simp at hq
def tmS (i : Nat) : Term := match stL[i]? with
  | some q => .string q.1 q.2.1
  | none => .string "" 0
def st_fb (i : Nat) : Nat := [13, 119, 142, 168, 185].getD i 0
set_option maxRecDepth 40000 in
theorem st_ex_p : ∀ i, i < 5 → (flatC (Jvm.Cond.and given_1 narrow_1))[st_fb i - 4]? = some (Cond.exactly (tmS i) "java/lang/String") := by decide +kernel
theorem st_ex : ∀ i, i < 5 → Cond.exactly (tmS i) "java/lang/String" ∈ flatC (Jvm.Cond.and given_1 narrow_1) := fun i hi => List.mem_of_getElem? (st_ex_p i hi)
set_option maxRecDepth 40000 in
theorem st_co_p : ∀ i, i < 5 → (flatC (Jvm.Cond.and given_1 narrow_1))[st_fb i - 3]? = some (Cond.eq (.field (tmS i) "java/lang/String" "coder" "B") (.int 0)) := by decide +kernel
theorem st_co : ∀ i, i < 5 → Cond.eq (.field (tmS i) "java/lang/String" "coder" "B") (.int 0) ∈ flatC (Jvm.Cond.and given_1 narrow_1) := fun i hi => List.mem_of_getElem? (st_co_p i hi)
set_option maxRecDepth 40000 in
theorem st_ar_p : ∀ i, i < 5 → (flatC (Jvm.Cond.and given_1 narrow_1))[st_fb i - 2]? = some (Cond.arrayOf (.field (tmS i) "java/lang/String" "value" "[B") .byte) := by decide +kernel
theorem st_ar : ∀ i, i < 5 → Cond.arrayOf (.field (tmS i) "java/lang/String" "value" "[B") .byte ∈ flatC (Jvm.Cond.and given_1 narrow_1) := fun i hi => List.mem_of_getElem? (st_ar_p i hi)
set_option maxRecDepth 40000 in
theorem st_le_p : ∀ i, i < 5 → (flatC (Jvm.Cond.and given_1 narrow_1))[st_fb i - 1]? = some (Cond.eq (.length (.field (tmS i) "java/lang/String" "value" "[B")) (.int (Int32.ofNat (stN.getD i 0)))) := by decide +kernel
theorem st_le : ∀ i, i < 5 → Cond.eq (.length (.field (tmS i) "java/lang/String" "value" "[B")) (.int (Int32.ofNat (stN.getD i 0))) ∈ flatC (Jvm.Cond.and given_1 narrow_1) := fun i hi => List.mem_of_getElem? (st_le_p i hi)
set_option maxRecDepth 40000 in
theorem st_el_0 : ∀ j, j < 102 → (flatC (Jvm.Cond.and given_1 narrow_1))[13 + j]? = some (Cond.eq (.elem (.field (tmS 0) "java/lang/String" "value" "[B") (.int (Int32.ofNat j))) (.int ((stB.getD 0 []).getD j 0))) := by decide +kernel
set_option maxRecDepth 40000 in
theorem st_el_1 : ∀ j, j < 18 → (flatC (Jvm.Cond.and given_1 narrow_1))[119 + j]? = some (Cond.eq (.elem (.field (tmS 1) "java/lang/String" "value" "[B") (.int (Int32.ofNat j))) (.int ((stB.getD 1 []).getD j 0))) := by decide +kernel
set_option maxRecDepth 40000 in
theorem st_el_2 : ∀ j, j < 20 → (flatC (Jvm.Cond.and given_1 narrow_1))[142 + j]? = some (Cond.eq (.elem (.field (tmS 2) "java/lang/String" "value" "[B") (.int (Int32.ofNat j))) (.int ((stB.getD 2 []).getD j 0))) := by decide +kernel
set_option maxRecDepth 40000 in
theorem st_el_3 : ∀ j, j < 10 → (flatC (Jvm.Cond.and given_1 narrow_1))[168 + j]? = some (Cond.eq (.elem (.field (tmS 3) "java/lang/String" "value" "[B") (.int (Int32.ofNat j))) (.int ((stB.getD 3 []).getD j 0))) := by decide +kernel
set_option maxRecDepth 40000 in
theorem st_el_4 : ∀ j, j < 10 → (flatC (Jvm.Cond.and given_1 narrow_1))[185 + j]? = some (Cond.eq (.elem (.field (tmS 4) "java/lang/String" "value" "[B") (.int (Int32.ofNat j))) (.int ((stB.getD 4 []).getD j 0))) := by decide +kernel
theorem st_el : ∀ i, i < 5 → ∀ j, j < stN.getD i 0 → Cond.eq (.elem (.field (tmS i) "java/lang/String" "value" "[B") (.int (Int32.ofNat j))) (.int ((stB.getD i []).getD j 0)) ∈ flatC (Jvm.Cond.and given_1 narrow_1) := by
  intro i hi j hj
  match i, hi, hj with
  | 0, _, hj => exact List.mem_of_getElem? (st_el_0 j hj)
  | 1, _, hj => exact List.mem_of_getElem? (st_el_1 j hj)
  | 2, _, hj => exact List.mem_of_getElem? (st_el_2 j hj)
  | 3, _, hj => exact List.mem_of_getElem? (st_el_3 j hj)
  | 4, _, hj => exact List.mem_of_getElem? (st_el_4 j hj)
  | i + 5, h, _ => omega
def st_np (i j : Nat) : Nat := ([[0, 137, 162, 178, 195], [137, 0, 163, 179, 196], [162, 163, 0, 180, 197], [178, 179, 180, 0, 198], [195, 196, 197, 198, 0]].getD i []).getD j 0
set_option maxRecDepth 40000 in
theorem st_ne_p : ∀ i, i < 5 → ∀ j, j < 5 → i ≠ j → ((flatC (Jvm.Cond.and given_1 narrow_1))[st_np i j]? = some (Cond.not (Cond.eq (tmS i) (tmS j))) ∨ (flatC (Jvm.Cond.and given_1 narrow_1))[st_np i j]? = some (Cond.not (Cond.eq (tmS j) (tmS i)))) := by decide +kernel
theorem st_ne : ∀ i, i < 5 → ∀ j, j < 5 → i ≠ j → (Cond.not (Cond.eq (tmS i) (tmS j)) ∈ flatC (Jvm.Cond.and given_1 narrow_1) ∨ Cond.not (Cond.eq (tmS j) (tmS i)) ∈ flatC (Jvm.Cond.and given_1 narrow_1)) := fun i hi j hj n => (st_ne_p i hi j hj n).imp List.mem_of_getElem? List.mem_of_getElem?
set_option maxRecDepth 40000 in
theorem st_cs_p : (flatC (Jvm.Cond.and given_1 narrow_1))[4]? = some (Cond.eq (.static "java/lang/String" "COMPACT_STRINGS" "Z") (.int 1)) := by decide +kernel
theorem st_cs : Cond.eq (.static "java/lang/String" "COMPACT_STRINGS" "Z") (.int 1) ∈ flatC (Jvm.Cond.and given_1 narrow_1) := List.mem_of_getElem? st_cs_p
set_option maxRecDepth 40000 in
theorem st_fm_p : (flatC (Jvm.Cond.and given_1 narrow_1))[5]? = some (Cond.isRef (.static "jdk/internal/util/Preconditions" "SIOOBE_FORMATTER" "Ljava/util/function/BiFunction;")) := by decide +kernel
theorem st_fm : Cond.isRef (.static "jdk/internal/util/Preconditions" "SIOOBE_FORMATTER" "Ljava/util/function/BiFunction;") ∈ flatC (Jvm.Cond.and given_1 narrow_1) := List.mem_of_getElem? st_fm_p
theorem st_len : ∀ i, i < 5 → stN.getD i 0 < 2 ^ 31 := by decide +kernel
theorem nw_0 : Cond.methodLinkNest "GingerRents$Season" 173 ⟨"GingerRents", "within", "(III)Z"⟩ "GingerRents" ∈ lw_tbl := ch_2_12 _ (List.mem_of_getElem? (i := 11) rfl)
theorem nw_1 : Cond.methodLinkNest "GingerRents$Tape" 86 ⟨"GingerRents", "within", "(III)Z"⟩ "GingerRents" ∈ lw_tbl := ch_3_12 _ (List.mem_of_getElem? (i := 8) rfl)
theorem nw_2 : Cond.methodLinkNest "GingerRents$Reader" 112 ⟨"GingerRents", "within", "(III)Z"⟩ "GingerRents" ∈ lw_tbl := ch_4_7 _ (List.mem_of_getElem? (i := 12) rfl)
theorem nw_3 : Cond.methodLinkNest "GingerRents" 242 ⟨"GingerRents$Kitchen", "leastShare", "(LGingerRents$Rows;II)I"⟩ "GingerRents" ∈ lw_tbl := ch_5_0 _ (List.mem_of_getElem? (i := 7) rfl)
theorem nw_4 : Cond.methodLinkNest "GingerRents" 294 ⟨"GingerRents$Kitchen", "doneBy", "(LGingerRents$Rows;III)I"⟩ "GingerRents" ∈ lw_tbl := ch_5_7 _ (List.mem_of_getElem? (i := 0) rfl)
theorem nv_0 : Cond.methodLinkNest "GingerRents" 9 ⟨"GingerRents$Borough", "<init>", "()V"⟩ "GingerRents" ∈ lw_tbl := ch_1_2 _ (List.mem_of_getElem? (i := 1) rfl)
theorem nv_1 : Cond.methodLinkNest "GingerRents" 12 ⟨"GingerRents$Told", "<init>", "()V"⟩ "GingerRents" ∈ lw_tbl := ch_1_5 _ (List.mem_of_getElem? (i := 1) rfl)
theorem nv_2 : Cond.methodLinkNest "GingerRents$Past" 19 ⟨"GingerRents$Borough", "<init>", "()V"⟩ "GingerRents" ∈ lw_tbl := ch_1_14 _ (List.mem_of_getElem? (i := 0) rfl)
theorem nv_3 : Cond.methodLinkNest "GingerRents" 65 ⟨"GingerRents$Tape", "<init>", "()V"⟩ "GingerRents" ∈ lw_tbl := ch_2_0 _ (List.mem_of_getElem? (i := 1) rfl)
theorem nv_4 : Cond.methodLinkNest "GingerRents" 81 ⟨"GingerRents$Street", "<init>", "()V"⟩ "GingerRents" ∈ lw_tbl := ch_2_4 _ (List.mem_of_getElem? (i := 12) rfl)
theorem nv_5 : Cond.methodLinkNest "GingerRents" 88 ⟨"GingerRents$Kitchen", "<init>", "()V"⟩ "GingerRents" ∈ lw_tbl := ch_2_5 _ (List.mem_of_getElem? (i := 9) rfl)
theorem nv_6 : Cond.methodLinkNest "GingerRents" 95 ⟨"GingerRents$Slab", "<init>", "()V"⟩ "GingerRents" ∈ lw_tbl := ch_2_6 _ (List.mem_of_getElem? (i := 9) rfl)
theorem nsL_in : ∀ q ∈ nsL, Cond.methodLinkNest q.1 q.2.1 q.2.2 "GingerRents" ∈ lw_tbl := List.forall_mem_cons.mpr ⟨nw_0, List.forall_mem_cons.mpr ⟨nw_1, List.forall_mem_cons.mpr ⟨nw_2, List.forall_mem_cons.mpr ⟨nw_3, List.forall_mem_cons.mpr ⟨nw_4, fun _ h => absurd h List.not_mem_nil⟩⟩⟩⟩⟩
theorem nsL2_in : ∀ q ∈ nsL2, Cond.methodLinkNest q.1 q.2.1 q.2.2 "GingerRents" ∈ lw_tbl := List.forall_mem_cons.mpr ⟨nv_0, List.forall_mem_cons.mpr ⟨nv_1, List.forall_mem_cons.mpr ⟨nv_2, List.forall_mem_cons.mpr ⟨nv_3, List.forall_mem_cons.mpr ⟨nv_4, List.forall_mem_cons.mpr ⟨nv_5, List.forall_mem_cons.mpr ⟨nv_6, fun _ h => absurd h List.not_mem_nil⟩⟩⟩⟩⟩⟩⟩
theorem sr_0 : Cond.stringRef "GingerRents$Reader" 80 "rent gnaws melts when or and not wall sum almonds teeth hard icing lodgers door age rain frost quarter" ∈ lw_tbl := ch_3_11 _ (List.mem_of_getElem? (i := 5) rfl)
theorem sr_1 : Cond.stringRef "GingerRents$Reader" 82 "in rain frost thaw" ∈ lw_tbl := ch_3_11 _ (List.mem_of_getElem? (i := 6) rfl)
theorem sr_2 : Cond.stringRef "GingerRents$Reader" 84 "in ice bake wed raze" ∈ lw_tbl := ch_3_11 _ (List.mem_of_getElem? (i := 7) rfl)
theorem sr_3 : Cond.stringRef "GingerRents$Reader" 86 "house next" ∈ lw_tbl := ch_3_11 _ (List.mem_of_getElem? (i := 8) rfl)
theorem sr_4 : Cond.stringRef "GingerRents$Tape" 64 ";+-*/()<=>" ∈ lw_tbl := ch_4_1 _ (List.mem_of_getElem? (i := 11) rfl)
theorem cs_lay : Cond.laysStatic "java/lang/String" "COMPACT_STRINGS" "Z" ∈ lw_tbl := ch_3_14 _ (List.mem_of_getElem? (i := 0) rfl)
theorem cs_ini : Cond.initialized "java/lang/String" ∈ lw_tbl := ch_1_1 _ (List.mem_of_getElem? (i := 1) rfl)
theorem fm_lay : Cond.laysStatic "jdk/internal/util/Preconditions" "SIOOBE_FORMATTER" "Ljava/util/function/BiFunction;" ∈ lw_tbl := ch_4_0 _ (List.mem_of_getElem? (i := 0) rfl)
theorem fm_ini : Cond.initialized "jdk/internal/util/Preconditions" ∈ lw_tbl := ch_1_1 _ (List.mem_of_getElem? (i := 3) rfl)
theorem ao_in : Cond.arrayOver (.object "GingerRents$Borough") ∈ lw_tbl := ch_1_13 _ (List.mem_of_getElem? (i := 15) rfl)
theorem SX_first {s : State} {b : Nat} (l : Launch) (D : va_G) (cA : Nat → ClassId) (hts : ∀ w ∈ lw_tbl, w.before #[Value.ref b] s = true) (hgv : (Jvm.Cond.and given_1 narrow_1).before #[Value.ref b] s = true) : ∃ (gs gv : Nat → Nat), SX (l, s.heap.size, D, cA, gs, gv) s s.heap := by
  have hA : ∀ a : Nat, a < s.heap.size → ¬ (s.heap.size ≤ a) := fun a h => Nat.not_le.mpr h
  have hs := flat_of_before _ hgv
  obtain ⟨adK, adV, hS, hev⟩ := vk_Sof (args := #[Value.ref b]) (s := s) (N := 5) (tm := tmS) (len := stN) (byt := stB) (A := fun q => s.heap.size ≤ q) st_len (fun i hi => hs _ (st_ex i hi)) (fun i hi => hs _ (st_co i hi)) (fun i hi => hs _ (st_ar i hi)) (fun i hi => hs _ (st_le i hi)) (fun i hi j hj => hs _ (st_el i hi j hj)) (fun i j hi hj hij => (st_ne i hi j hj hij).elim (fun h => Or.inl (hs _ h)) (fun h => Or.inr (hs _ h))) hA
  obtain ⟨v, hv, hvr⟩ := Cond.isRef_spec (hs _ st_fm)
  obtain ⟨z, hz⟩ : ∃ z : Nat, (if z = 0 then Value.null else .ref (z - 1)) = v := by
    cases v with
    | null => exact ⟨0, rfl⟩
    | ref a => exact ⟨a + 1, by simp⟩
    | _ => simp [Value.isRef] at hvr
  refine ⟨adK, fun i => if i = 5 then z else adV i, fun q hq => va_Nw.of rfl (hts _ (nsL_in q hq)), fun i q hq => ?_, ?_, ?_, ?_⟩
  · have hev' := fun (hi : i < 5) => hev i hi
    match i, hq with
    | 0, hq => cases hq; exact vk_R.of (hts _ sr_0) (hev 0 (by decide))
    | 1, hq => cases hq; exact vk_R.of (hts _ sr_1) (hev 1 (by decide))
    | 2, hq => cases hq; exact vk_R.of (hts _ sr_2) (hev 2 (by decide))
    | 3, hq => cases hq; exact vk_R.of (hts _ sr_3) (hev 3 (by decide))
    | 4, hq => cases hq; exact vk_R.of (hts _ sr_4) (hev 4 (by decide))
    | i + 5, hq => simp [stL] at hq
  · refine ⟨fun i hi => ?_, hS.2⟩
    have h1 := hS.1 i hi
    have hne : ¬ i = 5 := by omega
    simp only [gV, hne, if_false]
    exact h1
  · exact va_Zof (hts _ cs_lay) (hts _ cs_ini) (va_eqt (hs _ st_cs)) hA
  · have e : fmtV (l, s.heap.size, D, cA, adK, fun i => if i = 5 then z else adV i) = v := by
      rw [← hz]; rfl
    rw [e]
    exact va_Zof (hts _ fm_lay) (hts _ fm_ini) hv hA
section WS
variable {p : Program} {l : Launch} {e : Env} {R : Room} {s : State} {m : MethodId} {args : Array Value} {below : List Frame} {meth : Method} {c : Code} {H : Heap} {locs : List Loc} {cells slots : Nat} {Q : State → Prop} {M : MM} {pc pc' i nL : Nat} {ls : Array Slot} {L : List (Option Value)} {st : List Value}
theorem w_ast {a : Nat} (hx : p.tables.exec = Jvm.exec) (hb : c.code = M.2.1) (hd : dl M pc .astore_n .astore i pc') (hL : LV ls nL L) (hn : i < nL) (hk : okS L i = true) (k : ∀ ls', LV ls' nL (L.set i (some (.ref a))) → W p l e R s m args below meth c H locs cells slots Q (F0 m pc' ls' st)) : W p l e R s m args below meth c H locs cells slots Q (F0 m pc ls (.ref a :: st)) := by
  rcases hd with ⟨k0, hd, e1, rfl⟩ | ⟨hd, rfl⟩
  · exact lv_astore_n hx hb hd e1 hL.has hn rfl (fun ls' hl' => k ls' (LV.of hl' hk))
  · exact lv_astore hx hb hd hL.has hn rfl (fun ls' hl' => k ls' (LV.of hl' hk))
theorem w_ist {x : Int32} (hx : p.tables.exec = Jvm.exec) (hb : c.code = M.2.1) (hd : dl M pc .istore_n .istore i pc') (hL : LV ls nL L) (hn : i < nL) (hk : okS L i = true) (k : ∀ ls', LV ls' nL (L.set i (some (.int x))) → W p l e R s m args below meth c H locs cells slots Q (F0 m pc' ls' st)) : W p l e R s m args below meth c H locs cells slots Q (F0 m pc ls (.int x :: st)) := by
  rcases hd with ⟨k0, hd, e1, rfl⟩ | ⟨hd, rfl⟩
  · exact lv_istore_n hx hb hd e1 hL.has hn rfl (fun ls' hl' => k ls' (LV.of hl' hk))
  · exact lv_istore hx hb hd hL.has hn rfl (fun ls' hl' => k ls' (LV.of hl' hk))
end WS
def F00 : CF := fun _ => (0, 0, [], z0, zn)
set_option maxRecDepth 40000 in
/-- the law from its entry: if every call keeps the relation, the law comes to its end with true -/
theorem whole_go {p : Program} {e : Env} {s : State} {m : MethodId} {below : List Frame} {meth : Method} {c : Code} (l : Launch) {b L : Nat} {xs : Nat → Int32} (hL : L ≤ 3072) (C0 : lw_At p s m meth c b L xs) (I : Nat → PH → Prop) (hI0 : I 0 hI) (hst : ∀ (k : Nat) (h : PH) (o a1 a2 a3 a4 a5 : Int32), I k h → 6 * k + 6 ≤ 3072 → ∃ h2, stp (o &&& 63) a1 a2 a3 a4 a5 h = some h2 ∧ I (k + 1) h2) :
    W p l e room_1 s m #[Value.ref b] below meth c s.heap [] 0 0 (lw_Z below #[Value.ref b] s) (entryFrame m ([Value.ref b] : List Value).toArray 4) := by
  obtain ⟨hx, hb, hr, hml, hown, hts, hX, hbl, hlocks, hgv⟩ := id C0
  have htb : ∀ w ∈ tb, w.before #[Value.ref b] s = true := fun w hw => hts w (List.mem_filter.mp hw).1
  obtain ⟨D, cA, hK⟩ := known_all hts
  obtain ⟨gs, gv, hSX⟩ := SX_first l D cA hts hgv
  generalize hG : ((l, s.heap.size, D, cA, gs, gv) : GG) = G at hSX
  have hGl : G.1 = l := by rw [← hG]
  have hGB : gB G = s.heap.size := by rw [← hG]
  have hGK : va_K (gD G) clsL (ty3 G) s := by rw [← hG]; exact hK
  have hN2 : NS2 s := ⟨fun q hq => va_Nw.of rfl (hts _ (nsL2_in q hq)), va_AO.of (hts _ ao_in)⟩
  subst hGl
  have hl := lv_entry ([.ref b]) (n := 4) (Nat.le_of_ble_eq_true rfl)
  rw [lg_entry_eq]
  generalize (lg_sl ([.ref b]) ++ List.replicate (4 - (lg_sl ([.ref b])).length) Slot.unset).toArray = ls at hl ⊢
  have hLV : LV ls 4 [some (.ref b), none, none, none] := ⟨hl.1, hl.2.1, fun i v hi => by
    match i, hi with
    | 0, hi => cases hi; exact hl.2.2 (0, .ref b) List.mem_cons_self
    | 1, hi => cases hi
    | 2, hi => cases hi
    | 3, hi => cases hi
    | i + 4, hi => simp at hi⟩
  have hS0 : va_S (gF G) s.heap s.heap [] := va_S.rf
  have hC0 : HC G 0 F00 s.heap := ⟨hGB.symm, fun k q h => by simp [wn] at h⟩
  refine W.newcK hx hb hown (htb _ cLw_7) (htb _ in_0) (htb _ iz_0) rfl dLaw_0.1 (Nat.le_of_ble_eq_true rfl) (Nat.le_of_ble_eq_true rfl) (hGK.1 0 _ rfl).2.1 hC0.1 fun H1 kC hkC e1 z1 o1 => ?_
  have z1' : H1.size = s.heap.size + 1 := by rw [z1, hGB]
  have o1' : ∀ q, q < s.heap.size → H1[q]? = s.heap[q]? := fun q hq => o1 q (by rw [hGB]; exact hq)
  have hC1 : HC G 1 (sF F00 0 (0, 14, df_0, z0, zn)) H1 := HC_push hC0 (e := .inr (0, df_0)) rfl z1' o1' ⟨_, rfl, (u_born ty_0 hts ws_ok_0 (hGK.1 0 _ rfl) hkC e1 ty_ok_0).to df_ok_0⟩
  have hS1 := S_push hS0 z1' o1'
  refine lv_dup hx hb dLaw_3.1 rfl ?_
  refine c_run (va_runI (n := 0) (b := gB G + 0) (As := []) (rest := [.ref (gB G + 0)]) (Ts := tb) (bytes := tX_init.2.1) (maxL := tX_init.2.2.1) ⟨hx, hb, hml, hown, htb⟩ (kx_51 G 0 F00) ⟨callB_of 0 htb (wsM_good okiX_init.1) rfl rfl rfl (htb _ okiX_init.1.2.1) (htb _ mLw_9) okiX_init.1.2.2.1 ⟨Nat.le_of_ble_eq_true rfl, Nat.le_of_ble_eq_true rfl⟩, rfl, htb _ okiX_init.2.2.1⟩ ⟨c_blind, fun U hU hW => ⟨rfl, by rw [hU]; exact hC1, va_K.moved hW.alike hGK, hN2.warm hW⟩⟩ rfl rfl hLV.1 rfl (lv_room (Nat.le_of_ble_eq_true rfl)) dLaw_4.1 ⟨Nat.le_of_ble_eq_true rfl, Nat.le_of_ble_eq_true rfl⟩) hS1 (fun H2 locs2 hC2 hS2 => ?_)
  refine w_ast (M := tLaw) (i := 1) hx hb dLaw_7 hLV (by decide) rfl (fun ls hLV => ?_)
  refine W.newcK hx hb hown (htb _ cLw_10) (htb _ in_12) (htb _ iz_12) rfl dLaw_8.1 (Nat.le_of_ble_eq_true rfl) (Nat.le_of_ble_eq_true rfl) (hGK.1 12 _ rfl).2.1 hC2.1 fun H3 kC hkC e3 z3 o3 => ?_
  have z3' : H3.size = H2.size + 1 := by rw [z3, hC2.1]
  have o3' : ∀ q, q < H2.size → H3[q]? = H2[q]? := fun q hq => o3 q (by rw [← hC2.1]; exact hq)
  have hC3 : HC G 105 (sF (pf_51 F00) 104 (12, 75, df_12, z0, zn)) H3 := HC_push hC2 (e := .inr (12, df_12)) rfl z3' o3' ⟨_, rfl, (u_born ty_12 hts ws_ok_12 (hGK.1 12 _ rfl) hkC e3 ty_ok_12).to df_ok_12⟩
  have hS3 := S_push hS2 z3' o3'
  refine lv_dup hx hb dLaw_11.1 rfl ?_
  refine c_run (va_runI (n := 0) (b := gB G + 104) (As := []) (rest := [.ref (gB G + 104)]) (Ts := tb) (bytes := tm_init.2.1) (maxL := tm_init.2.2.1) ⟨hx, hb, hml, hown, htb⟩ (kx_52 G 0 (pf_51 F00)) ⟨callB_of 0 htb (wsM_good okim_init.1) rfl rfl rfl (htb _ okim_init.1.2.1) (htb _ mLw_12) okim_init.1.2.2.1 ⟨Nat.le_of_ble_eq_true rfl, Nat.le_of_ble_eq_true rfl⟩, rfl, htb _ okim_init.2.2.1⟩ ⟨c_blind, fun U hU hW => ⟨rfl, by rw [hU]; exact hC3, va_K.moved hW.alike hGK, hN2.warm hW⟩⟩ rfl rfl hLV.1 rfl (lv_room (Nat.le_of_ble_eq_true rfl)) dLaw_12.1 ⟨Nat.le_of_ble_eq_true rfl, Nat.le_of_ble_eq_true rfl⟩) hS3 (fun H4 locs4 hC4 hS4 => ?_)
  refine w_ast (M := tLaw) (i := 2) hx hb dLaw_15 hLV (by decide) rfl (fun ls hLV => ?_)
  refine lv_iconst (v := 0) hx hb dLaw_16.1 rfl ?_
  refine w_ist (M := tLaw) (i := 3) hx hb dLaw_17 hLV (by decide) rfl (fun ls hLV => ?_)
  refine W.widen (k := 600000) (n := 7302250) (Nat.le_of_ble_eq_true rfl) (Nat.le_of_ble_eq_true rfl) ?_
  have hloop := l_loop (G := G) (b := b) (xs := xs) (Nat.le_trans hL (Nat.le_of_ble_eq_true rfl)) I (fun k h hk hlt => hst k h _ _ _ _ _ _ hk (by omega)) (L + 1) 0 hI (by omega) (by omega) hI0
  exact hloop p e s m below meth c ⟨hx, hb, hr, hml, hown, htb, hX, hbl, hlocks, hGK, hSX, hGB⟩ H4 locs4 ls (HR_first hC4) hS4 hLV
