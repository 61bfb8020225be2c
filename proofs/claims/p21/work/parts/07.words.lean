/-! SWITCHES; the classes' names; what may be stored where. Printed by wip/gen/p07.py -/
def lsw (pc : Nat) (dflt : Int) : List (Int × Int) → List (Int32 × Nat) → Nat → Bool
  | [], [], df => decide ((pc : Int) + dflt = (df : Int))
  | (a, o) :: ps, (c, t) :: cs, df => decide (c.toInt = a) && decide ((pc : Int) + o = (t : Int)) && lsw pc dflt ps cs df
  | _, _, _ => false
theorem lsw_s {pc : Nat} {dflt : Int} {x : Int32} {df : Nat} : ∀ (ps : List (Int × Int)) (cs : List (Int32 × Nat)), lsw pc dflt ps cs df = true → (pc : Int) + Op.lookupswitch.offset ps dflt x.toInt = (sel cs df x : Int)
  | [], [], h => by
    have h := of_decide_eq_true h
    simpa [Op.lookupswitch.offset, sel] using h
  | (a, o) :: ps, (c, t) :: cs, h => by
    simp only [lsw, Bool.and_eq_true, decide_eq_true_eq] at h
    rw [Op.lookupswitch.offset_cons]
    unfold sel
    by_cases hx : x = c
    · rw [if_pos hx, if_pos (by rw [hx]; first | exact h.1.1 | exact h.1.1.symm)]
      exact h.1.2
    · rw [if_neg hx, if_neg (fun q => hx (Int32.toInt_inj.mp (by rw [h.1.1]; first | exact q | exact q.symm)))]
      exact lsw_s ps cs h.2
  | [], _ :: _, h => by simp [lsw] at h
  | _ :: _, [], h => by simp [lsw] at h
def tsw (pc : Nat) : Int → List Int → List (Int32 × Nat) → Bool
  | _, [], [] => true
  | lo, o :: os, (c, t) :: cs => decide (c.toInt = lo) && decide ((pc : Int) + o = (t : Int)) && tsw pc (lo + 1) os cs
  | _, _, _ => false
theorem tsw_out {pc : Nat} {x : Int32} {df : Nat} : ∀ (os : List Int) (cs : List (Int32 × Nat)) (lo : Int), tsw pc lo os cs = true → (x.toInt < lo ∨ lo + os.length ≤ x.toInt) → sel cs df x = df
  | [], [], lo, h, hx => rfl
  | o :: os, (c, t) :: cs, lo, h, hx => by
    simp only [tsw, Bool.and_eq_true, decide_eq_true_eq] at h
    simp only [List.length_cons] at hx
    have hne : ¬ x = c := fun q => by rw [q, h.1.1] at hx; omega
    rw [sel, if_neg hne]
    exact tsw_out os cs (lo + 1) h.2 (by omega)
  | [], _ :: _, lo, h, hx => by simp [tsw] at h
  | _ :: _, [], lo, h, hx => by simp [tsw] at h
theorem tsw_in {pc : Nat} {x : Int32} {df : Nat} : ∀ (os : List Int) (cs : List (Int32 × Nat)) (lo : Int), tsw pc lo os cs = true → ¬ x.toInt < lo → x.toInt < lo + os.length → ∃ o, os[(x.toInt - lo).toNat]? = some o ∧ (pc : Int) + o = (sel cs df x : Int)
  | [], cs, lo, h, h1, h2 => by simp at h2; omega
  | o :: os, (c, t) :: cs, lo, h, h1, h2 => by
    simp only [tsw, Bool.and_eq_true, decide_eq_true_eq] at h
    by_cases hx : x = c
    · refine ⟨o, ?_, ?_⟩
      · rw [hx, h.1.1, Int.sub_self]; rfl
      · rw [sel, if_pos hx]; exact h.1.2
    · have hne : ¬ x.toInt = lo := fun q => hx (Int32.toInt_inj.mp (by rw [h.1.1]; exact q))
      simp only [List.length_cons] at h2
      obtain ⟨o2, e1, e2⟩ := tsw_in (x := x) (df := df) os cs (lo + 1) h.2 (by omega) (by omega)
      refine ⟨o2, ?_, ?_⟩
      · have : (x.toInt - lo).toNat = (x.toInt - (lo + 1)).toNat + 1 := by omega
        rw [this, List.getElem?_cons_succ]; exact e1
      · rw [sel, if_neg hx]; exact e2
  | _ :: _, [], lo, h, h1, h2 => by simp [tsw] at h
def dsw (M : MM) (pc : Nat) (cs : List (Int32 × Nat)) (df : Nat) : Prop :=
  (∃ (dflt : Int) (ps : Array (Int × Int)) (len : Nat), decode M.2.1 pc = .ok (.lookupswitch dflt ps, len) ∧ (ps.toList.zip (ps.toList.drop 1)).all (fun (a, next) => a.1 < next.1) = true ∧ lsw pc dflt ps.toList cs df = true) ∨
  (∃ (dflt lo hi : Int) (offs : Array Int) (len : Nat), decode M.2.1 pc = .ok (.tableswitch dflt lo hi offs, len) ∧ (pc : Int) + dflt = (df : Int) ∧ hi + 1 = lo + offs.toList.length ∧ tsw pc lo offs.toList cs = true)
theorem dsw_l {M : MM} {pc : Nat} {cs : List (Int32 × Nat)} {df : Nat} (dflt : Int) (ps : Array (Int × Int)) (len : Nat) (h : decode M.2.1 pc = .ok (.lookupswitch dflt ps, len)) (h1 : (ps.toList.zip (ps.toList.drop 1)).all (fun (a, next) => a.1 < next.1) = true) (h2 : lsw pc dflt ps.toList cs df = true) : dsw M pc cs df := Or.inl ⟨dflt, ps, len, h, h1, h2⟩
theorem dsw_t {M : MM} {pc : Nat} {cs : List (Int32 × Nat)} {df : Nat} (dflt lo hi : Int) (offs : Array Int) (len : Nat) (h : decode M.2.1 pc = .ok (.tableswitch dflt lo hi offs, len)) (h1 : (pc : Int) + dflt = (df : Int)) (h2 : hi + 1 = lo + offs.toList.length) (h3 : tsw pc lo offs.toList cs = true) : dsw M pc cs df := Or.inr ⟨dflt, lo, hi, offs, len, h, h1, h2, h3⟩
theorem v_sw {G : GG} {M : MM} {d pc : Nat} {L : List (Option Value)} {st : List Value} {h h' : PH} {v : Option Value} {cs : List (Int32 × Nat)} {df : Nat} {x : Int32} (hd : dsw M pc cs df) (k : Vx G M d (sel cs df x) L st h v h') : Vx G M d pc L (.int x :: st) h v h' := by
  intro p e s m args below meth c C H locs ls hR hS hL
  have kk := k p e s m args below meth c C H locs ls hR hS hL
  rcases hd with ⟨dflt, ps, len, hd, h1, h2⟩ | ⟨dflt, lo, hi, offs, len, hd, h1, h2, h3⟩
  · exact lv_lookup C.1 C.2.1 hd h1 rfl (lsw_s _ _ h2) kk
  · by_cases hx : x.toInt < lo ∨ hi < x.toInt
    · have he : sel cs df x = df := tsw_out offs.toList cs lo h3 (by rcases hx with q | q; exact Or.inl q; exact Or.inr (by omega))
      rw [he] at kk
      exact lv_tableOut C.1 C.2.1 hd hx h1 kk
    · have g1 : ¬ x.toInt < lo := fun q => hx (Or.inl q)
      have g2 : ¬ hi < x.toInt := fun q => hx (Or.inr q)
      obtain ⟨o, e1, e2⟩ := tsw_in (df := df) offs.toList cs lo h3 g1 (by omega)
      exact lv_tableIn C.1 C.2.1 hd g1 g2 (by rw [← Array.getElem?_toList]; exact e1) e2 kk
theorem in_s : ∀ w ∈ k2_sels lw_privs, w ∈ lw_tbl := fun w h => List.mem_append_left _ h
theorem in_t1 : ∀ w ∈ tables_1_1, w ∈ lw_tbl := fun w h => List.mem_append_right _ (List.mem_append_left _ h)
theorem in_t2 : ∀ w ∈ tables_1_2, w ∈ lw_tbl := fun w h => List.mem_append_right _ (List.mem_append_right _ (List.mem_append_left _ h))
theorem in_t3 : ∀ w ∈ tables_1_3, w ∈ lw_tbl := fun w h => List.mem_append_right _ (List.mem_append_right _ (List.mem_append_right _ (List.mem_append_left _ h)))
theorem in_t4 : ∀ w ∈ tables_1_4, w ∈ lw_tbl := fun w h => List.mem_append_right _ (List.mem_append_right _ (List.mem_append_right _ (List.mem_append_right _ (List.mem_append_left _ h))))
theorem in_t5 : ∀ w ∈ tables_1_5, w ∈ lw_tbl := fun w h => List.mem_append_right _ (List.mem_append_right _ (List.mem_append_right _ (List.mem_append_right _ (List.mem_append_right _ (List.mem_append_left _ h)))))
theorem in_t6 : ∀ w ∈ tables_1_6, w ∈ lw_tbl := fun w h => List.mem_append_right _ (List.mem_append_right _ (List.mem_append_right _ (List.mem_append_right _ (List.mem_append_right _ (List.mem_append_right _ (List.mem_append_left _ h))))))
theorem in_t7 : ∀ w ∈ tables_1_7, w ∈ lw_tbl := fun w h => List.mem_append_right _ (List.mem_append_right _ (List.mem_append_right _ (List.mem_append_right _ (List.mem_append_right _ (List.mem_append_right _ (List.mem_append_right _ (List.mem_append_left _ h)))))))
theorem in_t8 : ∀ w ∈ tables_1_8, w ∈ lw_tbl := fun w h => List.mem_append_right _ (List.mem_append_right _ (List.mem_append_right _ (List.mem_append_right _ (List.mem_append_right _ (List.mem_append_right _ (List.mem_append_right _ (List.mem_append_right _ (List.mem_append_left _ h))))))))
theorem in_t9 : ∀ w ∈ tables_1_9, w ∈ lw_tbl := fun w h => List.mem_append_right _ (List.mem_append_right _ (List.mem_append_right _ (List.mem_append_right _ (List.mem_append_right _ (List.mem_append_right _ (List.mem_append_right _ (List.mem_append_right _ (List.mem_append_right _ (h)))))))))
theorem hc_0 : (clsL[0]?.map fun r => r.1) = some "GingerRents" := rfl
theorem hc_1 : (clsL[1]?.map fun r => r.1) = some "GingerRents$Borough" := rfl
theorem hc_2 : (clsL[2]?.map fun r => r.1) = some "GingerRents$Kitchen" := rfl
theorem hc_3 : (clsL[3]?.map fun r => r.1) = some "GingerRents$Law" := rfl
theorem hc_4 : (clsL[4]?.map fun r => r.1) = some "GingerRents$Past" := rfl
theorem hc_5 : (clsL[5]?.map fun r => r.1) = some "GingerRents$Reader" := rfl
theorem hc_6 : (clsL[6]?.map fun r => r.1) = some "GingerRents$Rows" := rfl
theorem hc_7 : (clsL[7]?.map fun r => r.1) = some "GingerRents$Season" := rfl
theorem hc_8 : (clsL[8]?.map fun r => r.1) = some "GingerRents$Slab" := rfl
theorem hc_9 : (clsL[9]?.map fun r => r.1) = some "GingerRents$Street" := rfl
theorem hc_10 : (clsL[10]?.map fun r => r.1) = some "GingerRents$Tape" := rfl
theorem hc_11 : (clsL[11]?.map fun r => r.1) = some "GingerRents$Told" := rfl
theorem hc_12 : (clsL[12]?.map fun r => r.1) = some "GingerRentsModel" := rfl
theorem ft_0_13 : fty 0 13 .boolean := ⟨_, _, _, rfl, rfl, by decide +kernel⟩
theorem ft_1_1 : fty 1 1 .int := ⟨_, _, _, rfl, rfl, by decide +kernel⟩
theorem ft_1_2 : fty 1 2 .int := ⟨_, _, _, rfl, rfl, by decide +kernel⟩
theorem ft_1_3 : fty 1 3 .int := ⟨_, _, _, rfl, rfl, by decide +kernel⟩
theorem ft_1_4 : fty 1 4 .int := ⟨_, _, _, rfl, rfl, by decide +kernel⟩
theorem ft_1_5 : fty 1 5 .int := ⟨_, _, _, rfl, rfl, by decide +kernel⟩
theorem ft_1_6 : fty 1 6 .int := ⟨_, _, _, rfl, rfl, by decide +kernel⟩
theorem ft_1_7 : fty 1 7 .int := ⟨_, _, _, rfl, rfl, by decide +kernel⟩
theorem ft_3_4 : fty 3 4 .int := ⟨_, _, _, rfl, rfl, by decide +kernel⟩
theorem ft_4_2 : fty 4 2 .int := ⟨_, _, _, rfl, rfl, by decide +kernel⟩
theorem ft_4_3 : fty 4 3 .int := ⟨_, _, _, rfl, rfl, by decide +kernel⟩
theorem ft_5_2 : fty 5 2 .int := ⟨_, _, _, rfl, rfl, by decide +kernel⟩
theorem ft_5_3 : fty 5 3 .int := ⟨_, _, _, rfl, rfl, by decide +kernel⟩
theorem ft_5_5 : fty 5 5 .int := ⟨_, _, _, rfl, rfl, by decide +kernel⟩
theorem ft_5_6 : fty 5 6 .int := ⟨_, _, _, rfl, rfl, by decide +kernel⟩
theorem ft_5_7 : fty 5 7 .int := ⟨_, _, _, rfl, rfl, by decide +kernel⟩
theorem ft_5_8 : fty 5 8 .int := ⟨_, _, _, rfl, rfl, by decide +kernel⟩
theorem ft_5_9 : fty 5 9 .int := ⟨_, _, _, rfl, rfl, by decide +kernel⟩
theorem ft_6_3 : fty 6 3 .int := ⟨_, _, _, rfl, rfl, by decide +kernel⟩
theorem ft_8_1 : fty 8 1 .boolean := ⟨_, _, _, rfl, rfl, by decide +kernel⟩
theorem ft_10_4 : fty 10 4 .int := ⟨_, _, _, rfl, rfl, by decide +kernel⟩
theorem ft_10_5 : fty 10 5 .int := ⟨_, _, _, rfl, rfl, by decide +kernel⟩
theorem ft_12_0 : fty 12 0 .int := ⟨_, _, _, rfl, rfl, by decide +kernel⟩
theorem ft_12_3 : fty 12 3 .int := ⟨_, _, _, rfl, rfl, by decide +kernel⟩
theorem ft_12_5 : fty 12 5 .boolean := ⟨_, _, _, rfl, rfl, by decide +kernel⟩
theorem ft_12_6 : fty 12 6 .int := ⟨_, _, _, rfl, rfl, by decide +kernel⟩
theorem ft_12_11 : fty 12 11 .int := ⟨_, _, _, rfl, rfl, by decide +kernel⟩
theorem ft_12_12 : fty 12 12 .int := ⟨_, _, _, rfl, rfl, by decide +kernel⟩
theorem ft_12_13 : fty 12 13 .int := ⟨_, _, _, rfl, rfl, by decide +kernel⟩
theorem ft_12_14 : fty 12 14 .int := ⟨_, _, _, rfl, rfl, by decide +kernel⟩
theorem ft_12_15 : fty 12 15 .int := ⟨_, _, _, rfl, rfl, by decide +kernel⟩
theorem ft_12_24 : fty 12 24 .int := ⟨_, _, _, rfl, rfl, by decide +kernel⟩
theorem ft_12_25 : fty 12 25 .int := ⟨_, _, _, rfl, rfl, by decide +kernel⟩
theorem ft_12_26 : fty 12 26 .int := ⟨_, _, _, rfl, rfl, by decide +kernel⟩
theorem ft_12_28 : fty 12 28 .int := ⟨_, _, _, rfl, rfl, by decide +kernel⟩
theorem ft_12_29 : fty 12 29 .int := ⟨_, _, _, rfl, rfl, by decide +kernel⟩
theorem ft_12_30 : fty 12 30 .int := ⟨_, _, _, rfl, rfl, by decide +kernel⟩
theorem ft_12_31 : fty 12 31 .int := ⟨_, _, _, rfl, rfl, by decide +kernel⟩
theorem ft_12_32 : fty 12 32 .int := ⟨_, _, _, rfl, rfl, by decide +kernel⟩
theorem ft_12_33 : fty 12 33 .int := ⟨_, _, _, rfl, rfl, by decide +kernel⟩
theorem ft_12_35 : fty 12 35 .int := ⟨_, _, _, rfl, rfl, by decide +kernel⟩
theorem ft_12_37 : fty 12 37 .int := ⟨_, _, _, rfl, rfl, by decide +kernel⟩
theorem ft_12_42 : fty 12 42 .int := ⟨_, _, _, rfl, rfl, by decide +kernel⟩
theorem ft_12_45 : fty 12 45 .int := ⟨_, _, _, rfl, rfl, by decide +kernel⟩
theorem ft_12_49 : fty 12 49 .int := ⟨_, _, _, rfl, rfl, by decide +kernel⟩
theorem ft_12_51 : fty 12 51 .int := ⟨_, _, _, rfl, rfl, by decide +kernel⟩
theorem ft_12_54 : fty 12 54 .int := ⟨_, _, _, rfl, rfl, by decide +kernel⟩
theorem ft_12_57 : fty 12 57 .int := ⟨_, _, _, rfl, rfl, by decide +kernel⟩
theorem ft_12_62 : fty 12 62 .int := ⟨_, _, _, rfl, rfl, by decide +kernel⟩
theorem ft_12_66 : fty 12 66 .int := ⟨_, _, _, rfl, rfl, by decide +kernel⟩
theorem ft_12_71 : fty 12 71 .boolean := ⟨_, _, _, rfl, rfl, by decide +kernel⟩
theorem ft_12_72 : fty 12 72 .boolean := ⟨_, _, _, rfl, rfl, by decide +kernel⟩
theorem ft_12_73 : fty 12 73 .int := ⟨_, _, _, rfl, rfl, by decide +kernel⟩
