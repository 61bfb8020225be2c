/-! WHO IS LET ALONE: both sides look through the same sets -/
theorem sub_i (x y : Int32) : (x &&& y = x) ↔ (x &&& (y ^^^ (-1)) = 0) := by
  have m1 : ∀ i, i < 32 → (-1 : Int32).toBitVec.getLsbD i = true := by decide
  have z0 : ∀ i, i < 32 → (0 : Int32).toBitVec.getLsbD i = false := by decide
  constructor
  · intro h
    apply Int32.toBitVec_inj.mp
    apply BitVec.eq_of_getLsbD_eq
    intro i hi
    have hb : (x &&& y).toBitVec.getLsbD i = x.toBitVec.getLsbD i := by rw [h]
    rw [Int32.toBitVec_and, BitVec.getLsbD_and] at hb
    rw [Int32.toBitVec_and, Int32.toBitVec_xor, BitVec.getLsbD_and, BitVec.getLsbD_xor, m1 i hi, z0 i hi]
    revert hb
    cases x.toBitVec.getLsbD i <;> cases y.toBitVec.getLsbD i <;> decide
  · intro h
    apply Int32.toBitVec_inj.mp
    apply BitVec.eq_of_getLsbD_eq
    intro i hi
    have hb : (x &&& (y ^^^ (-1))).toBitVec.getLsbD i = (0 : Int32).toBitVec.getLsbD i := by rw [h]
    rw [Int32.toBitVec_and, Int32.toBitVec_xor, BitVec.getLsbD_and, BitVec.getLsbD_xor, m1 i hi, z0 i hi] at hb
    rw [Int32.toBitVec_and, BitVec.getLsbD_and]
    revert hb
    cases x.toBitVec.getLsbD i <;> cases y.toBitVec.getLsbD i <;> decide
theorem and_n (a b : Nat) : nI a &&& nI b = nI (a &&& b) := by
  apply Int32.toBitVec_inj.mp
  apply BitVec.eq_of_getLsbD_eq
  intro i hi
  have e : ∀ n, (nI n).toBitVec = BitVec.ofNat 32 n := fun n => rfl
  rw [Int32.toBitVec_and, BitVec.getLsbD_and, e, e, e, BitVec.getLsbD_ofNat, BitVec.getLsbD_ofNat, BitVec.getLsbD_ofNat, Nat.testBit_and]
  cases decide (i < 32) <;> cases a.testBit i <;> cases b.testBit i <;> rfl
theorem gt_sub {v P : Nat} (h : P < v) (hv : v < 100000) : ¬ nI v &&& nI P = nI v := fun e => by
  rw [and_n, nI_eq (by have := @Nat.and_le_left v P; omega) (by omega)] at e
  have := @Nat.and_le_right v P
  omega
theorem bit_0 : ∀ k, k < 12 → ∀ v, v < 2 ^ k → ¬ ((nI v >>> (nI k &&& 31)) &&& 1) = 1 := by decide +kernel
theorem al_8 {h hm : PH} (p3 : Int32) (nx : ∀ k, k < 12 → mO_nextTo 5 (nI k) h = some (hm 123 k)) : ∀ (n k : Nat) (hv : PH), 12 < n + k → k ≤ 12 → (∀ x, x ≠ 97 → hv x = h x) → (∀ j, j < k → hv 97 j = hm 123 j) → ∃ g, (∀ k0, mT_mostAlone_L8 5 p3 k0 n (nI k) hv = k0 g) ∧ (∀ x, x ≠ 97 → g x = h x) ∧ ∀ j, j < 12 → g 97 j = hm 123 j := by
  intro n
  induction n with
  | zero => intro k hv h1 h2; omega
  | succ n ih =>
    intro k hv h1 h2 fx fy
    by_cases c : k = 12
    · exact ⟨hv, fun k0 => by rw [mT_mostAlone_L8, if_pos (by rw [c]; decide)], fx, fun j hj => fy j (by omega)⟩
    · have hk : k < 12 := by omega
      obtain ⟨g, a1, a2, a3⟩ := ih (k + 1) (up hv 97 k (hm 123 k)) (by omega) (by omega) (fun x hx => by rw [up_cell hx]; exact fx x hx) (fun j hj => by
        by_cases z : j = k
        · rw [z, up_same]
        · rw [up_oj z]; exact fy j (by omega))
      refine ⟨g, fun k0 => ?_, a2, a3⟩
      rw [mT_mostAlone_L8, if_neg (show ¬ (12 : Int32) ≤ nI k from nI_ge (b := 12) hk (by decide)), nx_fr (fx 14 (by decide)) (fx 15 (by decide)), nx k hk, bd_e, ck_nI hk (by decide), lt_e, show ix (nI k) = k from nI_clamp (by omega), nI_1, a1]
theorem ai_tail {g : PH} {v H : Nat} (hv : v < 2 ^ H) : ∀ (n k : Nat), 12 < n + k → H ≤ k → k ≤ 12 → mT_isAlone_L2 (nI v) g n (nI k) = some 1 := by
  intro n
  induction n with
  | zero => intro k h1 h2 h3; omega
  | succ n ih =>
    intro k h1 h2 h3
    by_cases c : k = 12
    · rw [mT_isAlone_L2, if_pos (by rw [c]; decide)]
    · have hk : k < 12 := by omega
      rw [mT_isAlone_L2, if_neg (show ¬ (12 : Int32) ≤ nI k from nI_ge (b := 12) hk (by decide)), if_neg (bit_0 k hk v (Nat.lt_of_lt_of_le hv (Nat.pow_le_pow_right (by decide) h2))), nI_1]
      exact ih (k + 1) (by omega) (by omega) (by omega)
theorem ai_go {g hm : PH} {v H : Nat} (hH : H ≤ 12) (hv : v < 2 ^ H) (e6 : hm 104 6 = nI H) (e97 : ∀ j, j < 12 → g 97 j = hm 123 j) : ∀ (n m k : Nat), 12 < n + k → H < m + k → k ≤ H → ∃ x, mT_isAlone_L2 (nI v) g n (nI k) = some x ∧ mm_areAlone_L2 (nI v) hm m (nI k) = some x := by
  intro n
  induction n with
  | zero => intro m k h1 h2 h3; omega
  | succ n ih =>
    intro m k h1 h2 h3
    cases m with
    | zero => omega
    | succ m =>
    by_cases c : k = H
    · refine ⟨1, ai_tail hv (n + 1) k (by omega) (by omega) (by omega), ?_⟩
      rw [mm_areAlone_L2, e6, if_pos (by rw [c]; exact nI_le (Nat.le_refl _) (by omega))]
    · have hk : k < H := by omega
      obtain ⟨x, a1, a2⟩ := ih m (k + 1) (by omega) (by omega) (by omega)
      rw [mT_isAlone_L2, if_neg (show ¬ (12 : Int32) ≤ nI k from nI_ge (b := 12) (by omega) (by decide)), mm_areAlone_L2, e6, if_neg (nI_ge hk (by omega))]
      unfold mm_has
      by_cases b : ((nI v >>> (nI k &&& 31)) &&& 1) = 1
      · rw [if_pos b, if_pos b, bd_e, if_neg no10, ck_nI (show k < 12 by omega) (by decide), ck_nI (show k < 24 by omega) (by decide), show ix (nI k) = k from nI_clamp (by omega), e97 k (by omega), nI_1]
        by_cases d : hm 123 k &&& nI v = 0
        · rw [if_pos d, if_pos d]
          exact ⟨x, a1, a2⟩
        · rw [if_neg d, if_neg d]
          exact ⟨0, rfl, rfl⟩
      · rw [if_neg b, if_neg b, bd_e, if_pos rfl, nI_1]
        exact ⟨x, a1, a2⟩
theorem al_tail {g : PH} {P : Nat} (c : Int32) (b : Int32) : ∀ (n v : Nat), 4096 < n + v → P < v → v ≤ 4096 → mT_mostAlone_L43 (nI P) g n b c (nI v) = some (b, g) := by
  intro n
  induction n with
  | zero => intro v h1 h2 h3; omega
  | succ n ih =>
    intro v h1 h2 h3
    by_cases z : v = 4096
    · rw [mT_mostAlone_L43, if_pos (by rw [z]; decide)]
    · rw [mT_mostAlone_L43, if_neg (show ¬ (4096 : Int32) ≤ nI v from nI_ge (b := 4096) (by omega) (by decide)), if_neg (gt_sub h2 (by omega)), nI_1]
      exact ih (v + 1) (by omega) (by omega) (by omega)
theorem on_1 (h : PH) {s : Nat} (hs : s < 4096) : mm_onesOf (nI s) h = some (nI (zpop s)) := by
  unfold mm_onesOf
  have := on_e h s FU 0 hs (by have := zct_le (fun i => s.testBit i) 12; unfold zpop FU; omega)
  rw [nI_0, Nat.zero_add] at this
  exact this
theorem al_go {g hm : PH} {P H : Nat} (hH : H ≤ 12) (hP : P < 2 ^ H) (e6 : hm 104 6 = nI H) (e97 : ∀ j, j < 12 → g 97 j = hm 123 j) (p1 : Int32) : ∀ (n m v b : Nat), 4096 < n + v → 4096 < m + v → v ≤ 4096 → b < 4096 → ∃ b', b' < 4096 ∧ mT_mostAlone_L43 (nI P) g n (nI b) (nI (zpop b)) (nI v) = some (nI b', g) ∧ ∀ k0, mm_alone_L27 p1 (nI P) hm k0 m (nI b) (nI v) = k0 (nI b') := by
  have p12 : 2 ^ H ≤ 2 ^ 12 := Nat.pow_le_pow_right (by decide) hH
  intro n
  induction n with
  | zero => intro m v b h1 h2 h3 h4; omega
  | succ n ih =>
    intro m v b h1 h2 h3 h4
    cases m with
    | zero => omega
    | succ m =>
    by_cases z : P < v
    · refine ⟨b, h4, al_tail _ _ (n + 1) v h1 z h3, fun k0 => ?_⟩
      rw [mm_alone_L27, if_pos (nI_lt z (by omega))]
    · have hv : v < 4096 := by omega
      have n1 : ¬ (4096 : Int32) ≤ nI v := nI_ge (b := 4096) hv (by decide)
      have n2 : ¬ nI P < nI v := Int32.not_lt.mpr (nI_le (by omega) (by omega))
      obtain ⟨b1, q1, q2, q3⟩ := ih m (v + 1) b (by omega) (by omega) (by omega) h4
      by_cases s : nI v &&& nI P = nI v
      · have s' := (sub_i _ _).mp s
        by_cases d : nI (zpop v) ≤ nI (zpop b)
        · refine ⟨b1, q1, ?_, fun k0 => ?_⟩
          · rw [mT_mostAlone_L43, if_neg n1, if_pos s, bc_e g hv, bd_e, if_pos d, nI_1]; exact q2
          · rw [mm_alone_L27, if_neg n2, if_pos s', on_1 hm hv, bd_e, on_1 hm h4, bd_e, if_pos d, nI_1]; exact q3 k0
        · obtain ⟨x, x1, x2⟩ := ai_go hH (show v < 2 ^ H by omega) e6 e97 FU FU 0 (by unfold FU; omega) (by unfold FU; omega) (Nat.zero_le _)
          rw [nI_0] at x1 x2
          have y1 : mT_isAlone (nI v) g = some x := x1
          have y2 : mm_areAlone (nI v) hm = some x := x2
          by_cases w : x = 0
          · refine ⟨b1, q1, ?_, fun k0 => ?_⟩
            · rw [mT_mostAlone_L43, if_neg n1, if_pos s, bc_e g hv, bd_e, if_neg d, y1, bd_e, if_pos w, nI_1]; exact q2
            · rw [mm_alone_L27, if_neg n2, if_pos s', on_1 hm hv, bd_e, on_1 hm h4, bd_e, if_neg d, y2, bd_e, if_pos w, nI_1]; exact q3 k0
          · obtain ⟨b2, r1, r2, r3⟩ := ih m (v + 1) v (by omega) (by omega) (by omega) hv
            refine ⟨b2, r1, ?_, fun k0 => ?_⟩
            · rw [mT_mostAlone_L43, if_neg n1, if_pos s, bc_e g hv, bd_e, if_neg d, y1, bd_e, if_neg w, bd_e, nI_1]; exact r2
            · rw [mm_alone_L27, if_neg n2, if_pos s', on_1 hm hv, bd_e, on_1 hm h4, bd_e, if_neg d, y2, bd_e, if_neg w, nI_1]; exact r3 k0
      · have s' : ¬ nI v &&& (nI P ^^^ (-1)) = 0 := fun y => s ((sub_i _ _).mpr y)
        refine ⟨b1, q1, ?_, fun k0 => ?_⟩
        · rw [mT_mostAlone_L43, if_neg n1, if_neg s, nI_1]; exact q2
        · rw [mm_alone_L27, if_neg n2, if_neg s', nI_1]; exact q3 k0
theorem ag_alone (k : Nat) (a1 : Int32) (h : PH) (t : TWN k h) {rX rm : Int32} {h1 h2 : PH} (e1 : mX_alone a1 h = some (rX, h1)) (e2 : mm_alone a1 h1 = some (rm, h2)) (cs : CS h h1 h2) : rX = rm := by
  have xx := cs.2.2.2.1
  obtain ⟨t1, t2, t3, ⟨H, N, M, u, s, Ls, t4, t5⟩, t6⟩ := id t
  have tt := tn_in xx t4
  have h12 : H ≤ 12 := t4.1.1.1
  have p12 : 2 ^ H ≤ 2 ^ 12 := Nat.pow_le_pow_right (by decide) h12
  unfold mX_alone at e1
  unfold mm_alone at e2
  rw [lt_e] at e2
  by_cases f : 0 ≤ a1 ∧ a1 ≤ 1
  · rw [within_y f, bd_e, if_neg no10] at e1
    rw [isIn_y f, bd_e, if_neg no10, (us_n tt.1.1).2, bd_e] at e2
    obtain ⟨g, g1, g2, g3⟩ := al_8 (nI (zN (upb h) H)) tt.1.2.2.2.1 FU 0 h (by unfold FU; omega) (by decide) (fun _ _ => rfl) (fun j hj => absurd hj (Nat.not_lt_zero j))
    obtain ⟨b, b1, b2, b3⟩ := al_go h12 (zN_lt (upb h) H) tt.1.1.2.2.1 g3 a1 FU FU 1 0 (by unfold FU; omega) (by unfold FU; omega) (by decide) (by decide)
    rw [nI_0] at g1
    have zp0 : nI (zpop 0) = 0 := by decide
    rw [nI_0, zp0, show nI 1 = (1 : Int32) from rfl] at b2
    have ma : mT_mostAlone 1 5 h = some (nI b, g) := by
      unfold mT_mostAlone
      rw [(us_n tt.1.1).1, bd_e, g1, b2]
    rw [ma, bd2_e] at e1
    rw [show mm_alone_L27 a1 (nI (zN (upb h) H)) (up h1 104 0 0) _ FU 0 1 = _ from b3 _] at e2
    try dsimp only at e2
    by_cases z : a1 = 0
    · rw [if_pos z, bc_e g b1, bd_e] at e1
      rw [if_pos z, on_1 _ b1, bd_e] at e2
      cases e1
      cases e2
      rfl
    · rw [if_neg z] at e1 e2
      cases e1
      cases e2
      rfl
  · rw [within_n f, bd_e, if_pos rfl] at e1
    rw [isIn_n f, bd_e, if_pos rfl] at e2
    cases e1
    cases e2
    rfl
