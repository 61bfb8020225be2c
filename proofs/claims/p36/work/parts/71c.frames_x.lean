theorem fpA_keepToken (p1 : Int32) (p2 : Int32) (p3 : Int32) (h0 : PH) {r : PH} (hm : mA_keepToken p1 p2 p3 h0 = some r) : Fr (FPdA_keepToken p1 p2 p3) r h0 := by
  generalize hSe : FPdA_keepToken p1 p2 p3 = S
  have hS : ∀ b, b ∈ ([87, 88, 89, 85] : List Nat) → b ∈ S := by rw [← hSe]; exact fun b hb => hb
  generalize hge : h0 = g at ⊢
  have f : Fr S h0 g := by rw [hge]; exact fun _ _ => rfl
  unfold mA_keepToken at hm
  rcases ite_or hm with ⟨hc, hm⟩ | ⟨hc, hm⟩
  · cases hm
    exact f
  · obtain ⟨-, hm⟩ := ck_s hm
    obtain ⟨h1, e1, hm⟩ := lt_some hm
    replace f : Fr S h1 g := by rw [e1]; exact up_fr f (hS _ (by decide))
    obtain ⟨-, hm⟩ := ck_s hm
    obtain ⟨h2, e1, hm⟩ := lt_some hm
    replace f : Fr S h2 g := by rw [e1]; exact up_fr f (hS _ (by decide))
    obtain ⟨-, hm⟩ := ck_s hm
    obtain ⟨h3, e1, hm⟩ := lt_some hm
    replace f : Fr S h3 g := by rw [e1]; exact up_fr f (hS _ (by decide))
    obtain ⟨h4, e1, hm⟩ := lt_some hm
    replace f : Fr S h4 g := by rw [e1]; exact up_fr f (hS _ (by decide))
    cases hm
    exact f
def FPdA_scan (s1 : Nat) : List Nat := [85, 87, 88, 89]
theorem wf_A_scan_L9 (s1 : Nat) (k0 : PH → Option (PH)) (S : List Nat) (g : PH) (r : PH) (hS : ∀ b, b ∈ ([87, 88, 89, 85] : List Nat) → b ∈ S) (kk0 : ∀ (y0 : PH), k0 y0 = some r → Fr S y0 g → Fr S r g) : ∀ (n : Nat) (v2 : Int32) (v3 : Int32) (hv : PH), mA_scan_L9 s1 k0 n v2 v3 hv = some r → Fr S hv g → Fr S r g := by
  intro n
  induction n with
  | zero => intro v2 v3 hv hm; cases hm
  | succ n ih =>
    intro v2 v3 hv hm f
    unfold mA_scan_L9 at hm
    rcases ite_or hm with ⟨hc, hm⟩ | ⟨hc, hm⟩
    · exact kk0 _ hm f
    · rcases ite_or hm with ⟨hc, hm⟩ | ⟨hc, hm⟩
      · exact kk0 _ hm f
      · obtain ⟨r2, -, hm⟩ := bd_s hm
        obtain ⟨r3, -, hm⟩ := bd_s hm
        obtain ⟨r4, -, hm⟩ := bd_s hm
        rcases ite_or hm with ⟨hc, hm⟩ | ⟨hc, hm⟩
        · obtain ⟨r5, -, hm⟩ := bd_s hm
          obtain ⟨r6, -, hm⟩ := bd_s hm
          obtain ⟨h7, he, hm⟩ := bd_s hm
          replace f := fr_tr f (fpA_keepToken _ _ _ _ he) (fun b hb => hS b ((by decide : ∀ b, b ∈ ([87, 88, 89, 85] : List Nat) → b ∈ ([87, 88, 89, 85] : List Nat)) b hb))
          exact ih _ _ _ hm f
        · exact ih _ _ _ hm f
theorem fpA_scan (s1 : Nat) (h0 : PH) {r : PH} (hm : mA_scan s1 h0 = some r) : Fr (FPdA_scan s1) r h0 := by
  generalize hSe : FPdA_scan s1 = S
  have hS : ∀ b, b ∈ ([85, 87, 88, 89] : List Nat) → b ∈ S := by rw [← hSe]; exact fun b hb => hb
  generalize hge : h0 = g at ⊢
  have f : Fr S h0 g := by rw [hge]; exact fun _ _ => rfl
  unfold mA_scan at hm
  obtain ⟨h1, e1, hm⟩ := lt_some hm
  replace f : Fr S h1 g := by rw [e1]; exact up_fr f (hS _ (by decide))
  refine wf_A_scan_L9 _ _ S g _ (fun b hb => hS b ((by decide : ∀ b, b ∈ ([87, 88, 89, 85] : List Nat) → b ∈ ([85, 87, 88, 89] : List Nat)) b hb)) (fun h8 hm f => ?_) _ _ _ _ hm f
  · obtain ⟨h9, he, hm⟩ := bd_s hm
    replace f := fr_tr f (fpA_keepToken _ _ _ _ he) (fun b hb => hS b ((by decide : ∀ b, b ∈ ([87, 88, 89, 85] : List Nat) → b ∈ ([85, 87, 88, 89] : List Nat)) b hb))
    cases hm
    exact f
def FPdS_weather (a0 : Nat) : List Nat := [(sT a0)]
theorem wf_S_weather_L10 (a0 : Nat) (S : List Nat) (g : PH) (r : PH) (hS : ∀ b, b ∈ ([(sT a0)] : List Nat) → b ∈ S) : ∀ (n : Nat) (v2 : Int32) (hv : PH), mS_weather_L10 a0 n v2 hv = some r → Fr S hv g → Fr S r g := by
  intro n
  induction n with
  | zero => intro v2 hv hm; cases hm
  | succ n ih =>
    intro v2 hv hm f
    unfold mS_weather_L10 at hm
    rcases ite_or hm with ⟨hc, hm⟩ | ⟨hc, hm⟩
    · cases hm
      exact f
    · obtain ⟨r1, -, hm⟩ := bd_s hm
      rcases ite_or hm with ⟨hc, hm⟩ | ⟨hc, hm⟩
      · obtain ⟨r2, -, hm⟩ := bd_s hm
        rcases ite_or hm with ⟨hc, hm⟩ | ⟨hc, hm⟩
        · obtain ⟨r3, -, hm⟩ := bd_s hm
          obtain ⟨h4, e1, hm⟩ := lt_some hm
          replace f : Fr S h4 g := by rw [e1]; exact up_fr f (hS _ (by first | simp; done | (simp only [List.mem_cons, List.not_mem_nil, or_false]; omega)))
          exact ih _ _ hm f
        · rcases ite_or hm with ⟨hc, hm⟩ | ⟨hc, hm⟩
          · obtain ⟨h5, e1, hm⟩ := lt_some hm
            replace f : Fr S h5 g := by rw [e1]; exact up_fr f (hS _ (by first | simp; done | (simp only [List.mem_cons, List.not_mem_nil, or_false]; omega)))
            exact ih _ _ hm f
          · obtain ⟨h6, e1, hm⟩ := lt_some hm
            replace f : Fr S h6 g := by rw [e1]; exact up_fr f (hS _ (by first | simp; done | (simp only [List.mem_cons, List.not_mem_nil, or_false]; omega)))
            exact ih _ _ hm f
      · exact ih _ _ hm f
theorem fpS_weather (a0 : Nat) (h0 : PH) {r : PH} (hm : mS_weather a0 h0 = some r) : Fr (FPdS_weather a0) r h0 := by
  generalize hSe : FPdS_weather a0 = S
  have hS : ∀ b, b ∈ ([(sT a0)] : List Nat) → b ∈ S := by rw [← hSe]; exact fun b hb => hb
  generalize hge : h0 = g at ⊢
  have f : Fr S h0 g := by rw [hge]; exact fun _ _ => rfl
  unfold mS_weather at hm
  exact wf_S_weather_L10 _ S g _ (fun b hb => hS b (by first | exact absurd hb List.not_mem_nil | (simp only [List.mem_cons, List.not_mem_nil, or_false] at hb ⊢; omega))) _ _ _ hm f
def FPdS_note (a0 : Nat) (p1 : Int32) (p2 : Int32) (p3 : Int32) : List Nat := [17, 16]
theorem fpS_note (a0 : Nat) (p1 : Int32) (p2 : Int32) (p3 : Int32) (h0 : PH) {r : PH} (hm : mS_note a0 p1 p2 p3 h0 = some r) : Fr (FPdS_note a0 p1 p2 p3) r h0 := by
  generalize hSe : FPdS_note a0 p1 p2 p3 = S
  have hS : ∀ b, b ∈ ([17, 16] : List Nat) → b ∈ S := by rw [← hSe]; exact fun b hb => hb
  generalize hge : h0 = g at ⊢
  have f : Fr S h0 g := by rw [hge]; exact fun _ _ => rfl
  unfold mS_note at hm
  rcases ite_or hm with ⟨hc, hm⟩ | ⟨hc, hm⟩
  · cases hm
    exact f
  · obtain ⟨r1, h2, he, hm⟩ := bd2_s hm
    replace f := fr_tr f (fpR_add _ _ _ _ _ _ _ he) (fun b hb => hS b (by simp only [FPdR_add, List.mem_cons, List.not_mem_nil, or_false] at hb ⊢; omega))
    cases hm
    exact f
def FPdS_moveLodgers (a0 : Nat) (p1 : Int32) (p2 : Int32) : List Nat := [((sT a0) + 1), 17, 16]
theorem fpS_moveLodgers (a0 : Nat) (p1 : Int32) (p2 : Int32) (h0 : PH) {r : PH} (hm : mS_moveLodgers a0 p1 p2 h0 = some r) : Fr (FPdS_moveLodgers a0 p1 p2) r h0 := by
  generalize hSe : FPdS_moveLodgers a0 p1 p2 = S
  have hS : ∀ b, b ∈ ([((sT a0) + 1), 17, 16] : List Nat) → b ∈ S := by rw [← hSe]; exact fun b hb => hb
  generalize hge : h0 = g at ⊢
  have f : Fr S h0 g := by rw [hge]; exact fun _ _ => rfl
  unfold mS_moveLodgers at hm
  obtain ⟨r1, -, hm⟩ := bd_s hm
  obtain ⟨h2, he, hm⟩ := bd_s hm
  replace f := fr_tr f (fpB_write _ _ _ _ _ he) (fun b hb => hS b (by simp only [FPdB_write, List.mem_cons, List.not_mem_nil, or_false] at hb ⊢; omega))
  refine v_j1 (fun (h4 : PH) => Fr S h4 g → Fr S r g) hm (fun h4 hm f => ?_) (fun j3 kj3 hm => ?_)
  · obtain ⟨h5, he, hm⟩ := bd_s hm
    replace f := fr_tr f (fpS_note _ _ _ _ _ he) (fun b hb => hS b (by simp only [FPdS_note, List.mem_cons, List.not_mem_nil, or_false] at hb ⊢; omega))
    cases hm
    exact f
  · rcases ite_or hm with ⟨hc, hm⟩ | ⟨hc, hm⟩
    · exact kj3 _ hm f
    · obtain ⟨r6, -, hm⟩ := bd_s hm
      obtain ⟨h7, he, hm⟩ := bd_s hm
      replace f := fr_tr f (fpB_write _ _ _ _ _ he) (fun b hb => hS b (by simp only [FPdB_write, List.mem_cons, List.not_mem_nil, or_false] at hb ⊢; omega))
      exact kj3 _ hm f
def FPdS_leaveIfFallen (a0 : Nat) (p1 : Int32) : List Nat := [((sT a0) + 1), 17, 16]
theorem fpS_leaveIfFallen (a0 : Nat) (p1 : Int32) (h0 : PH) {r : PH} (hm : mS_leaveIfFallen a0 p1 h0 = some r) : Fr (FPdS_leaveIfFallen a0 p1) r h0 := by
  generalize hSe : FPdS_leaveIfFallen a0 p1 = S
  have hS : ∀ b, b ∈ ([((sT a0) + 1), 17, 16] : List Nat) → b ∈ S := by rw [← hSe]; exact fun b hb => hb
  generalize hge : h0 = g at ⊢
  have f : Fr S h0 g := by rw [hge]; exact fun _ _ => rfl
  unfold mS_leaveIfFallen at hm
  obtain ⟨r1, -, hm⟩ := bd_s hm
  rcases ite_or hm with ⟨hc, hm⟩ | ⟨hc, hm⟩
  · obtain ⟨r2, -, hm⟩ := bd_s hm
    rcases ite_or hm with ⟨hc, hm⟩ | ⟨hc, hm⟩
    · obtain ⟨r3, -, hm⟩ := bd_s hm
      obtain ⟨h4, he, hm⟩ := bd_s hm
      replace f := fr_tr f (fpS_moveLodgers _ _ _ _ he) (fun b hb => hS b (by simp only [FPdS_moveLodgers, List.mem_cons, List.not_mem_nil, or_false] at hb ⊢; omega))
      cases hm
      exact f
    · cases hm
      exact f
  · cases hm
    exact f
def FPdS_wed (a0 : Nat) (p1 : Int32) : List Nat := [((sT a0) + 1), 17, 16]
theorem fpS_wed (a0 : Nat) (p1 : Int32) (h0 : PH) {r : PH} (hm : mS_wed a0 p1 h0 = some r) : Fr (FPdS_wed a0 p1) r h0 := by
  generalize hSe : FPdS_wed a0 p1 = S
  have hS : ∀ b, b ∈ ([((sT a0) + 1), 17, 16] : List Nat) → b ∈ S := by rw [← hSe]; exact fun b hb => hb
  generalize hge : h0 = g at ⊢
  have f : Fr S h0 g := by rw [hge]; exact fun _ _ => rfl
  unfold mS_wed at hm
  obtain ⟨h1, he, hm⟩ := bd_s hm
  replace f := fr_tr f (fpB_write _ _ _ _ _ he) (fun b hb => hS b (by simp only [FPdB_write, List.mem_cons, List.not_mem_nil, or_false] at hb ⊢; omega))
  obtain ⟨r2, -, hm⟩ := bd_s hm
  obtain ⟨r3, h4, he, hm⟩ := bd2_s hm
  replace f := fr_tr f (fpB_thin _ _ _ _ _ he) (fun b hb => hS b (by simp only [FPdB_thin, List.mem_cons, List.not_mem_nil, or_false] at hb ⊢; omega))
  obtain ⟨r5, -, hm⟩ := bd_s hm
  obtain ⟨x6, -, hm⟩ := lt_some hm
  obtain ⟨h7, he, hm⟩ := bd_s hm
  replace f := fr_tr f (fpB_write _ _ _ _ _ he) (fun b hb => hS b (by simp only [FPdB_write, List.mem_cons, List.not_mem_nil, or_false] at hb ⊢; omega))
  obtain ⟨h8, he, hm⟩ := bd_s hm
  replace f := fr_tr f (fpS_note _ _ _ _ _ he) (fun b hb => hS b (by simp only [FPdS_note, List.mem_cons, List.not_mem_nil, or_false] at hb ⊢; omega))
  obtain ⟨h9, he, hm⟩ := bd_s hm
  replace f := fr_tr f (fpS_leaveIfFallen _ _ _ he) (fun b hb => hS b (by simp only [FPdS_leaveIfFallen, List.mem_cons, List.not_mem_nil, or_false] at hb ⊢; omega))
  cases hm
  exact f
def FPdS_raze (a0 : Nat) (p1 : Int32) : List Nat := [((sT a0) + 1), 17, 16]
theorem wf_S_raze_L2 (a0 : Nat) (p1 : Int32) (k0 : PH → Option (PH)) (S : List Nat) (g : PH) (r : PH) (hS : ∀ b, b ∈ ([((sT a0) + 1)] : List Nat) → b ∈ S) (kk0 : ∀ (y0 : PH), k0 y0 = some r → Fr S y0 g → Fr S r g) : ∀ (n : Nat) (v2 : Int32) (hv : PH), mS_raze_L2 a0 p1 k0 n v2 hv = some r → Fr S hv g → Fr S r g := by
  intro n
  induction n with
  | zero => intro v2 hv hm; cases hm
  | succ n ih =>
    intro v2 hv hm f
    unfold mS_raze_L2 at hm
    rcases ite_or hm with ⟨hc, hm⟩ | ⟨hc, hm⟩
    · exact kk0 _ hm f
    · obtain ⟨h1, he, hm⟩ := bd_s hm
      replace f := fr_tr f (fpB_write _ _ _ _ _ he) (fun b hb => hS b (by simp only [FPdB_write, List.mem_cons, List.not_mem_nil, or_false] at hb ⊢; omega))
      exact ih _ _ hm f
theorem fpS_raze (a0 : Nat) (p1 : Int32) (h0 : PH) {r : PH} (hm : mS_raze a0 p1 h0 = some r) : Fr (FPdS_raze a0 p1) r h0 := by
  generalize hSe : FPdS_raze a0 p1 = S
  have hS : ∀ b, b ∈ ([((sT a0) + 1), 17, 16] : List Nat) → b ∈ S := by rw [← hSe]; exact fun b hb => hb
  generalize hge : h0 = g at ⊢
  have f : Fr S h0 g := by rw [hge]; exact fun _ _ => rfl
  unfold mS_raze at hm
  refine wf_S_raze_L2 _ _ _ S g _ (fun b hb => hS b (by first | exact absurd hb List.not_mem_nil | (simp only [List.mem_cons, List.not_mem_nil, or_false] at hb ⊢; omega))) (fun h2 hm f => ?_) _ _ _ hm f
  · obtain ⟨h3, he, hm⟩ := bd_s hm
    replace f := fr_tr f (fpS_leaveIfFallen _ _ _ he) (fun b hb => hS b (by simp only [FPdS_leaveIfFallen, List.mem_cons, List.not_mem_nil, or_false] at hb ⊢; omega))
    cases hm
    exact f
def FPdS_officeLine (a0 : Nat) (a1 : Nat) (p2 : Int32) : List Nat := [((sT a0) + 1), 17, 16]
theorem fpS_officeLine (a0 : Nat) (a1 : Nat) (p2 : Int32) (h0 : PH) {r : PH} (hm : mS_officeLine a0 a1 p2 h0 = some r) : Fr (FPdS_officeLine a0 a1 p2) r h0 := by
  generalize hSe : FPdS_officeLine a0 a1 p2 = S
  have hS : ∀ b, b ∈ ([((sT a0) + 1), 17, 16] : List Nat) → b ∈ S := by rw [← hSe]; exact fun b hb => hb
  generalize hge : h0 = g at ⊢
  have f : Fr S h0 g := by rw [hge]; exact fun _ _ => rfl
  unfold mS_officeLine at hm
  obtain ⟨r1, -, hm⟩ := bd_s hm
  obtain ⟨r2, -, hm⟩ := bd_s hm
  obtain ⟨r3, -, hm⟩ := bd_s hm
  rcases ite_or hm with ⟨hc, hm⟩ | ⟨hc, hm⟩
  · obtain ⟨r4, -, hm⟩ := bd_s hm
    obtain ⟨h5, he, hm⟩ := bd_s hm
    replace f := fr_tr f (fpB_write _ _ _ _ _ he) (fun b hb => hS b (by simp only [FPdB_write, List.mem_cons, List.not_mem_nil, or_false] at hb ⊢; omega))
    cases hm
    exact f
  · rcases ite_or hm with ⟨hc, hm⟩ | ⟨hc, hm⟩
    · obtain ⟨r6, -, hm⟩ := bd_s hm
      obtain ⟨h7, he, hm⟩ := bd_s hm
      replace f := fr_tr f (fpB_thicken _ _ _ _ _ he) (fun b hb => hS b (by simp only [FPdB_thicken, List.mem_cons, List.not_mem_nil, or_false] at hb ⊢; omega))
      cases hm
      exact f
    · rcases ite_or hm with ⟨hc, hm⟩ | ⟨hc, hm⟩
      · obtain ⟨r8, -, hm⟩ := bd_s hm
        rcases ite_or hm with ⟨hc, hm⟩ | ⟨hc, hm⟩
        · cases hm
          exact f
        · obtain ⟨h9, he, hm⟩ := bd_s hm
          replace f := fr_tr f (fpS_wed _ _ _ he) (fun b hb => hS b (by simp only [FPdS_wed, List.mem_cons, List.not_mem_nil, or_false] at hb ⊢; omega))
          cases hm
          exact f
      · obtain ⟨r10, -, hm⟩ := bd_s hm
        rcases ite_or hm with ⟨hc, hm⟩ | ⟨hc, hm⟩
        · cases hm
          exact f
        · obtain ⟨h11, he, hm⟩ := bd_s hm
          replace f := fr_tr f (fpS_raze _ _ _ he) (fun b hb => hS b (by simp only [FPdS_raze, List.mem_cons, List.not_mem_nil, or_false] at hb ⊢; omega))
          cases hm
          exact f
def FPdS_noteIfAny (a0 : Nat) (p1 : Int32) (p2 : Int32) (p3 : Int32) : List Nat := [17, 16]
theorem fpS_noteIfAny (a0 : Nat) (p1 : Int32) (p2 : Int32) (p3 : Int32) (h0 : PH) {r : PH} (hm : mS_noteIfAny a0 p1 p2 p3 h0 = some r) : Fr (FPdS_noteIfAny a0 p1 p2 p3) r h0 := by
  generalize hSe : FPdS_noteIfAny a0 p1 p2 p3 = S
  have hS : ∀ b, b ∈ ([17, 16] : List Nat) → b ∈ S := by rw [← hSe]; exact fun b hb => hb
  generalize hge : h0 = g at ⊢
  have f : Fr S h0 g := by rw [hge]; exact fun _ _ => rfl
  unfold mS_noteIfAny at hm
  rcases ite_or hm with ⟨hc, hm⟩ | ⟨hc, hm⟩
  · cases hm
    exact f
  · obtain ⟨h1, he, hm⟩ := bd_s hm
    replace f := fr_tr f (fpS_note _ _ _ _ _ he) (fun b hb => hS b ((by decide : ∀ b, b ∈ ([17, 16] : List Nat) → b ∈ ([17, 16] : List Nat)) b hb))
    cases hm
    exact f
def FPdS_payRent (a0 : Nat) (p1 : Int32) : List Nat := [34, 36, 35, (sT a0), 17, 16, ((sT a0) + 1)]
theorem wf_S_payRent_L27 (a0 : Nat) (p1 : Int32) (p2 : Int32) (k0 : Int32 → PH → Option (PH)) (S : List Nat) (g : PH) (r : PH) (hS : ∀ b, b ∈ ([((sT a0) + 1)] : List Nat) → b ∈ S) (kk0 : ∀ (y0 : Int32) (y1 : PH), k0 y0 y1 = some r → Fr S y1 g → Fr S r g) : ∀ (n : Nat) (v3 : Int32) (v4 : Int32) (hv : PH), mS_payRent_L27 a0 p1 p2 k0 n v3 v4 hv = some r → Fr S hv g → Fr S r g := by
  intro n
  induction n with
  | zero => intro v3 v4 hv hm; cases hm
  | succ n ih =>
    intro v3 v4 hv hm f
    unfold mS_payRent_L27 at hm
    rcases ite_or hm with ⟨hc, hm⟩ | ⟨hc, hm⟩
    · exact kk0 _ _ hm f
    · obtain ⟨r4, -, hm⟩ := bd_s hm
      rcases ite_or hm with ⟨hc, hm⟩ | ⟨hc, hm⟩
      · exact kk0 _ _ hm f
      · obtain ⟨r5, -, hm⟩ := bd_s hm
        obtain ⟨r6, h7, he, hm⟩ := bd2_s hm
        replace f := fr_tr f (fpB_thin _ _ _ _ _ he) (fun b hb => hS b (by simp only [FPdB_thin, List.mem_cons, List.not_mem_nil, or_false] at hb ⊢; omega))
        obtain ⟨x8, -, hm⟩ := lt_some hm
        exact ih _ _ _ hm f
theorem fpS_payRent (a0 : Nat) (p1 : Int32) (h0 : PH) {r : PH} (hm : mS_payRent a0 p1 h0 = some r) : Fr (FPdS_payRent a0 p1) r h0 := by
  generalize hSe : FPdS_payRent a0 p1 = S
  have hS : ∀ b, b ∈ ([34, 36, 35, (sT a0), 17, 16, ((sT a0) + 1)] : List Nat) → b ∈ S := by rw [← hSe]; exact fun b hb => hb
  generalize hge : h0 = g at ⊢
  have f : Fr S h0 g := by rw [hge]; exact fun _ _ => rfl
  unfold mS_payRent at hm
  obtain ⟨r1, -, hm⟩ := bd_s hm
  obtain ⟨r2, h3, he, hm⟩ := bd2_s hm
  replace f := fr_tr f (fpW_tells _ _ _ _ _ he) (fun b hb => hS b (by simp only [FPdW_tells, List.mem_cons, List.not_mem_nil, or_false] at hb ⊢; omega))
  refine wf_S_payRent_L27 _ _ _ _ S g _ (fun b hb => hS b (by first | exact absurd hb List.not_mem_nil | (simp only [List.mem_cons, List.not_mem_nil, or_false] at hb ⊢; omega))) (fun x9 h10 hm f => ?_) _ _ _ _ hm f
  · obtain ⟨h11, e1, hm⟩ := lt_some hm
    replace f : Fr S h11 g := by rw [e1]; exact up_fr f (hS _ (by first | simp; done | (simp only [List.mem_cons, List.not_mem_nil, or_false]; omega)))
    obtain ⟨h12, he, hm⟩ := bd_s hm
    replace f := fr_tr f (fpS_noteIfAny _ _ _ _ _ he) (fun b hb => hS b (by simp only [FPdS_noteIfAny, List.mem_cons, List.not_mem_nil, or_false] at hb ⊢; omega))
    obtain ⟨x13, -, hm⟩ := lt_some hm
    obtain ⟨r14, -, hm⟩ := bd_s hm
    obtain ⟨h15, he, hm⟩ := bd_s hm
    replace f := fr_tr f (fpB_write _ _ _ _ _ he) (fun b hb => hS b (by simp only [FPdB_write, List.mem_cons, List.not_mem_nil, or_false] at hb ⊢; omega))
    obtain ⟨h16, he, hm⟩ := bd_s hm
    replace f := fr_tr f (fpS_noteIfAny _ _ _ _ _ he) (fun b hb => hS b (by simp only [FPdS_noteIfAny, List.mem_cons, List.not_mem_nil, or_false] at hb ⊢; omega))
    obtain ⟨h17, he, hm⟩ := bd_s hm
    replace f := fr_tr f (fpS_leaveIfFallen _ _ _ he) (fun b hb => hS b (by simp only [FPdS_leaveIfFallen, List.mem_cons, List.not_mem_nil, or_false] at hb ⊢; omega))
    cases hm
    exact f
def FPdS_ratsGnaw (a0 : Nat) (p1 : Int32) : List Nat := [(sT a0)]
theorem fpS_ratsGnaw (a0 : Nat) (p1 : Int32) (h0 : PH) {r : Int32 × PH} (hm : mS_ratsGnaw a0 p1 h0 = some r) : Fr (FPdS_ratsGnaw a0 p1) r.2 h0 := by
  generalize hSe : FPdS_ratsGnaw a0 p1 = S
  have hS : ∀ b, b ∈ ([(sT a0)] : List Nat) → b ∈ S := by rw [← hSe]; exact fun b hb => hb
  generalize hge : h0 = g at ⊢
  have f : Fr S h0 g := by rw [hge]; exact fun _ _ => rfl
  unfold mS_ratsGnaw at hm
  rcases ite_or hm with ⟨hc, hm⟩ | ⟨hc, hm⟩
  · rcases ite_or hm with ⟨hc, hm⟩ | ⟨hc, hm⟩
    · cases hm
      exact f
    · cases hm
      exact f
  · rcases ite_or hm with ⟨hc, hm⟩ | ⟨hc, hm⟩
    · cases hm
      exact f
    · obtain ⟨r1, h2, he, hm⟩ := bd2_s hm
      replace f := fr_tr f (fpB_draw _ _ _ he) (fun b hb => hS b (by simp only [FPdB_draw, List.mem_cons, List.not_mem_nil, or_false] at hb ⊢; omega))
      rcases ite_or hm with ⟨hc, hm⟩ | ⟨hc, hm⟩
      · cases hm
        exact f
      · cases hm
        exact f
def FPdS_gnaw (a0 : Nat) (p1 : Int32) : List Nat := [(sT a0), 17, 16, 34, 36, 35, ((sT a0) + 1)]
theorem wf_S_gnaw_L4 (a0 : Nat) (p1 : Int32) (k0 : Int32 → PH → Option (PH)) (S : List Nat) (g : PH) (r : PH) (hS : ∀ b, b ∈ ([34, 36, 35, (sT a0), ((sT a0) + 1)] : List Nat) → b ∈ S) (kk0 : ∀ (y0 : Int32) (y1 : PH), k0 y0 y1 = some r → Fr S y1 g → Fr S r g) : ∀ (n : Nat) (v2 : Int32) (v3 : Int32) (hv : PH), mS_gnaw_L4 a0 p1 k0 n v2 v3 hv = some r → Fr S hv g → Fr S r g := by
  intro n
  induction n with
  | zero => intro v2 v3 hv hm; cases hm
  | succ n ih =>
    intro v2 v3 hv hm f
    unfold mS_gnaw_L4 at hm
    rcases ite_or hm with ⟨hc, hm⟩ | ⟨hc, hm⟩
    · exact kk0 _ _ hm f
    · obtain ⟨r1, -, hm⟩ := bd_s hm
      rcases ite_or hm with ⟨hc, hm⟩ | ⟨hc, hm⟩
      · exact ih _ _ _ hm f
      · obtain ⟨r2, h3, he, hm⟩ := bd2_s hm
        replace f := fr_tr f (fpW_tells _ _ _ _ _ he) (fun b hb => hS b (by simp only [FPdW_tells, List.mem_cons, List.not_mem_nil, or_false] at hb ⊢; omega))
        obtain ⟨r4, h5, he, hm⟩ := bd2_s hm
        replace f := fr_tr f (fpS_ratsGnaw _ _ _ he) (fun b hb => hS b (by simp only [FPdS_ratsGnaw, List.mem_cons, List.not_mem_nil, or_false] at hb ⊢; omega))
        rcases ite_or hm with ⟨hc, hm⟩ | ⟨hc, hm⟩
        · exact ih _ _ _ hm f
        · obtain ⟨r6, h7, he, hm⟩ := bd2_s hm
          replace f := fr_tr f (fpB_thin _ _ _ _ _ he) (fun b hb => hS b (by simp only [FPdB_thin, List.mem_cons, List.not_mem_nil, or_false] at hb ⊢; omega))
          obtain ⟨x8, -, hm⟩ := lt_some hm
          exact ih _ _ _ hm f
theorem fpS_gnaw (a0 : Nat) (p1 : Int32) (h0 : PH) {r : PH} (hm : mS_gnaw a0 p1 h0 = some r) : Fr (FPdS_gnaw a0 p1) r h0 := by
  generalize hSe : FPdS_gnaw a0 p1 = S
  have hS : ∀ b, b ∈ ([(sT a0), 17, 16, 34, 36, 35, ((sT a0) + 1)] : List Nat) → b ∈ S := by rw [← hSe]; exact fun b hb => hb
  generalize hge : h0 = g at ⊢
  have f : Fr S h0 g := by rw [hge]; exact fun _ _ => rfl
  unfold mS_gnaw at hm
  refine wf_S_gnaw_L4 _ _ _ S g _ (fun b hb => hS b (by first | exact absurd hb List.not_mem_nil | (simp only [List.mem_cons, List.not_mem_nil, or_false] at hb ⊢; omega))) (fun x9 h10 hm f => ?_) _ _ _ _ hm f
  · obtain ⟨h11, e1, hm⟩ := lt_some hm
    replace f : Fr S h11 g := by rw [e1]; exact up_fr f (hS _ (by first | simp; done | (simp only [List.mem_cons, List.not_mem_nil, or_false]; omega)))
    obtain ⟨h12, he, hm⟩ := bd_s hm
    replace f := fr_tr f (fpS_noteIfAny _ _ _ _ _ he) (fun b hb => hS b (by simp only [FPdS_noteIfAny, List.mem_cons, List.not_mem_nil, or_false] at hb ⊢; omega))
    cases hm
    exact f
def FPdS_melt (a0 : Nat) (p1 : Int32) : List Nat := [17, 16, 34, 36, 35, ((sT a0) + 1)]
theorem wf_S_melt_L15 (a0 : Nat) (p1 : Int32) (k0 : Int32 → PH → Option (PH)) (S : List Nat) (g : PH) (r : PH) (hS : ∀ b, b ∈ ([34, 36, 35, ((sT a0) + 1)] : List Nat) → b ∈ S) (kk0 : ∀ (y0 : Int32) (y1 : PH), k0 y0 y1 = some r → Fr S y1 g → Fr S r g) : ∀ (n : Nat) (v2 : Int32) (v3 : Int32) (hv : PH), mS_melt_L15 a0 p1 k0 n v2 v3 hv = some r → Fr S hv g → Fr S r g := by
  intro n
  induction n with
  | zero => intro v2 v3 hv hm; cases hm
  | succ n ih =>
    intro v2 v3 hv hm f
    unfold mS_melt_L15 at hm
    rcases ite_or hm with ⟨hc, hm⟩ | ⟨hc, hm⟩
    · exact kk0 _ _ hm f
    · obtain ⟨r1, -, hm⟩ := bd_s hm
      rcases ite_or hm with ⟨hc, hm⟩ | ⟨hc, hm⟩
      · exact ih _ _ _ hm f
      · obtain ⟨r2, h3, he, hm⟩ := bd2_s hm
        replace f := fr_tr f (fpW_tells _ _ _ _ _ he) (fun b hb => hS b (by simp only [FPdW_tells, List.mem_cons, List.not_mem_nil, or_false] at hb ⊢; omega))
        obtain ⟨r4, h5, he, hm⟩ := bd2_s hm
        replace f := fr_tr f (fpB_thin _ _ _ _ _ he) (fun b hb => hS b (by simp only [FPdB_thin, List.mem_cons, List.not_mem_nil, or_false] at hb ⊢; omega))
        obtain ⟨x6, -, hm⟩ := lt_some hm
        exact ih _ _ _ hm f
theorem fpS_melt (a0 : Nat) (p1 : Int32) (h0 : PH) {r : PH} (hm : mS_melt a0 p1 h0 = some r) : Fr (FPdS_melt a0 p1) r h0 := by
  generalize hSe : FPdS_melt a0 p1 = S
  have hS : ∀ b, b ∈ ([17, 16, 34, 36, 35, ((sT a0) + 1)] : List Nat) → b ∈ S := by rw [← hSe]; exact fun b hb => hb
  generalize hge : h0 = g at ⊢
  have f : Fr S h0 g := by rw [hge]; exact fun _ _ => rfl
  unfold mS_melt at hm
  rcases ite_or hm with ⟨hc, hm⟩ | ⟨hc, hm⟩
  · refine wf_S_melt_L15 _ _ _ S g _ (fun b hb => hS b (by first | exact absurd hb List.not_mem_nil | (simp only [List.mem_cons, List.not_mem_nil, or_false] at hb ⊢; omega))) (fun x7 h8 hm f => ?_) _ _ _ _ hm f
    · obtain ⟨h9, he, hm⟩ := bd_s hm
      replace f := fr_tr f (fpS_noteIfAny _ _ _ _ _ he) (fun b hb => hS b (by simp only [FPdS_noteIfAny, List.mem_cons, List.not_mem_nil, or_false] at hb ⊢; omega))
      cases hm
      exact f
  · cases hm
    exact f
def FPdS_harden (a0 : Nat) : List Nat := [((sT a0) + 1)]
theorem wf_S_harden_L2 (a0 : Nat) (S : List Nat) (g : PH) (r : PH) (hS : ∀ b, b ∈ ([((sT a0) + 1)] : List Nat) → b ∈ S) : ∀ (n : Nat) (v1 : Int32) (hv : PH), mS_harden_L2 a0 n v1 hv = some r → Fr S hv g → Fr S r g := by
  intro n
  induction n with
  | zero => intro v1 hv hm; cases hm
  | succ n ih =>
    intro v1 hv hm f
    unfold mS_harden_L2 at hm
    rcases ite_or hm with ⟨hc, hm⟩ | ⟨hc, hm⟩
    · cases hm
      exact f
    · rcases ite_or hm with ⟨hc, hm⟩ | ⟨hc, hm⟩
      · obtain ⟨r1, -, hm⟩ := bd_s hm
        rcases ite_or hm with ⟨hc, hm⟩ | ⟨hc, hm⟩
        · exact ih _ _ hm f
        · obtain ⟨r2, -, hm⟩ := bd_s hm
          obtain ⟨h3, he, hm⟩ := bd_s hm
          replace f := fr_tr f (fpB_write _ _ _ _ _ he) (fun b hb => hS b (by simp only [FPdB_write, List.mem_cons, List.not_mem_nil, or_false] at hb ⊢; omega))
          exact ih _ _ hm f
      · exact ih _ _ hm f
theorem fpS_harden (a0 : Nat) (h0 : PH) {r : PH} (hm : mS_harden a0 h0 = some r) : Fr (FPdS_harden a0) r h0 := by
  generalize hSe : FPdS_harden a0 = S
  have hS : ∀ b, b ∈ ([((sT a0) + 1)] : List Nat) → b ∈ S := by rw [← hSe]; exact fun b hb => hb
  generalize hge : h0 = g at ⊢
  have f : Fr S h0 g := by rw [hge]; exact fun _ _ => rfl
  unfold mS_harden at hm
  exact wf_S_harden_L2 _ S g _ (fun b hb => hS b (by first | exact absurd hb List.not_mem_nil | (simp only [List.mem_cons, List.not_mem_nil, or_false] at hb ⊢; omega))) _ _ _ hm f
def FPdS_grow (a0 : Nat) : List Nat := [(sT a0), ((sT a0) + 1)]
theorem wf_S_grow_L2 (a0 : Nat) (k0 : PH → Option (PH)) (S : List Nat) (g : PH) (r : PH) (hS : ∀ b, b ∈ ([((sT a0) + 1)] : List Nat) → b ∈ S) (kk0 : ∀ (y0 : PH), k0 y0 = some r → Fr S y0 g → Fr S r g) : ∀ (n : Nat) (v1 : Int32) (hv : PH), mS_grow_L2 a0 k0 n v1 hv = some r → Fr S hv g → Fr S r g := by
  intro n
  induction n with
  | zero => intro v1 hv hm; cases hm
  | succ n ih =>
    intro v1 hv hm f
    unfold mS_grow_L2 at hm
    rcases ite_or hm with ⟨hc, hm⟩ | ⟨hc, hm⟩
    · exact kk0 _ hm f
    · obtain ⟨r1, -, hm⟩ := bd_s hm
      rcases ite_or hm with ⟨hc, hm⟩ | ⟨hc, hm⟩
      · exact ih _ _ hm f
      · obtain ⟨r2, -, hm⟩ := bd_s hm
        obtain ⟨h3, he, hm⟩ := bd_s hm
        replace f := fr_tr f (fpB_write _ _ _ _ _ he) (fun b hb => hS b (by simp only [FPdB_write, List.mem_cons, List.not_mem_nil, or_false] at hb ⊢; omega))
        exact ih _ _ hm f
