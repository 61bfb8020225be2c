section
/-! THE WORDS of the mirrored methods (a method's code as a function of ints and of the pure heap), and the rules as the printed walks use them. Printed by wip/gen/p06.py -/
abbrev ix (i : Int32) : Nat := i.toNatClampNeg
def FU : Nat := 100000
def lt {α ρ : Type} (x : α) (f : α → Option ρ) : Option ρ := f x
def bd {α ρ : Type} (x : Option α) (f : α → Option ρ) : Option ρ := match x with
  | none => none
  | some a => f a
def bd2 {α β ρ : Type} (x : Option (α × β)) (f : α → β → Option ρ) : Option ρ := match x with
  | none => none
  | some (a, b) => f a b
def ck {ρ : Type} (i : Int32) (n : Nat) (k : Option ρ) : Option ρ := if i < 0 ∨ n ≤ i.toNatClampNeg then none else k
def dz {ρ : Type} (y : Int32) (k : Option ρ) : Option ρ := if y = 0 then none else k
def kz {ρ : Type} (y : Int32) (k : Option ρ) : Option ρ := if y = 0 ∨ y = 1 then k else none
theorem it {c : Prop} [Decidable c] {ρ : Type} {a b o : Option ρ} (hc : c) (h : (if c then a else b) = o) : a = o := by rw [if_pos hc] at h; exact h
theorem ie {c : Prop} [Decidable c] {ρ : Type} {a b o : Option ρ} (hc : ¬ c) (h : (if c then a else b) = o) : b = o := by rw [if_neg hc] at h; exact h
theorem bd_s {α ρ : Type} {x : Option α} {f : α → Option ρ} {r : ρ} (h : bd x f = some r) : ∃ a, x = some a ∧ f a = some r := by
  cases x with
  | none => cases h
  | some a => exact ⟨a, rfl, h⟩
theorem bd2_s {α β ρ : Type} {x : Option (α × β)} {f : α → β → Option ρ} {r : ρ} (h : bd2 x f = some r) : ∃ a b, x = some (a, b) ∧ f a b = some r := by
  cases x with
  | none => cases h
  | some a => exact ⟨a.1, a.2, rfl, h⟩
theorem ck_s {ρ : Type} {i : Int32} {n : Nat} {k : Option ρ} {r : ρ} (h : ck i n k = some r) : vp_in i n ∧ k = some r := by
  unfold ck at h
  split at h
  · cases h
  · exact ⟨by assumption, h⟩
theorem dz_s {ρ : Type} {y : Int32} {k : Option ρ} {r : ρ} (h : dz y k = some r) : ¬ y = 0 ∧ k = some r := by
  unfold dz at h
  split at h
  · cases h
  · exact ⟨by assumption, h⟩
theorem kz_s {ρ : Type} {y : Int32} {k : Option ρ} {r : ρ} (h : kz y k = some r) : (y = 0 ∨ y = 1) ∧ k = some r := by
  unfold kz at h
  split at h
  · exact ⟨by assumption, h⟩
  · cases h
def jn0 { ρ : Type} (f : Option ρ) (b : (Option ρ) → Option ρ) : Option ρ := b f
theorem v_j0 { ρ : Type} {o : Option ρ} {Z : Prop} {f : Option ρ} {b : (Option ρ) → Option ρ} (X : Prop) (hm : jn0 f b = o) (hJ : f = o → X) (hB : ∀ j : Option ρ, (j = o → X) → b j = o → Z) : Z := hB f hJ hm
def jn1 {α ρ : Type} (f : α → Option ρ) (b : (α → Option ρ) → Option ρ) : Option ρ := b f
theorem v_j1 {α ρ : Type} {o : Option ρ} {Z : Prop} {f : α → Option ρ} {b : (α → Option ρ) → Option ρ} (X : α → Prop) (hm : jn1 f b = o) (hJ : ∀ (x0 : α), f x0 = o → X x0) (hB : ∀ j : α → Option ρ, (∀ (x0 : α), j x0 = o → X x0) → b j = o → Z) : Z := hB f hJ hm
def jn2 {α β ρ : Type} (f : α → β → Option ρ) (b : (α → β → Option ρ) → Option ρ) : Option ρ := b f
theorem v_j2 {α β ρ : Type} {o : Option ρ} {Z : Prop} {f : α → β → Option ρ} {b : (α → β → Option ρ) → Option ρ} (X : α → β → Prop) (hm : jn2 f b = o) (hJ : ∀ (x0 : α) (x1 : β), f x0 x1 = o → X x0 x1) (hB : ∀ j : α → β → Option ρ, (∀ (x0 : α) (x1 : β), j x0 x1 = o → X x0 x1) → b j = o → Z) : Z := hB f hJ hm
def jn3 {α β γ ρ : Type} (f : α → β → γ → Option ρ) (b : (α → β → γ → Option ρ) → Option ρ) : Option ρ := b f
theorem v_j3 {α β γ ρ : Type} {o : Option ρ} {Z : Prop} {f : α → β → γ → Option ρ} {b : (α → β → γ → Option ρ) → Option ρ} (X : α → β → γ → Prop) (hm : jn3 f b = o) (hJ : ∀ (x0 : α) (x1 : β) (x2 : γ), f x0 x1 x2 = o → X x0 x1 x2) (hB : ∀ j : α → β → γ → Option ρ, (∀ (x0 : α) (x1 : β) (x2 : γ), j x0 x1 x2 = o → X x0 x1 x2) → b j = o → Z) : Z := hB f hJ hm
def jn4 {α β γ δ ρ : Type} (f : α → β → γ → δ → Option ρ) (b : (α → β → γ → δ → Option ρ) → Option ρ) : Option ρ := b f
theorem v_j4 {α β γ δ ρ : Type} {o : Option ρ} {Z : Prop} {f : α → β → γ → δ → Option ρ} {b : (α → β → γ → δ → Option ρ) → Option ρ} (X : α → β → γ → δ → Prop) (hm : jn4 f b = o) (hJ : ∀ (x0 : α) (x1 : β) (x2 : γ) (x3 : δ), f x0 x1 x2 x3 = o → X x0 x1 x2 x3) (hB : ∀ j : α → β → γ → δ → Option ρ, (∀ (x0 : α) (x1 : β) (x2 : γ) (x3 : δ), j x0 x1 x2 x3 = o → X x0 x1 x2 x3) → b j = o → Z) : Z := hB f hJ hm
def jn5 {α β γ δ ε ρ : Type} (f : α → β → γ → δ → ε → Option ρ) (b : (α → β → γ → δ → ε → Option ρ) → Option ρ) : Option ρ := b f
theorem v_j5 {α β γ δ ε ρ : Type} {o : Option ρ} {Z : Prop} {f : α → β → γ → δ → ε → Option ρ} {b : (α → β → γ → δ → ε → Option ρ) → Option ρ} (X : α → β → γ → δ → ε → Prop) (hm : jn5 f b = o) (hJ : ∀ (x0 : α) (x1 : β) (x2 : γ) (x3 : δ) (x4 : ε), f x0 x1 x2 x3 x4 = o → X x0 x1 x2 x3 x4) (hB : ∀ j : α → β → γ → δ → ε → Option ρ, (∀ (x0 : α) (x1 : β) (x2 : γ) (x3 : δ) (x4 : ε), j x0 x1 x2 x3 x4 = o → X x0 x1 x2 x3 x4) → b j = o → Z) : Z := hB f hJ hm
def jn6 {α β γ δ ε ζ ρ : Type} (f : α → β → γ → δ → ε → ζ → Option ρ) (b : (α → β → γ → δ → ε → ζ → Option ρ) → Option ρ) : Option ρ := b f
theorem v_j6 {α β γ δ ε ζ ρ : Type} {o : Option ρ} {Z : Prop} {f : α → β → γ → δ → ε → ζ → Option ρ} {b : (α → β → γ → δ → ε → ζ → Option ρ) → Option ρ} (X : α → β → γ → δ → ε → ζ → Prop) (hm : jn6 f b = o) (hJ : ∀ (x0 : α) (x1 : β) (x2 : γ) (x3 : δ) (x4 : ε) (x5 : ζ), f x0 x1 x2 x3 x4 x5 = o → X x0 x1 x2 x3 x4 x5) (hB : ∀ j : α → β → γ → δ → ε → ζ → Option ρ, (∀ (x0 : α) (x1 : β) (x2 : γ) (x3 : δ) (x4 : ε) (x5 : ζ), j x0 x1 x2 x3 x4 x5 = o → X x0 x1 x2 x3 x4 x5) → b j = o → Z) : Z := hB f hJ hm
def jn7 {α β γ δ ε ζ η ρ : Type} (f : α → β → γ → δ → ε → ζ → η → Option ρ) (b : (α → β → γ → δ → ε → ζ → η → Option ρ) → Option ρ) : Option ρ := b f
theorem v_j7 {α β γ δ ε ζ η ρ : Type} {o : Option ρ} {Z : Prop} {f : α → β → γ → δ → ε → ζ → η → Option ρ} {b : (α → β → γ → δ → ε → ζ → η → Option ρ) → Option ρ} (X : α → β → γ → δ → ε → ζ → η → Prop) (hm : jn7 f b = o) (hJ : ∀ (x0 : α) (x1 : β) (x2 : γ) (x3 : δ) (x4 : ε) (x5 : ζ) (x6 : η), f x0 x1 x2 x3 x4 x5 x6 = o → X x0 x1 x2 x3 x4 x5 x6) (hB : ∀ j : α → β → γ → δ → ε → ζ → η → Option ρ, (∀ (x0 : α) (x1 : β) (x2 : γ) (x3 : δ) (x4 : ε) (x5 : ζ) (x6 : η), j x0 x1 x2 x3 x4 x5 x6 = o → X x0 x1 x2 x3 x4 x5 x6) → b j = o → Z) : Z := hB f hJ hm
/-- fewer locals known -/
def wk : List (Option Value) → List (Option Value) → Prop
  | [], _ => True
  | none :: t, _ :: u => wk t u
  | some x :: t, w :: u => w = some x ∧ wk t u
  | _ :: _, [] => False
theorem wk_at : ∀ {L' L : List (Option Value)}, wk L' L → ∀ (i : Nat) (x : Value), L'[i]? = some (some x) → L[i]? = some (some x)
  | [], _, _, i, x, h => by simp at h
  | none :: t, w :: u, hw, i, x, h => by
    cases i with
    | zero => simp at h
    | succ i => rw [List.getElem?_cons_succ] at h ⊢; exact wk_at (L' := t) (L := u) hw i x h
  | some y :: t, w :: u, hw, i, x, h => by
    cases i with
    | zero => rw [List.getElem?_cons_zero] at h ⊢; rw [hw.1]; exact h
    | succ i => rw [List.getElem?_cons_succ] at h ⊢; exact wk_at (L' := t) (L := u) hw.2 i x h
  | none :: t, [], hw, i, x, h => by cases hw
  | some y :: t, [], hw, i, x, h => by cases hw
section WK
variable {G : GG} {M : MM} {d pc pc' : Nat} {L : List (Option Value)} {st : List Value} {h h' : PH} {v : Option Value}
theorem v_wk {L' : List (Option Value)} (hw : wk L' L) (k : Vx G M d pc L' st h v h') : Vx G M d pc L st h v h' := by
  intro p e s m args below meth c C H locs ls hR hS hL
  exact k p e s m args below meth c C H locs ls hR hS ⟨hL.1, hL.2.1, fun i x hi => hL.2.2 i x (wk_at hw i x hi)⟩
theorem wk_e {u : List (Option Value)} : wk [] u := trivial
theorem wk_n {w : Option Value} {t u : List (Option Value)} (h : wk t u) : wk (none :: t) (w :: u) := h
theorem wk_s {x : Value} {t u : List (Option Value)} (h : wk t u) : wk (some x :: t) (some x :: u) := ⟨rfl, h⟩
theorem v_kw {L' : List (Option Value)} (k : Vx G M d pc L' st h v h') (hw : wk L' L) : Vx G M d pc L st h v h' := v_wk hw k
theorem v_top {ρ : Type} {x : Int32} {f : Int32 → Option ρ} {r : ρ} (hm : lt x f = some r) (k : ∀ y : Int32, f y = some r → Vx G M d pc L (.int y :: st) h v h') : Vx G M d pc L (.int x :: st) h v h' := k x hm
theorem v_putIl {ρ : Type} {f : PH → Option ρ} {r : ρ} {idx ci j a n : Nat} {x : Int32} (hd : dn M pc (.putfield idx) 3 pc') (hf : fu M.1.cls idx ci j) (ht : fty ci j .int) (ha : shL[a]? = some (ci, n)) (hr : rf a j = none) (hm : lt (up h a j x) f = some r) (k : ∀ h1 : PH, f h1 = some r → Vx G M d pc' L st h1 v h') : Vx G M d pc L (.int x :: .ref (gB G + a) :: st) h v h' := v_putI hd hf ht ha hr (k _ hm)
theorem v_putZl {ρ : Type} {f : PH → Option ρ} {r : ρ} {idx ci j a n : Nat} {x : Int32} (hd : dn M pc (.putfield idx) 3 pc') (hf : fu M.1.cls idx ci j) (ht : fty ci j .boolean) (ha : shL[a]? = some (ci, n)) (hr : rf a j = none) (hx : x = 0 ∨ x = 1) (hm : lt (up h a j x) f = some r) (k : ∀ h1 : PH, f h1 = some r → Vx G M d pc' L st h1 v h') : Vx G M d pc L (.int x :: .ref (gB G + a) :: st) h v h' := v_putZ hd hf ht ha hr hx (k _ hm)
theorem v_iastl {ρ : Type} {f : PH → Option ρ} {r : ρ} {a n : Nat} {i x : Int32} (hd : dn M pc .iastore 1 pc') (ha : shL[a]? = some (20, n)) (hin : vp_in i n) (hm : lt (up h a (ix i) x) f = some r) (k : ∀ h1 : PH, f h1 = some r → Vx G M d pc' L st h1 v h') : Vx G M d pc L (.int x :: .int i :: .ref (gB G + a) :: st) h v h' := v_iast hd ha hin (k _ hm)
theorem v_bastl {ρ : Type} {f : PH → Option ρ} {r : ρ} {a n : Nat} {i x : Int32} (hd : dn M pc .bastore 1 pc') (ha : shL[a]? = some (21, n)) (hin : vp_in i n) (hm : lt (up h a (ix i) (i2b x)) f = some r) (k : ∀ h1 : PH, f h1 = some r → Vx G M d pc' L st h1 v h') : Vx G M d pc L (.int x :: .int i :: .ref (gB G + a) :: st) h v h' := v_bast hd ha hin (k _ hm)
theorem v_zret0 (hd : dn M pc .ireturn 1 pc') (hr : M.2.2.2 = some .boolean) : Vx G M d pc L [.int 0] h (some (.int 0)) h := v_zret hd hr
theorem v_zret1 (hd : dn M pc .ireturn 1 pc') (hr : M.2.2.2 = some .boolean) : Vx G M d pc L [.int 1] h (some (.int 1)) h := v_zret hd hr
theorem v_cv0i {r : Int32} {M' : MM} {idx a ci n2 : Nat} {h1 : PH} (hd : dn M pc (.invokevirtual idx) 3 pc') (hl : Cond.methodLink M.1.cls idx M'.1 ∈ tb) (hm : mV M' 0) (ha : shL[a]? = some (ci, n2)) (hci : (clsL[ci]?.map fun r => r.1) = some M'.1.cls) (hrest : (st.map fun v => v.category).sum ≤ 8) (hK : Kx G M' d (.ref (gB G + a) :: []) h (some (.int r)) h1) (k : Vx G M (d + 1) pc' L (.int r :: st) h1 v h') : Vx G M (d + 1) pc L (.ref (gB G + a) :: st) h v h' := v_callV hd hl hm ha hci rfl rfl hrest hK k
theorem v_cs0i {r : Int32} {M' : MM} {idx : Nat} {h1 : PH} (hd : dn M pc (.invokestatic idx) 3 pc') (hl : Cond.methodLink M.1.cls idx M'.1 ∈ tb) (hm : mS M' 0) (hrest : (st.map fun v => v.category).sum ≤ 8) (hK : Kx G M' d [] h (some (.int r)) h1) (k : Vx G M (d + 1) pc' L (.int r :: st) h1 v h') : Vx G M (d + 1) pc L (st) h v h' := v_callS hd hl hm rfl rfl hrest hK k
theorem v_cn0i {r : Int32} {M' : MM} {idx : Nat} {h1 : PH} (hd : dn M pc (.invokestatic idx) 3 pc') (hl : (M.1.cls, idx, M'.1) ∈ nsL) (hm : mS M' 0) (hrest : (st.map fun v => v.category).sum ≤ 8) (hK : Kx G M' d [] h (some (.int r)) h1) (k : Vx G M (d + 1) pc' L (.int r :: st) h1 v h') : Vx G M (d + 1) pc L (st) h v h' := v_callSN hd hl hm rfl rfl hrest hK k
theorem v_cv0v {M' : MM} {idx a ci n2 : Nat} {h1 : PH} (hd : dn M pc (.invokevirtual idx) 3 pc') (hl : Cond.methodLink M.1.cls idx M'.1 ∈ tb) (hm : mV M' 0) (ha : shL[a]? = some (ci, n2)) (hci : (clsL[ci]?.map fun r => r.1) = some M'.1.cls) (hrest : (st.map fun v => v.category).sum ≤ 8) (hK : Kx G M' d (.ref (gB G + a) :: []) h none h1) (k : Vx G M (d + 1) pc' L st h1 v h') : Vx G M (d + 1) pc L (.ref (gB G + a) :: st) h v h' := v_callV hd hl hm ha hci rfl rfl hrest hK k
theorem v_cs0v {M' : MM} {idx : Nat} {h1 : PH} (hd : dn M pc (.invokestatic idx) 3 pc') (hl : Cond.methodLink M.1.cls idx M'.1 ∈ tb) (hm : mS M' 0) (hrest : (st.map fun v => v.category).sum ≤ 8) (hK : Kx G M' d [] h none h1) (k : Vx G M (d + 1) pc' L st h1 v h') : Vx G M (d + 1) pc L (st) h v h' := v_callS hd hl hm rfl rfl hrest hK k
theorem v_cn0v {M' : MM} {idx : Nat} {h1 : PH} (hd : dn M pc (.invokestatic idx) 3 pc') (hl : (M.1.cls, idx, M'.1) ∈ nsL) (hm : mS M' 0) (hrest : (st.map fun v => v.category).sum ≤ 8) (hK : Kx G M' d [] h none h1) (k : Vx G M (d + 1) pc' L st h1 v h') : Vx G M (d + 1) pc L (st) h v h' := v_callSN hd hl hm rfl rfl hrest hK k
theorem v_cv1i {r : Int32} {y0 : Value} {M' : MM} {idx a ci n2 : Nat} {h1 : PH} (hd : dn M pc (.invokevirtual idx) 3 pc') (hl : Cond.methodLink M.1.cls idx M'.1 ∈ tb) (hm : mV M' 1) (ha : shL[a]? = some (ci, n2)) (hci : (clsL[ci]?.map fun r => r.1) = some M'.1.cls) (hrest : (st.map fun v => v.category).sum ≤ 8) (hK : Kx G M' d (.ref (gB G + a) :: [y0]) h (some (.int r)) h1) (k : Vx G M (d + 1) pc' L (.int r :: st) h1 v h') : Vx G M (d + 1) pc L (y0 :: .ref (gB G + a) :: st) h v h' := v_callV hd hl hm ha hci rfl rfl hrest hK k
theorem v_cs1i {r : Int32} {y0 : Value} {M' : MM} {idx : Nat} {h1 : PH} (hd : dn M pc (.invokestatic idx) 3 pc') (hl : Cond.methodLink M.1.cls idx M'.1 ∈ tb) (hm : mS M' 1) (hrest : (st.map fun v => v.category).sum ≤ 8) (hK : Kx G M' d [y0] h (some (.int r)) h1) (k : Vx G M (d + 1) pc' L (.int r :: st) h1 v h') : Vx G M (d + 1) pc L (y0 :: st) h v h' := v_callS hd hl hm rfl rfl hrest hK k
theorem v_cn1i {r : Int32} {y0 : Value} {M' : MM} {idx : Nat} {h1 : PH} (hd : dn M pc (.invokestatic idx) 3 pc') (hl : (M.1.cls, idx, M'.1) ∈ nsL) (hm : mS M' 1) (hrest : (st.map fun v => v.category).sum ≤ 8) (hK : Kx G M' d [y0] h (some (.int r)) h1) (k : Vx G M (d + 1) pc' L (.int r :: st) h1 v h') : Vx G M (d + 1) pc L (y0 :: st) h v h' := v_callSN hd hl hm rfl rfl hrest hK k
theorem v_cv1v {y0 : Value} {M' : MM} {idx a ci n2 : Nat} {h1 : PH} (hd : dn M pc (.invokevirtual idx) 3 pc') (hl : Cond.methodLink M.1.cls idx M'.1 ∈ tb) (hm : mV M' 1) (ha : shL[a]? = some (ci, n2)) (hci : (clsL[ci]?.map fun r => r.1) = some M'.1.cls) (hrest : (st.map fun v => v.category).sum ≤ 8) (hK : Kx G M' d (.ref (gB G + a) :: [y0]) h none h1) (k : Vx G M (d + 1) pc' L st h1 v h') : Vx G M (d + 1) pc L (y0 :: .ref (gB G + a) :: st) h v h' := v_callV hd hl hm ha hci rfl rfl hrest hK k
theorem v_cs1v {y0 : Value} {M' : MM} {idx : Nat} {h1 : PH} (hd : dn M pc (.invokestatic idx) 3 pc') (hl : Cond.methodLink M.1.cls idx M'.1 ∈ tb) (hm : mS M' 1) (hrest : (st.map fun v => v.category).sum ≤ 8) (hK : Kx G M' d [y0] h none h1) (k : Vx G M (d + 1) pc' L st h1 v h') : Vx G M (d + 1) pc L (y0 :: st) h v h' := v_callS hd hl hm rfl rfl hrest hK k
theorem v_cn1v {y0 : Value} {M' : MM} {idx : Nat} {h1 : PH} (hd : dn M pc (.invokestatic idx) 3 pc') (hl : (M.1.cls, idx, M'.1) ∈ nsL) (hm : mS M' 1) (hrest : (st.map fun v => v.category).sum ≤ 8) (hK : Kx G M' d [y0] h none h1) (k : Vx G M (d + 1) pc' L st h1 v h') : Vx G M (d + 1) pc L (y0 :: st) h v h' := v_callSN hd hl hm rfl rfl hrest hK k
theorem v_cv2i {r : Int32} {y0 y1 : Value} {M' : MM} {idx a ci n2 : Nat} {h1 : PH} (hd : dn M pc (.invokevirtual idx) 3 pc') (hl : Cond.methodLink M.1.cls idx M'.1 ∈ tb) (hm : mV M' 2) (ha : shL[a]? = some (ci, n2)) (hci : (clsL[ci]?.map fun r => r.1) = some M'.1.cls) (hrest : (st.map fun v => v.category).sum ≤ 8) (hK : Kx G M' d (.ref (gB G + a) :: [y0, y1]) h (some (.int r)) h1) (k : Vx G M (d + 1) pc' L (.int r :: st) h1 v h') : Vx G M (d + 1) pc L (y1 :: y0 :: .ref (gB G + a) :: st) h v h' := v_callV hd hl hm ha hci rfl rfl hrest hK k
theorem v_cs2i {r : Int32} {y0 y1 : Value} {M' : MM} {idx : Nat} {h1 : PH} (hd : dn M pc (.invokestatic idx) 3 pc') (hl : Cond.methodLink M.1.cls idx M'.1 ∈ tb) (hm : mS M' 2) (hrest : (st.map fun v => v.category).sum ≤ 8) (hK : Kx G M' d [y0, y1] h (some (.int r)) h1) (k : Vx G M (d + 1) pc' L (.int r :: st) h1 v h') : Vx G M (d + 1) pc L (y1 :: y0 :: st) h v h' := v_callS hd hl hm rfl rfl hrest hK k
theorem v_cn2i {r : Int32} {y0 y1 : Value} {M' : MM} {idx : Nat} {h1 : PH} (hd : dn M pc (.invokestatic idx) 3 pc') (hl : (M.1.cls, idx, M'.1) ∈ nsL) (hm : mS M' 2) (hrest : (st.map fun v => v.category).sum ≤ 8) (hK : Kx G M' d [y0, y1] h (some (.int r)) h1) (k : Vx G M (d + 1) pc' L (.int r :: st) h1 v h') : Vx G M (d + 1) pc L (y1 :: y0 :: st) h v h' := v_callSN hd hl hm rfl rfl hrest hK k
theorem v_cv2v {y0 y1 : Value} {M' : MM} {idx a ci n2 : Nat} {h1 : PH} (hd : dn M pc (.invokevirtual idx) 3 pc') (hl : Cond.methodLink M.1.cls idx M'.1 ∈ tb) (hm : mV M' 2) (ha : shL[a]? = some (ci, n2)) (hci : (clsL[ci]?.map fun r => r.1) = some M'.1.cls) (hrest : (st.map fun v => v.category).sum ≤ 8) (hK : Kx G M' d (.ref (gB G + a) :: [y0, y1]) h none h1) (k : Vx G M (d + 1) pc' L st h1 v h') : Vx G M (d + 1) pc L (y1 :: y0 :: .ref (gB G + a) :: st) h v h' := v_callV hd hl hm ha hci rfl rfl hrest hK k
theorem v_cs2v {y0 y1 : Value} {M' : MM} {idx : Nat} {h1 : PH} (hd : dn M pc (.invokestatic idx) 3 pc') (hl : Cond.methodLink M.1.cls idx M'.1 ∈ tb) (hm : mS M' 2) (hrest : (st.map fun v => v.category).sum ≤ 8) (hK : Kx G M' d [y0, y1] h none h1) (k : Vx G M (d + 1) pc' L st h1 v h') : Vx G M (d + 1) pc L (y1 :: y0 :: st) h v h' := v_callS hd hl hm rfl rfl hrest hK k
theorem v_cn2v {y0 y1 : Value} {M' : MM} {idx : Nat} {h1 : PH} (hd : dn M pc (.invokestatic idx) 3 pc') (hl : (M.1.cls, idx, M'.1) ∈ nsL) (hm : mS M' 2) (hrest : (st.map fun v => v.category).sum ≤ 8) (hK : Kx G M' d [y0, y1] h none h1) (k : Vx G M (d + 1) pc' L st h1 v h') : Vx G M (d + 1) pc L (y1 :: y0 :: st) h v h' := v_callSN hd hl hm rfl rfl hrest hK k
theorem v_cv3i {r : Int32} {y0 y1 y2 : Value} {M' : MM} {idx a ci n2 : Nat} {h1 : PH} (hd : dn M pc (.invokevirtual idx) 3 pc') (hl : Cond.methodLink M.1.cls idx M'.1 ∈ tb) (hm : mV M' 3) (ha : shL[a]? = some (ci, n2)) (hci : (clsL[ci]?.map fun r => r.1) = some M'.1.cls) (hrest : (st.map fun v => v.category).sum ≤ 8) (hK : Kx G M' d (.ref (gB G + a) :: [y0, y1, y2]) h (some (.int r)) h1) (k : Vx G M (d + 1) pc' L (.int r :: st) h1 v h') : Vx G M (d + 1) pc L (y2 :: y1 :: y0 :: .ref (gB G + a) :: st) h v h' := v_callV hd hl hm ha hci rfl rfl hrest hK k
theorem v_cs3i {r : Int32} {y0 y1 y2 : Value} {M' : MM} {idx : Nat} {h1 : PH} (hd : dn M pc (.invokestatic idx) 3 pc') (hl : Cond.methodLink M.1.cls idx M'.1 ∈ tb) (hm : mS M' 3) (hrest : (st.map fun v => v.category).sum ≤ 8) (hK : Kx G M' d [y0, y1, y2] h (some (.int r)) h1) (k : Vx G M (d + 1) pc' L (.int r :: st) h1 v h') : Vx G M (d + 1) pc L (y2 :: y1 :: y0 :: st) h v h' := v_callS hd hl hm rfl rfl hrest hK k
theorem v_cn3i {r : Int32} {y0 y1 y2 : Value} {M' : MM} {idx : Nat} {h1 : PH} (hd : dn M pc (.invokestatic idx) 3 pc') (hl : (M.1.cls, idx, M'.1) ∈ nsL) (hm : mS M' 3) (hrest : (st.map fun v => v.category).sum ≤ 8) (hK : Kx G M' d [y0, y1, y2] h (some (.int r)) h1) (k : Vx G M (d + 1) pc' L (.int r :: st) h1 v h') : Vx G M (d + 1) pc L (y2 :: y1 :: y0 :: st) h v h' := v_callSN hd hl hm rfl rfl hrest hK k
theorem v_cv3v {y0 y1 y2 : Value} {M' : MM} {idx a ci n2 : Nat} {h1 : PH} (hd : dn M pc (.invokevirtual idx) 3 pc') (hl : Cond.methodLink M.1.cls idx M'.1 ∈ tb) (hm : mV M' 3) (ha : shL[a]? = some (ci, n2)) (hci : (clsL[ci]?.map fun r => r.1) = some M'.1.cls) (hrest : (st.map fun v => v.category).sum ≤ 8) (hK : Kx G M' d (.ref (gB G + a) :: [y0, y1, y2]) h none h1) (k : Vx G M (d + 1) pc' L st h1 v h') : Vx G M (d + 1) pc L (y2 :: y1 :: y0 :: .ref (gB G + a) :: st) h v h' := v_callV hd hl hm ha hci rfl rfl hrest hK k
theorem v_cs3v {y0 y1 y2 : Value} {M' : MM} {idx : Nat} {h1 : PH} (hd : dn M pc (.invokestatic idx) 3 pc') (hl : Cond.methodLink M.1.cls idx M'.1 ∈ tb) (hm : mS M' 3) (hrest : (st.map fun v => v.category).sum ≤ 8) (hK : Kx G M' d [y0, y1, y2] h none h1) (k : Vx G M (d + 1) pc' L st h1 v h') : Vx G M (d + 1) pc L (y2 :: y1 :: y0 :: st) h v h' := v_callS hd hl hm rfl rfl hrest hK k
theorem v_cn3v {y0 y1 y2 : Value} {M' : MM} {idx : Nat} {h1 : PH} (hd : dn M pc (.invokestatic idx) 3 pc') (hl : (M.1.cls, idx, M'.1) ∈ nsL) (hm : mS M' 3) (hrest : (st.map fun v => v.category).sum ≤ 8) (hK : Kx G M' d [y0, y1, y2] h none h1) (k : Vx G M (d + 1) pc' L st h1 v h') : Vx G M (d + 1) pc L (y2 :: y1 :: y0 :: st) h v h' := v_callSN hd hl hm rfl rfl hrest hK k
theorem v_cv4i {r : Int32} {y0 y1 y2 y3 : Value} {M' : MM} {idx a ci n2 : Nat} {h1 : PH} (hd : dn M pc (.invokevirtual idx) 3 pc') (hl : Cond.methodLink M.1.cls idx M'.1 ∈ tb) (hm : mV M' 4) (ha : shL[a]? = some (ci, n2)) (hci : (clsL[ci]?.map fun r => r.1) = some M'.1.cls) (hrest : (st.map fun v => v.category).sum ≤ 8) (hK : Kx G M' d (.ref (gB G + a) :: [y0, y1, y2, y3]) h (some (.int r)) h1) (k : Vx G M (d + 1) pc' L (.int r :: st) h1 v h') : Vx G M (d + 1) pc L (y3 :: y2 :: y1 :: y0 :: .ref (gB G + a) :: st) h v h' := v_callV hd hl hm ha hci rfl rfl hrest hK k
theorem v_cs4i {r : Int32} {y0 y1 y2 y3 : Value} {M' : MM} {idx : Nat} {h1 : PH} (hd : dn M pc (.invokestatic idx) 3 pc') (hl : Cond.methodLink M.1.cls idx M'.1 ∈ tb) (hm : mS M' 4) (hrest : (st.map fun v => v.category).sum ≤ 8) (hK : Kx G M' d [y0, y1, y2, y3] h (some (.int r)) h1) (k : Vx G M (d + 1) pc' L (.int r :: st) h1 v h') : Vx G M (d + 1) pc L (y3 :: y2 :: y1 :: y0 :: st) h v h' := v_callS hd hl hm rfl rfl hrest hK k
theorem v_cn4i {r : Int32} {y0 y1 y2 y3 : Value} {M' : MM} {idx : Nat} {h1 : PH} (hd : dn M pc (.invokestatic idx) 3 pc') (hl : (M.1.cls, idx, M'.1) ∈ nsL) (hm : mS M' 4) (hrest : (st.map fun v => v.category).sum ≤ 8) (hK : Kx G M' d [y0, y1, y2, y3] h (some (.int r)) h1) (k : Vx G M (d + 1) pc' L (.int r :: st) h1 v h') : Vx G M (d + 1) pc L (y3 :: y2 :: y1 :: y0 :: st) h v h' := v_callSN hd hl hm rfl rfl hrest hK k
theorem v_cv4v {y0 y1 y2 y3 : Value} {M' : MM} {idx a ci n2 : Nat} {h1 : PH} (hd : dn M pc (.invokevirtual idx) 3 pc') (hl : Cond.methodLink M.1.cls idx M'.1 ∈ tb) (hm : mV M' 4) (ha : shL[a]? = some (ci, n2)) (hci : (clsL[ci]?.map fun r => r.1) = some M'.1.cls) (hrest : (st.map fun v => v.category).sum ≤ 8) (hK : Kx G M' d (.ref (gB G + a) :: [y0, y1, y2, y3]) h none h1) (k : Vx G M (d + 1) pc' L st h1 v h') : Vx G M (d + 1) pc L (y3 :: y2 :: y1 :: y0 :: .ref (gB G + a) :: st) h v h' := v_callV hd hl hm ha hci rfl rfl hrest hK k
theorem v_cs4v {y0 y1 y2 y3 : Value} {M' : MM} {idx : Nat} {h1 : PH} (hd : dn M pc (.invokestatic idx) 3 pc') (hl : Cond.methodLink M.1.cls idx M'.1 ∈ tb) (hm : mS M' 4) (hrest : (st.map fun v => v.category).sum ≤ 8) (hK : Kx G M' d [y0, y1, y2, y3] h none h1) (k : Vx G M (d + 1) pc' L st h1 v h') : Vx G M (d + 1) pc L (y3 :: y2 :: y1 :: y0 :: st) h v h' := v_callS hd hl hm rfl rfl hrest hK k
theorem v_cn4v {y0 y1 y2 y3 : Value} {M' : MM} {idx : Nat} {h1 : PH} (hd : dn M pc (.invokestatic idx) 3 pc') (hl : (M.1.cls, idx, M'.1) ∈ nsL) (hm : mS M' 4) (hrest : (st.map fun v => v.category).sum ≤ 8) (hK : Kx G M' d [y0, y1, y2, y3] h none h1) (k : Vx G M (d + 1) pc' L st h1 v h') : Vx G M (d + 1) pc L (y3 :: y2 :: y1 :: y0 :: st) h v h' := v_callSN hd hl hm rfl rfl hrest hK k
theorem v_cv5i {r : Int32} {y0 y1 y2 y3 y4 : Value} {M' : MM} {idx a ci n2 : Nat} {h1 : PH} (hd : dn M pc (.invokevirtual idx) 3 pc') (hl : Cond.methodLink M.1.cls idx M'.1 ∈ tb) (hm : mV M' 5) (ha : shL[a]? = some (ci, n2)) (hci : (clsL[ci]?.map fun r => r.1) = some M'.1.cls) (hrest : (st.map fun v => v.category).sum ≤ 8) (hK : Kx G M' d (.ref (gB G + a) :: [y0, y1, y2, y3, y4]) h (some (.int r)) h1) (k : Vx G M (d + 1) pc' L (.int r :: st) h1 v h') : Vx G M (d + 1) pc L (y4 :: y3 :: y2 :: y1 :: y0 :: .ref (gB G + a) :: st) h v h' := v_callV hd hl hm ha hci rfl rfl hrest hK k
theorem v_cs5i {r : Int32} {y0 y1 y2 y3 y4 : Value} {M' : MM} {idx : Nat} {h1 : PH} (hd : dn M pc (.invokestatic idx) 3 pc') (hl : Cond.methodLink M.1.cls idx M'.1 ∈ tb) (hm : mS M' 5) (hrest : (st.map fun v => v.category).sum ≤ 8) (hK : Kx G M' d [y0, y1, y2, y3, y4] h (some (.int r)) h1) (k : Vx G M (d + 1) pc' L (.int r :: st) h1 v h') : Vx G M (d + 1) pc L (y4 :: y3 :: y2 :: y1 :: y0 :: st) h v h' := v_callS hd hl hm rfl rfl hrest hK k
theorem v_cn5i {r : Int32} {y0 y1 y2 y3 y4 : Value} {M' : MM} {idx : Nat} {h1 : PH} (hd : dn M pc (.invokestatic idx) 3 pc') (hl : (M.1.cls, idx, M'.1) ∈ nsL) (hm : mS M' 5) (hrest : (st.map fun v => v.category).sum ≤ 8) (hK : Kx G M' d [y0, y1, y2, y3, y4] h (some (.int r)) h1) (k : Vx G M (d + 1) pc' L (.int r :: st) h1 v h') : Vx G M (d + 1) pc L (y4 :: y3 :: y2 :: y1 :: y0 :: st) h v h' := v_callSN hd hl hm rfl rfl hrest hK k
theorem v_cv5v {y0 y1 y2 y3 y4 : Value} {M' : MM} {idx a ci n2 : Nat} {h1 : PH} (hd : dn M pc (.invokevirtual idx) 3 pc') (hl : Cond.methodLink M.1.cls idx M'.1 ∈ tb) (hm : mV M' 5) (ha : shL[a]? = some (ci, n2)) (hci : (clsL[ci]?.map fun r => r.1) = some M'.1.cls) (hrest : (st.map fun v => v.category).sum ≤ 8) (hK : Kx G M' d (.ref (gB G + a) :: [y0, y1, y2, y3, y4]) h none h1) (k : Vx G M (d + 1) pc' L st h1 v h') : Vx G M (d + 1) pc L (y4 :: y3 :: y2 :: y1 :: y0 :: .ref (gB G + a) :: st) h v h' := v_callV hd hl hm ha hci rfl rfl hrest hK k
theorem v_cs5v {y0 y1 y2 y3 y4 : Value} {M' : MM} {idx : Nat} {h1 : PH} (hd : dn M pc (.invokestatic idx) 3 pc') (hl : Cond.methodLink M.1.cls idx M'.1 ∈ tb) (hm : mS M' 5) (hrest : (st.map fun v => v.category).sum ≤ 8) (hK : Kx G M' d [y0, y1, y2, y3, y4] h none h1) (k : Vx G M (d + 1) pc' L st h1 v h') : Vx G M (d + 1) pc L (y4 :: y3 :: y2 :: y1 :: y0 :: st) h v h' := v_callS hd hl hm rfl rfl hrest hK k
theorem v_cn5v {y0 y1 y2 y3 y4 : Value} {M' : MM} {idx : Nat} {h1 : PH} (hd : dn M pc (.invokestatic idx) 3 pc') (hl : (M.1.cls, idx, M'.1) ∈ nsL) (hm : mS M' 5) (hrest : (st.map fun v => v.category).sum ≤ 8) (hK : Kx G M' d [y0, y1, y2, y3, y4] h none h1) (k : Vx G M (d + 1) pc' L st h1 v h') : Vx G M (d + 1) pc L (y4 :: y3 :: y2 :: y1 :: y0 :: st) h v h' := v_callSN hd hl hm rfl rfl hrest hK k
/-! the JDK's max, min, abs, arraycopy -/
def imax (x y : Int32) : Int32 := if x < y then y else x
def imin (x y : Int32) : Int32 := if y < x then y else x
def iabs (x : Int32) : Int32 := if 0 ≤ x then x else 0 - x
def wmax : Prop := Cond.static Lib.Math.max.name ∈ tb ∧ Cond.initialized "java/lang/Math" ∈ tb ∧ Cond.code Lib.Math.max.name Lib.Math.max.code 2 (some .int) ∈ tb
def wmin : Prop := Cond.static Lib.Math.min.name ∈ tb ∧ Cond.initialized "java/lang/Math" ∈ tb ∧ Cond.code Lib.Math.min.name Lib.Math.min.code 2 (some .int) ∈ tb
def wabs : Prop := Cond.static Lib.Math.abs.name ∈ tb ∧ Cond.initialized "java/lang/Math" ∈ tb ∧ Cond.code Lib.Math.abs.name Lib.Math.abs.code 1 (some .int) ∈ tb
set_option maxRecDepth 20000 in
theorem w_max : wmax := ⟨tb_in (by decide +kernel) rfl, tb_in (by decide +kernel) rfl, tb_in (by decide +kernel) rfl⟩
set_option maxRecDepth 20000 in
theorem w_min : wmin := ⟨tb_in (by decide +kernel) rfl, tb_in (by decide +kernel) rfl, tb_in (by decide +kernel) rfl⟩
set_option maxRecDepth 20000 in
theorem w_abs : wabs := ⟨tb_in (by decide +kernel) rfl, tb_in (by decide +kernel) rfl, tb_in (by decide +kernel) rfl⟩
theorem rm_loc {d k n : Nat} (h : k ≤ 8) (hn : n ≤ 56) : k + n ≤ (rmd d).locals := by simp only [rmd]; omega
theorem rm_fr {d : Nat} : 1 ≤ (rmd d).frames := by simp only [rmd]; omega
theorem v_mmax {idx : Nat} {x y : Int32} (hd : dn M pc (.invokestatic idx) 3 pc') (hl : Cond.methodLink M.1.cls idx Lib.Math.max.name ∈ tb) (hrest : (st.map fun v => v.category).sum ≤ 8) (k : Vx G M d pc' L (.int (imax x y) :: st) h v h') : Vx G M d pc L (.int y :: .int x :: st) h v h' := by
  obtain ⟨hd, rfl⟩ := hd
  intro p e s m args below meth c C H locs ls hR hS hL
  have hts := C.2.2.2.2.2.1
  exact va_mmax C.1 C.2.1 (C.2.2.2.1.trans hL.1.symm) C.2.2.2.2.1 (hts _ hl) (hts _ w_max.1) (hts _ w_max.2.1) (hts _ w_max.2.2) rm_fr (rm_loc hrest (by decide)) (Nat.zero_le _) (Nat.zero_le _) hd (k p e s m args below meth c C H locs ls hR hS hL)
theorem v_mmin {idx : Nat} {x y : Int32} (hd : dn M pc (.invokestatic idx) 3 pc') (hl : Cond.methodLink M.1.cls idx Lib.Math.min.name ∈ tb) (hrest : (st.map fun v => v.category).sum ≤ 8) (k : Vx G M d pc' L (.int (imin x y) :: st) h v h') : Vx G M d pc L (.int y :: .int x :: st) h v h' := by
  obtain ⟨hd, rfl⟩ := hd
  intro p e s m args below meth c C H locs ls hR hS hL
  have hts := C.2.2.2.2.2.1
  exact va_mmin C.1 C.2.1 (C.2.2.2.1.trans hL.1.symm) C.2.2.2.2.1 (hts _ hl) (hts _ w_min.1) (hts _ w_min.2.1) (hts _ w_min.2.2) rm_fr (rm_loc hrest (by decide)) (Nat.zero_le _) (Nat.zero_le _) hd (k p e s m args below meth c C H locs ls hR hS hL)
theorem v_mabs {idx : Nat} {x : Int32} (hd : dn M pc (.invokestatic idx) 3 pc') (hl : Cond.methodLink M.1.cls idx Lib.Math.abs.name ∈ tb) (hrest : (st.map fun v => v.category).sum ≤ 8) (k : Vx G M d pc' L (.int (iabs x) :: st) h v h') : Vx G M d pc L (.int x :: st) h v h' := by
  obtain ⟨hd, rfl⟩ := hd
  intro p e s m args below meth c C H locs ls hR hS hL
  have hts := C.2.2.2.2.2.1
  exact va_mabs C.1 C.2.1 (C.2.2.2.1.trans hL.1.symm) C.2.2.2.2.1 (hts _ hl) (hts _ w_abs.1) (hts _ w_abs.2.1) (hts _ w_abs.2.2) rm_fr (rm_loc hrest (by decide)) (Nat.zero_le _) (Nat.zero_le _) hd (k p e s m args below meth c C H locs ls hR hS hL)
set_option maxRecDepth 20000 in
theorem w_cpy : Cond.native arraycopyName ∈ tb ∧ Cond.static arraycopyName ∈ tb ∧ Cond.initialized "java/lang/System" ∈ tb := ⟨tb_in (by decide +kernel) rfl, tb_in (by decide +kernel) rfl, tb_in (by decide +kernel) rfl⟩
/-- what arraycopy asks -/
def cc {ρ : Type} (n0 n1 : Nat) (sp dp n : Int32) (k : Option ρ) : Option ρ := if sp < 0 ∨ dp < 0 ∨ n < 0 ∨ n0 < ix sp + ix n ∨ n1 < ix dp + ix n then none else k
theorem cc_s {ρ : Type} {n0 n1 : Nat} {sp dp n : Int32} {k : Option ρ} {r : ρ} (h : cc n0 n1 sp dp n k = some r) : (¬ sp < 0 ∧ ¬ dp < 0 ∧ ¬ n < 0 ∧ ix sp + ix n ≤ n0 ∧ ix dp + ix n ≤ n1) ∧ k = some r := by
  unfold cc at h
  split at h
  · cases h
  · rename_i q
    refine ⟨⟨fun z => q (Or.inl z), fun z => q (Or.inr (Or.inl z)), fun z => q (Or.inr (Or.inr (Or.inl z))), Nat.not_lt.mp fun z => q (Or.inr (Or.inr (Or.inr (Or.inl z)))), Nat.not_lt.mp fun z => q (Or.inr (Or.inr (Or.inr (Or.inr z))))⟩, h⟩
theorem v_cpy {ρ : Type} {f : PH → Option ρ} {r : ρ} {idx a0 a1 n0 n1 : Nat} {sp dp n : Int32} (hd : dn M pc (.invokestatic idx) 3 pc') (hl : Cond.methodLink M.1.cls idx arraycopyName ∈ tb) (ha0 : shL[a0]? = some (20, n0)) (ha1 : shL[a1]? = some (20, n1)) (hrest : (st.map fun v => v.category).sum ≤ 8) (hq : ¬ sp < 0 ∧ ¬ dp < 0 ∧ ¬ n < 0 ∧ ix sp + ix n ≤ n0 ∧ ix dp + ix n ≤ n1) (hm : lt (cpy h a0 a1 (ix sp) (ix dp) (ix n)) f = some r) (k : ∀ h1 : PH, f h1 = some r → Vx G M d pc' L st h1 v h') : Vx G M d pc L (.int n :: .int dp :: .ref (gB G + a1) :: .int sp :: .ref (gB G + a0) :: st) h v h' := by
  obtain ⟨hd, rfl⟩ := hd
  intro p e s m args below meth c C H locs ls hR hS hL
  have hts := C.2.2.2.2.2.1
  have he0 := wd_at (B := gB G) (cA := gA G) (h := h) ha0
  have he1 := wd_at (B := gB G) (cA := gA G) (h := h) ha1
  rw [ce_int] at he0 he1
  refine va_copyi C.1 C.2.1 (C.2.2.2.1.trans hL.1.symm) C.2.2.2.2.1 (hts _ hl) (hts _ w_cpy.1) (hts _ w_cpy.2.1) (hts _ w_cpy.2.2) C.2.2.2.2.2.2.2.1 hR (wd_D _ _ _) hS a0 a1 0 0 (ty := .int) he0 he1 rfl rfl rfl hq.1 hq.2.1 hq.2.2.1 hq.2.2.2.1 hq.2.2.2.2 (fun _ _ => rfl) rm_fr (rm_loc hrest (by decide)) hd (fun H1 locs1 hP1 hD1 hS1 => ?_)
  rw [wd_set (t := (20, n1)) (f := va_cpy (h a0) (h a1) (ix sp) (ix dp) (ix n)) ha1 (by rw [ce_int]; simp [setC, gA])] at hP1
  exact k _ hm p e s m args below meth c C H1 locs1 ls hP1 hS1 hL
/-! switches -/
def sel : List (Int32 × Nat) → Nat → Int32 → Nat
  | [], t, _ => t
  | (c, t) :: r, e, x => if x = c then t else sel r e x
theorem v_selc {c : Int32} {t e : Nat} {r : List (Int32 × Nat)} {x : Int32} (k1 : x = c → Vx G M d t L st h v h') (k2 : ¬ x = c → Vx G M d (sel r e x) L st h v h') : Vx G M d (sel ((c, t) :: r) e x) L st h v h' := by
  unfold sel
  split
  · exact k1 (by assumption)
  · exact k2 (by assumption)
theorem v_seln {e : Nat} {x : Int32} (k : Vx G M d e L st h v h') : Vx G M d (sel [] e x) L st h v h' := k
end WK
theorem sh_0 : shL[0]? = some (0, 14) := by decide +kernel
theorem sh_1 : shL[1]? = some (1, 8) := by decide +kernel
theorem sh_2 : shL[2]? = some (20, 132) := by decide +kernel
theorem sh_3 : shL[3]? = some (1, 8) := by decide +kernel
theorem sh_4 : shL[4]? = some (20, 132) := by decide +kernel
theorem sh_5 : shL[5]? = some (11, 14) := by decide +kernel
theorem sh_6 : shL[6]? = some (6, 4) := by decide +kernel
theorem sh_7 : shL[7]? = some (20, 80) := by decide +kernel
theorem sh_8 : shL[8]? = some (6, 4) := by decide +kernel
theorem sh_9 : shL[9]? = some (20, 800) := by decide +kernel
theorem sh_10 : shL[10]? = some (6, 4) := by decide +kernel
theorem sh_11 : shL[11]? = some (20, 80) := by decide +kernel
theorem sh_12 : shL[12]? = some (6, 4) := by decide +kernel
theorem sh_13 : shL[13]? = some (20, 80) := by decide +kernel
theorem sh_14 : shL[14]? = some (6, 4) := by decide +kernel
theorem sh_15 : shL[15]? = some (20, 80) := by decide +kernel
theorem sh_16 : shL[16]? = some (6, 4) := by decide +kernel
theorem sh_17 : shL[17]? = some (20, 600) := by decide +kernel
theorem sh_18 : shL[18]? = some (6, 4) := by decide +kernel
theorem sh_19 : shL[19]? = some (20, 9) := by decide +kernel
theorem sh_20 : shL[20]? = some (6, 4) := by decide +kernel
theorem sh_21 : shL[21]? = some (20, 8) := by decide +kernel
theorem sh_22 : shL[22]? = some (6, 4) := by decide +kernel
theorem sh_23 : shL[23]? = some (20, 5) := by decide +kernel
theorem sh_24 : shL[24]? = some (6, 4) := by decide +kernel
theorem sh_25 : shL[25]? = some (20, 16) := by decide +kernel
theorem sh_26 : shL[26]? = some (6, 4) := by decide +kernel
theorem sh_27 : shL[27]? = some (20, 16) := by decide +kernel
theorem sh_28 : shL[28]? = some (6, 4) := by decide +kernel
theorem sh_29 : shL[29]? = some (20, 12) := by decide +kernel
theorem sh_30 : shL[30]? = some (6, 4) := by decide +kernel
theorem sh_31 : shL[31]? = some (20, 24) := by decide +kernel
theorem sh_32 : shL[32]? = some (6, 4) := by decide +kernel
theorem sh_33 : shL[33]? = some (20, 16) := by decide +kernel
theorem sh_34 : shL[34]? = some (3, 5) := by decide +kernel
theorem sh_35 : shL[35]? = some (20, 12) := by decide +kernel
theorem sh_36 : shL[36]? = some (20, 64) := by decide +kernel
theorem sh_37 : shL[37]? = some (1, 8) := by decide +kernel
theorem sh_38 : shL[38]? = some (20, 132) := by decide +kernel
theorem sh_39 : shL[39]? = some (11, 14) := by decide +kernel
theorem sh_40 : shL[40]? = some (6, 4) := by decide +kernel
theorem sh_41 : shL[41]? = some (20, 80) := by decide +kernel
theorem sh_42 : shL[42]? = some (6, 4) := by decide +kernel
theorem sh_43 : shL[43]? = some (20, 800) := by decide +kernel
theorem sh_44 : shL[44]? = some (6, 4) := by decide +kernel
theorem sh_45 : shL[45]? = some (20, 80) := by decide +kernel
theorem sh_46 : shL[46]? = some (6, 4) := by decide +kernel
theorem sh_47 : shL[47]? = some (20, 80) := by decide +kernel
theorem sh_48 : shL[48]? = some (6, 4) := by decide +kernel
theorem sh_49 : shL[49]? = some (20, 80) := by decide +kernel
theorem sh_50 : shL[50]? = some (6, 4) := by decide +kernel
theorem sh_51 : shL[51]? = some (20, 600) := by decide +kernel
theorem sh_52 : shL[52]? = some (6, 4) := by decide +kernel
theorem sh_53 : shL[53]? = some (20, 9) := by decide +kernel
theorem sh_54 : shL[54]? = some (6, 4) := by decide +kernel
theorem sh_55 : shL[55]? = some (20, 8) := by decide +kernel
theorem sh_56 : shL[56]? = some (6, 4) := by decide +kernel
theorem sh_57 : shL[57]? = some (20, 5) := by decide +kernel
theorem sh_58 : shL[58]? = some (6, 4) := by decide +kernel
theorem sh_59 : shL[59]? = some (20, 16) := by decide +kernel
theorem sh_60 : shL[60]? = some (6, 4) := by decide +kernel
theorem sh_61 : shL[61]? = some (20, 16) := by decide +kernel
theorem sh_62 : shL[62]? = some (6, 4) := by decide +kernel
theorem sh_63 : shL[63]? = some (20, 12) := by decide +kernel
theorem sh_64 : shL[64]? = some (6, 4) := by decide +kernel
theorem sh_65 : shL[65]? = some (20, 24) := by decide +kernel
theorem sh_66 : shL[66]? = some (6, 4) := by decide +kernel
theorem sh_67 : shL[67]? = some (20, 16) := by decide +kernel
theorem sh_68 : shL[68]? = some (7, 4) := by decide +kernel
theorem sh_69 : shL[69]? = some (7, 4) := by decide +kernel
theorem sh_70 : shL[70]? = some (4, 4) := by decide +kernel
theorem sh_71 : shL[71]? = some (22, 6) := by decide +kernel
theorem sh_72 : shL[72]? = some (20, 6) := by decide +kernel
theorem sh_73 : shL[73]? = some (1, 8) := by decide +kernel
theorem sh_74 : shL[74]? = some (20, 132) := by decide +kernel
theorem sh_75 : shL[75]? = some (1, 8) := by decide +kernel
theorem sh_76 : shL[76]? = some (20, 132) := by decide +kernel
theorem sh_77 : shL[77]? = some (1, 8) := by decide +kernel
theorem sh_78 : shL[78]? = some (20, 132) := by decide +kernel
theorem sh_79 : shL[79]? = some (1, 8) := by decide +kernel
theorem sh_80 : shL[80]? = some (20, 132) := by decide +kernel
theorem sh_81 : shL[81]? = some (1, 8) := by decide +kernel
theorem sh_82 : shL[82]? = some (20, 132) := by decide +kernel
theorem sh_83 : shL[83]? = some (1, 8) := by decide +kernel
theorem sh_84 : shL[84]? = some (20, 132) := by decide +kernel
theorem sh_85 : shL[85]? = some (10, 6) := by decide +kernel
theorem sh_86 : shL[86]? = some (21, 400) := by decide +kernel
theorem sh_87 : shL[87]? = some (20, 401) := by decide +kernel
theorem sh_88 : shL[88]? = some (20, 401) := by decide +kernel
theorem sh_89 : shL[89]? = some (20, 401) := by decide +kernel
theorem sh_90 : shL[90]? = some (5, 10) := by decide +kernel
theorem sh_91 : shL[91]? = some (6, 4) := by decide +kernel
theorem sh_92 : shL[92]? = some (20, 80) := by decide +kernel
theorem sh_93 : shL[93]? = some (6, 4) := by decide +kernel
theorem sh_94 : shL[94]? = some (20, 800) := by decide +kernel
theorem sh_95 : shL[95]? = some (9, 2) := by decide +kernel
theorem sh_96 : shL[96]? = some (20, 12) := by decide +kernel
theorem sh_97 : shL[97]? = some (20, 12) := by decide +kernel
theorem sh_98 : shL[98]? = some (2, 3) := by decide +kernel
theorem sh_99 : shL[99]? = some (20, 8) := by decide +kernel
theorem sh_100 : shL[100]? = some (20, 17) := by decide +kernel
theorem sh_101 : shL[101]? = some (20, 17) := by decide +kernel
theorem sh_102 : shL[102]? = some (8, 2) := by decide +kernel
theorem sh_103 : shL[103]? = some (20, 1024) := by decide +kernel
theorem sh_104 : shL[104]? = some (12, 75) := by decide +kernel
theorem sh_105 : shL[105]? = some (20, 115) := by decide +kernel
theorem sh_106 : shL[106]? = some (20, 690) := by decide +kernel
theorem sh_107 : shL[107]? = some (20, 115) := by decide +kernel
theorem sh_108 : shL[108]? = some (20, 12) := by decide +kernel
theorem sh_109 : shL[109]? = some (20, 12) := by decide +kernel
theorem sh_110 : shL[110]? = some (20, 600) := by decide +kernel
theorem sh_111 : shL[111]? = some (20, 400) := by decide +kernel
theorem sh_112 : shL[112]? = some (20, 141) := by decide +kernel
theorem sh_113 : shL[113]? = some (20, 2) := by decide +kernel
theorem sh_114 : shL[114]? = some (20, 48) := by decide +kernel
theorem sh_115 : shL[115]? = some (20, 48) := by decide +kernel
theorem sh_116 : shL[116]? = some (20, 48) := by decide +kernel
theorem sh_117 : shL[117]? = some (20, 48) := by decide +kernel
theorem sh_118 : shL[118]? = some (20, 1200) := by decide +kernel
theorem sh_119 : shL[119]? = some (20, 1200) := by decide +kernel
theorem sh_120 : shL[120]? = some (20, 40) := by decide +kernel
theorem sh_121 : shL[121]? = some (20, 96) := by decide +kernel
theorem sh_122 : shL[122]? = some (20, 160) := by decide +kernel
theorem sh_123 : shL[123]? = some (20, 24) := by decide +kernel
theorem sh_124 : shL[124]? = some (20, 12) := by decide +kernel
theorem sh_125 : shL[125]? = some (20, 420) := by decide +kernel
theorem sh_126 : shL[126]? = some (20, 12) := by decide +kernel
theorem sh_127 : shL[127]? = some (20, 9) := by decide +kernel
theorem sh_128 : shL[128]? = some (20, 100) := by decide +kernel
theorem sh_129 : shL[129]? = some (20, 8) := by decide +kernel
theorem sh_130 : shL[130]? = some (20, 256) := by decide +kernel
theorem sh_131 : shL[131]? = some (20, 8) := by decide +kernel
theorem sh_132 : shL[132]? = some (20, 5) := by decide +kernel
theorem sh_133 : shL[133]? = some (20, 8) := by decide +kernel
theorem sh_134 : shL[134]? = some (20, 8) := by decide +kernel
theorem sh_135 : shL[135]? = some (20, 16) := by decide +kernel
theorem sh_136 : shL[136]? = some (20, 1681) := by decide +kernel
theorem sh_137 : shL[137]? = some (20, 6) := by decide +kernel
theorem sh_138 : shL[138]? = some (20, 6) := by decide +kernel
theorem sh_139 : shL[139]? = some (20, 6) := by decide +kernel
theorem sh_140 : shL[140]? = some (20, 6) := by decide +kernel
theorem sh_141 : shL[141]? = some (20, 12) := by decide +kernel
theorem sh_142 : shL[142]? = some (20, 21) := by decide +kernel
theorem sh_143 : shL[143]? = some (20, 21) := by decide +kernel
theorem sh_144 : shL[144]? = some (20, 8) := by decide +kernel
theorem sh_145 : shL[145]? = some (20, 8) := by decide +kernel
theorem sh_146 : shL[146]? = some (20, 16807) := by decide +kernel
theorem sh_147 : shL[147]? = some (20, 5) := by decide +kernel
theorem sh_148 : shL[148]? = some (20, 2400) := by decide +kernel
theorem rf_0_0 : rf 0 0 = some 1 := by decide +kernel
theorem rf_0_1 : rf 0 1 = some 37 := by decide +kernel
theorem rf_0_2 : rf 0 2 = some 3 := by decide +kernel
theorem rf_0_3 : rf 0 3 = some 5 := by decide +kernel
theorem rf_0_4 : rf 0 4 = some 39 := by decide +kernel
theorem rf_0_5 : rf 0 5 = some 68 := by decide +kernel
theorem rf_0_6 : rf 0 6 = some 69 := by decide +kernel
theorem rf_0_7 : rf 0 7 = some 70 := by decide +kernel
theorem rf_0_8 : rf 0 8 = some 85 := by decide +kernel
theorem rf_0_9 : rf 0 9 = some 90 := by decide +kernel
theorem rf_0_10 : rf 0 10 = some 95 := by decide +kernel
theorem rf_0_11 : rf 0 11 = some 98 := by decide +kernel
theorem rf_0_12 : rf 0 12 = some 102 := by decide +kernel
theorem rf_0_13 : rf 0 13 = none := by decide +kernel
theorem rf_1_0 : rf 1 0 = some 2 := by decide +kernel
theorem rf_1_1 : rf 1 1 = none := by decide +kernel
theorem rf_1_2 : rf 1 2 = none := by decide +kernel
theorem rf_1_3 : rf 1 3 = none := by decide +kernel
theorem rf_1_4 : rf 1 4 = none := by decide +kernel
theorem rf_1_5 : rf 1 5 = none := by decide +kernel
theorem rf_1_6 : rf 1 6 = none := by decide +kernel
theorem rf_1_7 : rf 1 7 = none := by decide +kernel
theorem rf_3_0 : rf 3 0 = some 4 := by decide +kernel
theorem rf_3_1 : rf 3 1 = none := by decide +kernel
theorem rf_3_2 : rf 3 2 = none := by decide +kernel
theorem rf_3_3 : rf 3 3 = none := by decide +kernel
theorem rf_3_4 : rf 3 4 = none := by decide +kernel
theorem rf_3_5 : rf 3 5 = none := by decide +kernel
theorem rf_3_6 : rf 3 6 = none := by decide +kernel
theorem rf_3_7 : rf 3 7 = none := by decide +kernel
theorem rf_5_0 : rf 5 0 = some 6 := by decide +kernel
theorem rf_5_1 : rf 5 1 = some 8 := by decide +kernel
theorem rf_5_2 : rf 5 2 = some 10 := by decide +kernel
theorem rf_5_3 : rf 5 3 = some 12 := by decide +kernel
theorem rf_5_4 : rf 5 4 = some 14 := by decide +kernel
theorem rf_5_5 : rf 5 5 = some 16 := by decide +kernel
theorem rf_5_6 : rf 5 6 = some 18 := by decide +kernel
theorem rf_5_7 : rf 5 7 = some 20 := by decide +kernel
theorem rf_5_8 : rf 5 8 = some 22 := by decide +kernel
theorem rf_5_9 : rf 5 9 = some 24 := by decide +kernel
theorem rf_5_10 : rf 5 10 = some 26 := by decide +kernel
theorem rf_5_11 : rf 5 11 = some 28 := by decide +kernel
theorem rf_5_12 : rf 5 12 = some 30 := by decide +kernel
theorem rf_5_13 : rf 5 13 = some 32 := by decide +kernel
theorem rf_6_0 : rf 6 0 = none := by decide +kernel
theorem rf_6_1 : rf 6 1 = none := by decide +kernel
theorem rf_6_2 : rf 6 2 = some 7 := by decide +kernel
theorem rf_6_3 : rf 6 3 = none := by decide +kernel
theorem rf_8_0 : rf 8 0 = none := by decide +kernel
theorem rf_8_1 : rf 8 1 = none := by decide +kernel
theorem rf_8_2 : rf 8 2 = some 9 := by decide +kernel
theorem rf_8_3 : rf 8 3 = none := by decide +kernel
theorem rf_10_0 : rf 10 0 = none := by decide +kernel
theorem rf_10_1 : rf 10 1 = none := by decide +kernel
theorem rf_10_2 : rf 10 2 = some 11 := by decide +kernel
theorem rf_10_3 : rf 10 3 = none := by decide +kernel
theorem rf_12_0 : rf 12 0 = none := by decide +kernel
theorem rf_12_1 : rf 12 1 = none := by decide +kernel
theorem rf_12_2 : rf 12 2 = some 13 := by decide +kernel
theorem rf_12_3 : rf 12 3 = none := by decide +kernel
theorem rf_14_0 : rf 14 0 = none := by decide +kernel
theorem rf_14_1 : rf 14 1 = none := by decide +kernel
theorem rf_14_2 : rf 14 2 = some 15 := by decide +kernel
theorem rf_14_3 : rf 14 3 = none := by decide +kernel
theorem rf_16_0 : rf 16 0 = none := by decide +kernel
theorem rf_16_1 : rf 16 1 = none := by decide +kernel
theorem rf_16_2 : rf 16 2 = some 17 := by decide +kernel
theorem rf_16_3 : rf 16 3 = none := by decide +kernel
theorem rf_18_0 : rf 18 0 = none := by decide +kernel
theorem rf_18_1 : rf 18 1 = none := by decide +kernel
theorem rf_18_2 : rf 18 2 = some 19 := by decide +kernel
theorem rf_18_3 : rf 18 3 = none := by decide +kernel
theorem rf_20_0 : rf 20 0 = none := by decide +kernel
theorem rf_20_1 : rf 20 1 = none := by decide +kernel
theorem rf_20_2 : rf 20 2 = some 21 := by decide +kernel
theorem rf_20_3 : rf 20 3 = none := by decide +kernel
theorem rf_22_0 : rf 22 0 = none := by decide +kernel
theorem rf_22_1 : rf 22 1 = none := by decide +kernel
theorem rf_22_2 : rf 22 2 = some 23 := by decide +kernel
theorem rf_22_3 : rf 22 3 = none := by decide +kernel
theorem rf_24_0 : rf 24 0 = none := by decide +kernel
theorem rf_24_1 : rf 24 1 = none := by decide +kernel
theorem rf_24_2 : rf 24 2 = some 25 := by decide +kernel
theorem rf_24_3 : rf 24 3 = none := by decide +kernel
theorem rf_26_0 : rf 26 0 = none := by decide +kernel
theorem rf_26_1 : rf 26 1 = none := by decide +kernel
theorem rf_26_2 : rf 26 2 = some 27 := by decide +kernel
theorem rf_26_3 : rf 26 3 = none := by decide +kernel
theorem rf_28_0 : rf 28 0 = none := by decide +kernel
theorem rf_28_1 : rf 28 1 = none := by decide +kernel
theorem rf_28_2 : rf 28 2 = some 29 := by decide +kernel
theorem rf_28_3 : rf 28 3 = none := by decide +kernel
theorem rf_30_0 : rf 30 0 = none := by decide +kernel
theorem rf_30_1 : rf 30 1 = none := by decide +kernel
theorem rf_30_2 : rf 30 2 = some 31 := by decide +kernel
theorem rf_30_3 : rf 30 3 = none := by decide +kernel
theorem rf_32_0 : rf 32 0 = none := by decide +kernel
theorem rf_32_1 : rf 32 1 = none := by decide +kernel
theorem rf_32_2 : rf 32 2 = some 33 := by decide +kernel
theorem rf_32_3 : rf 32 3 = none := by decide +kernel
theorem rf_34_0 : rf 34 0 = some 6 := by decide +kernel
theorem rf_34_1 : rf 34 1 = some 8 := by decide +kernel
theorem rf_34_2 : rf 34 2 = some 35 := by decide +kernel
theorem rf_34_3 : rf 34 3 = some 36 := by decide +kernel
theorem rf_34_4 : rf 34 4 = none := by decide +kernel
theorem rf_37_0 : rf 37 0 = some 38 := by decide +kernel
theorem rf_37_1 : rf 37 1 = none := by decide +kernel
theorem rf_37_2 : rf 37 2 = none := by decide +kernel
theorem rf_37_3 : rf 37 3 = none := by decide +kernel
theorem rf_37_4 : rf 37 4 = none := by decide +kernel
theorem rf_37_5 : rf 37 5 = none := by decide +kernel
theorem rf_37_6 : rf 37 6 = none := by decide +kernel
theorem rf_37_7 : rf 37 7 = none := by decide +kernel
theorem rf_39_0 : rf 39 0 = some 40 := by decide +kernel
theorem rf_39_1 : rf 39 1 = some 42 := by decide +kernel
theorem rf_39_2 : rf 39 2 = some 44 := by decide +kernel
theorem rf_39_3 : rf 39 3 = some 46 := by decide +kernel
theorem rf_39_4 : rf 39 4 = some 48 := by decide +kernel
theorem rf_39_5 : rf 39 5 = some 50 := by decide +kernel
theorem rf_39_6 : rf 39 6 = some 52 := by decide +kernel
theorem rf_39_7 : rf 39 7 = some 54 := by decide +kernel
theorem rf_39_8 : rf 39 8 = some 56 := by decide +kernel
theorem rf_39_9 : rf 39 9 = some 58 := by decide +kernel
theorem rf_39_10 : rf 39 10 = some 60 := by decide +kernel
theorem rf_39_11 : rf 39 11 = some 62 := by decide +kernel
theorem rf_39_12 : rf 39 12 = some 64 := by decide +kernel
theorem rf_39_13 : rf 39 13 = some 66 := by decide +kernel
theorem rf_40_0 : rf 40 0 = none := by decide +kernel
theorem rf_40_1 : rf 40 1 = none := by decide +kernel
theorem rf_40_2 : rf 40 2 = some 41 := by decide +kernel
theorem rf_40_3 : rf 40 3 = none := by decide +kernel
theorem rf_42_0 : rf 42 0 = none := by decide +kernel
theorem rf_42_1 : rf 42 1 = none := by decide +kernel
theorem rf_42_2 : rf 42 2 = some 43 := by decide +kernel
theorem rf_42_3 : rf 42 3 = none := by decide +kernel
theorem rf_44_0 : rf 44 0 = none := by decide +kernel
theorem rf_44_1 : rf 44 1 = none := by decide +kernel
theorem rf_44_2 : rf 44 2 = some 45 := by decide +kernel
theorem rf_44_3 : rf 44 3 = none := by decide +kernel
theorem rf_46_0 : rf 46 0 = none := by decide +kernel
theorem rf_46_1 : rf 46 1 = none := by decide +kernel
theorem rf_46_2 : rf 46 2 = some 47 := by decide +kernel
theorem rf_46_3 : rf 46 3 = none := by decide +kernel
theorem rf_48_0 : rf 48 0 = none := by decide +kernel
theorem rf_48_1 : rf 48 1 = none := by decide +kernel
theorem rf_48_2 : rf 48 2 = some 49 := by decide +kernel
theorem rf_48_3 : rf 48 3 = none := by decide +kernel
theorem rf_50_0 : rf 50 0 = none := by decide +kernel
theorem rf_50_1 : rf 50 1 = none := by decide +kernel
theorem rf_50_2 : rf 50 2 = some 51 := by decide +kernel
theorem rf_50_3 : rf 50 3 = none := by decide +kernel
theorem rf_52_0 : rf 52 0 = none := by decide +kernel
theorem rf_52_1 : rf 52 1 = none := by decide +kernel
theorem rf_52_2 : rf 52 2 = some 53 := by decide +kernel
theorem rf_52_3 : rf 52 3 = none := by decide +kernel
theorem rf_54_0 : rf 54 0 = none := by decide +kernel
theorem rf_54_1 : rf 54 1 = none := by decide +kernel
theorem rf_54_2 : rf 54 2 = some 55 := by decide +kernel
theorem rf_54_3 : rf 54 3 = none := by decide +kernel
theorem rf_56_0 : rf 56 0 = none := by decide +kernel
theorem rf_56_1 : rf 56 1 = none := by decide +kernel
theorem rf_56_2 : rf 56 2 = some 57 := by decide +kernel
theorem rf_56_3 : rf 56 3 = none := by decide +kernel
theorem rf_58_0 : rf 58 0 = none := by decide +kernel
theorem rf_58_1 : rf 58 1 = none := by decide +kernel
theorem rf_58_2 : rf 58 2 = some 59 := by decide +kernel
theorem rf_58_3 : rf 58 3 = none := by decide +kernel
theorem rf_60_0 : rf 60 0 = none := by decide +kernel
theorem rf_60_1 : rf 60 1 = none := by decide +kernel
theorem rf_60_2 : rf 60 2 = some 61 := by decide +kernel
theorem rf_60_3 : rf 60 3 = none := by decide +kernel
theorem rf_62_0 : rf 62 0 = none := by decide +kernel
theorem rf_62_1 : rf 62 1 = none := by decide +kernel
theorem rf_62_2 : rf 62 2 = some 63 := by decide +kernel
theorem rf_62_3 : rf 62 3 = none := by decide +kernel
theorem rf_64_0 : rf 64 0 = none := by decide +kernel
theorem rf_64_1 : rf 64 1 = none := by decide +kernel
theorem rf_64_2 : rf 64 2 = some 65 := by decide +kernel
theorem rf_64_3 : rf 64 3 = none := by decide +kernel
theorem rf_66_0 : rf 66 0 = none := by decide +kernel
theorem rf_66_1 : rf 66 1 = none := by decide +kernel
theorem rf_66_2 : rf 66 2 = some 67 := by decide +kernel
theorem rf_66_3 : rf 66 3 = none := by decide +kernel
theorem rf_68_0 : rf 68 0 = some 1 := by decide +kernel
theorem rf_68_1 : rf 68 1 = some 5 := by decide +kernel
theorem rf_68_2 : rf 68 2 = some 34 := by decide +kernel
theorem rf_68_3 : rf 68 3 = none := by decide +kernel
theorem rf_69_0 : rf 69 0 = some 3 := by decide +kernel
theorem rf_69_1 : rf 69 1 = some 5 := by decide +kernel
theorem rf_69_2 : rf 69 2 = some 34 := by decide +kernel
theorem rf_69_3 : rf 69 3 = none := by decide +kernel
theorem rf_70_0 : rf 70 0 = some 71 := by decide +kernel
theorem rf_70_1 : rf 70 1 = some 72 := by decide +kernel
theorem rf_70_2 : rf 70 2 = none := by decide +kernel
theorem rf_70_3 : rf 70 3 = none := by decide +kernel
theorem rf_73_0 : rf 73 0 = some 74 := by decide +kernel
theorem rf_73_1 : rf 73 1 = none := by decide +kernel
theorem rf_73_2 : rf 73 2 = none := by decide +kernel
theorem rf_73_3 : rf 73 3 = none := by decide +kernel
theorem rf_73_4 : rf 73 4 = none := by decide +kernel
theorem rf_73_5 : rf 73 5 = none := by decide +kernel
theorem rf_73_6 : rf 73 6 = none := by decide +kernel
theorem rf_73_7 : rf 73 7 = none := by decide +kernel
theorem rf_75_0 : rf 75 0 = some 76 := by decide +kernel
theorem rf_75_1 : rf 75 1 = none := by decide +kernel
theorem rf_75_2 : rf 75 2 = none := by decide +kernel
theorem rf_75_3 : rf 75 3 = none := by decide +kernel
theorem rf_75_4 : rf 75 4 = none := by decide +kernel
theorem rf_75_5 : rf 75 5 = none := by decide +kernel
theorem rf_75_6 : rf 75 6 = none := by decide +kernel
theorem rf_75_7 : rf 75 7 = none := by decide +kernel
theorem rf_77_0 : rf 77 0 = some 78 := by decide +kernel
theorem rf_77_1 : rf 77 1 = none := by decide +kernel
theorem rf_77_2 : rf 77 2 = none := by decide +kernel
theorem rf_77_3 : rf 77 3 = none := by decide +kernel
theorem rf_77_4 : rf 77 4 = none := by decide +kernel
theorem rf_77_5 : rf 77 5 = none := by decide +kernel
theorem rf_77_6 : rf 77 6 = none := by decide +kernel
theorem rf_77_7 : rf 77 7 = none := by decide +kernel
theorem rf_79_0 : rf 79 0 = some 80 := by decide +kernel
theorem rf_79_1 : rf 79 1 = none := by decide +kernel
theorem rf_79_2 : rf 79 2 = none := by decide +kernel
theorem rf_79_3 : rf 79 3 = none := by decide +kernel
theorem rf_79_4 : rf 79 4 = none := by decide +kernel
theorem rf_79_5 : rf 79 5 = none := by decide +kernel
theorem rf_79_6 : rf 79 6 = none := by decide +kernel
theorem rf_79_7 : rf 79 7 = none := by decide +kernel
theorem rf_81_0 : rf 81 0 = some 82 := by decide +kernel
theorem rf_81_1 : rf 81 1 = none := by decide +kernel
theorem rf_81_2 : rf 81 2 = none := by decide +kernel
theorem rf_81_3 : rf 81 3 = none := by decide +kernel
theorem rf_81_4 : rf 81 4 = none := by decide +kernel
theorem rf_81_5 : rf 81 5 = none := by decide +kernel
theorem rf_81_6 : rf 81 6 = none := by decide +kernel
theorem rf_81_7 : rf 81 7 = none := by decide +kernel
theorem rf_83_0 : rf 83 0 = some 84 := by decide +kernel
theorem rf_83_1 : rf 83 1 = none := by decide +kernel
theorem rf_83_2 : rf 83 2 = none := by decide +kernel
theorem rf_83_3 : rf 83 3 = none := by decide +kernel
theorem rf_83_4 : rf 83 4 = none := by decide +kernel
theorem rf_83_5 : rf 83 5 = none := by decide +kernel
theorem rf_83_6 : rf 83 6 = none := by decide +kernel
theorem rf_83_7 : rf 83 7 = none := by decide +kernel
theorem rf_85_0 : rf 85 0 = some 86 := by decide +kernel
theorem rf_85_1 : rf 85 1 = some 87 := by decide +kernel
theorem rf_85_2 : rf 85 2 = some 88 := by decide +kernel
theorem rf_85_3 : rf 85 3 = some 89 := by decide +kernel
theorem rf_85_4 : rf 85 4 = none := by decide +kernel
theorem rf_85_5 : rf 85 5 = none := by decide +kernel
theorem rf_90_0 : rf 90 0 = some 91 := by decide +kernel
theorem rf_90_1 : rf 90 1 = some 93 := by decide +kernel
theorem rf_90_2 : rf 90 2 = none := by decide +kernel
theorem rf_90_3 : rf 90 3 = none := by decide +kernel
theorem rf_90_4 : rf 90 4 = some 85 := by decide +kernel
theorem rf_90_5 : rf 90 5 = none := by decide +kernel
theorem rf_90_6 : rf 90 6 = none := by decide +kernel
theorem rf_90_7 : rf 90 7 = none := by decide +kernel
theorem rf_90_8 : rf 90 8 = none := by decide +kernel
theorem rf_90_9 : rf 90 9 = none := by decide +kernel
theorem rf_91_0 : rf 91 0 = none := by decide +kernel
theorem rf_91_1 : rf 91 1 = none := by decide +kernel
theorem rf_91_2 : rf 91 2 = some 92 := by decide +kernel
theorem rf_91_3 : rf 91 3 = none := by decide +kernel
theorem rf_93_0 : rf 93 0 = none := by decide +kernel
theorem rf_93_1 : rf 93 1 = none := by decide +kernel
theorem rf_93_2 : rf 93 2 = some 94 := by decide +kernel
theorem rf_93_3 : rf 93 3 = none := by decide +kernel
theorem rf_95_0 : rf 95 0 = some 96 := by decide +kernel
theorem rf_95_1 : rf 95 1 = some 97 := by decide +kernel
theorem rf_98_0 : rf 98 0 = some 99 := by decide +kernel
theorem rf_98_1 : rf 98 1 = some 100 := by decide +kernel
theorem rf_98_2 : rf 98 2 = some 101 := by decide +kernel
theorem rf_102_0 : rf 102 0 = some 103 := by decide +kernel
theorem rf_102_1 : rf 102 1 = none := by decide +kernel
theorem rf_104_0 : rf 104 0 = none := by decide +kernel
theorem rf_104_1 : rf 104 1 = some 105 := by decide +kernel
theorem rf_104_2 : rf 104 2 = some 106 := by decide +kernel
theorem rf_104_3 : rf 104 3 = none := by decide +kernel
theorem rf_104_4 : rf 104 4 = some 107 := by decide +kernel
theorem rf_104_5 : rf 104 5 = none := by decide +kernel
theorem rf_104_6 : rf 104 6 = none := by decide +kernel
theorem rf_104_7 : rf 104 7 = some 108 := by decide +kernel
theorem rf_104_8 : rf 104 8 = some 109 := by decide +kernel
theorem rf_104_9 : rf 104 9 = some 110 := by decide +kernel
theorem rf_104_10 : rf 104 10 = some 111 := by decide +kernel
theorem rf_104_11 : rf 104 11 = none := by decide +kernel
theorem rf_104_12 : rf 104 12 = none := by decide +kernel
theorem rf_104_13 : rf 104 13 = none := by decide +kernel
theorem rf_104_14 : rf 104 14 = none := by decide +kernel
theorem rf_104_15 : rf 104 15 = none := by decide +kernel
theorem rf_104_16 : rf 104 16 = some 112 := by decide +kernel
theorem rf_104_17 : rf 104 17 = some 113 := by decide +kernel
theorem rf_104_18 : rf 104 18 = some 114 := by decide +kernel
theorem rf_104_19 : rf 104 19 = some 115 := by decide +kernel
theorem rf_104_20 : rf 104 20 = some 116 := by decide +kernel
theorem rf_104_21 : rf 104 21 = some 117 := by decide +kernel
theorem rf_104_22 : rf 104 22 = some 118 := by decide +kernel
theorem rf_104_23 : rf 104 23 = some 119 := by decide +kernel
theorem rf_104_24 : rf 104 24 = none := by decide +kernel
theorem rf_104_25 : rf 104 25 = none := by decide +kernel
theorem rf_104_26 : rf 104 26 = none := by decide +kernel
theorem rf_104_27 : rf 104 27 = some 120 := by decide +kernel
theorem rf_104_28 : rf 104 28 = none := by decide +kernel
theorem rf_104_29 : rf 104 29 = none := by decide +kernel
theorem rf_104_30 : rf 104 30 = none := by decide +kernel
theorem rf_104_31 : rf 104 31 = none := by decide +kernel
theorem rf_104_32 : rf 104 32 = none := by decide +kernel
theorem rf_104_33 : rf 104 33 = none := by decide +kernel
theorem rf_104_34 : rf 104 34 = some 121 := by decide +kernel
theorem rf_104_35 : rf 104 35 = none := by decide +kernel
theorem rf_104_36 : rf 104 36 = some 122 := by decide +kernel
theorem rf_104_37 : rf 104 37 = none := by decide +kernel
theorem rf_104_38 : rf 104 38 = some 123 := by decide +kernel
theorem rf_104_39 : rf 104 39 = some 124 := by decide +kernel
theorem rf_104_40 : rf 104 40 = some 125 := by decide +kernel
theorem rf_104_41 : rf 104 41 = some 126 := by decide +kernel
theorem rf_104_42 : rf 104 42 = none := by decide +kernel
theorem rf_104_43 : rf 104 43 = some 127 := by decide +kernel
theorem rf_104_44 : rf 104 44 = some 128 := by decide +kernel
theorem rf_104_45 : rf 104 45 = none := by decide +kernel
theorem rf_104_46 : rf 104 46 = some 129 := by decide +kernel
theorem rf_104_47 : rf 104 47 = some 130 := by decide +kernel
theorem rf_104_48 : rf 104 48 = some 131 := by decide +kernel
theorem rf_104_49 : rf 104 49 = none := by decide +kernel
theorem rf_104_50 : rf 104 50 = some 132 := by decide +kernel
theorem rf_104_51 : rf 104 51 = none := by decide +kernel
theorem rf_104_52 : rf 104 52 = some 133 := by decide +kernel
theorem rf_104_53 : rf 104 53 = some 134 := by decide +kernel
theorem rf_104_54 : rf 104 54 = none := by decide +kernel
theorem rf_104_55 : rf 104 55 = some 135 := by decide +kernel
theorem rf_104_56 : rf 104 56 = some 136 := by decide +kernel
theorem rf_104_57 : rf 104 57 = none := by decide +kernel
theorem rf_104_58 : rf 104 58 = some 137 := by decide +kernel
theorem rf_104_59 : rf 104 59 = some 138 := by decide +kernel
theorem rf_104_60 : rf 104 60 = some 139 := by decide +kernel
theorem rf_104_61 : rf 104 61 = some 140 := by decide +kernel
theorem rf_104_62 : rf 104 62 = none := by decide +kernel
theorem rf_104_63 : rf 104 63 = some 141 := by decide +kernel
theorem rf_104_64 : rf 104 64 = some 142 := by decide +kernel
theorem rf_104_65 : rf 104 65 = some 143 := by decide +kernel
theorem rf_104_66 : rf 104 66 = none := by decide +kernel
theorem rf_104_67 : rf 104 67 = some 144 := by decide +kernel
theorem rf_104_68 : rf 104 68 = some 145 := by decide +kernel
theorem rf_104_69 : rf 104 69 = some 146 := by decide +kernel
theorem rf_104_70 : rf 104 70 = some 147 := by decide +kernel
theorem rf_104_71 : rf 104 71 = none := by decide +kernel
theorem rf_104_72 : rf 104 72 = none := by decide +kernel
theorem rf_104_73 : rf 104 73 = none := by decide +kernel
theorem rf_104_74 : rf 104 74 = some 148 := by decide +kernel
/-! objects of a kind: Rows (6), Borough (1), Told (11), Season (7) -/
def ln (a : Nat) : Nat := (shL.getD a (0, 0)).2
def sT (a : Nat) : Nat := if a = 68 then 1 else 3
theorem sh_lt {a : Nat} {t : Nat × Nat} (h : shL[a]? = some t) : a < 149 := by
  have := (List.getElem?_eq_some_iff.mp h).1
  exact this
theorem rows_all : ∀ a, a < 149 → shL[a]? = some (6, 4) → (rf a 0 = none ∧ rf a 1 = none ∧ rf a 2 = some (a + 1) ∧ rf a 3 = none ∧ shL[a + 1]? = some (20, ln (a + 1))) := by decide +kernel
theorem bor_all : ∀ a, a < 149 → shL[a]? = some (1, 8) → (rf a 0 = some (a + 1) ∧ rf a 1 = none ∧ rf a 2 = none ∧ rf a 3 = none ∧ rf a 4 = none ∧ rf a 5 = none ∧ rf a 6 = none ∧ rf a 7 = none ∧ shL[a + 1]? = some (20, 132)) := by decide +kernel
theorem told_all : ∀ a, a < 149 → shL[a]? = some (11, 14) → ∀ j, j < 14 → (rf a j = some (a + (2 * j + 1)) ∧ shL[a + (2 * j + 1)]? = some (6, 4)) := by decide +kernel
theorem sea_all : ∀ a, a < 149 → shL[a]? = some (7, 4) → (rf a 0 = some (sT a) ∧ rf a 1 = some 5 ∧ rf a 2 = some 34 ∧ rf a 3 = none ∧ shL[sT a]? = some (1, 8)) := by decide +kernel
theorem kept_all : ∀ i, i < 6 → (rf 71 i = some (73 + 2 * i) ∧ shL[73 + 2 * i]? = some (1, 8)) := by decide +kernel
theorem rf_rows_0 {a : Nat} (h : shL[a]? = some (6, 4)) : rf a 0 = none := (rows_all a (sh_lt h) h).1
theorem rf_rows_1 {a : Nat} (h : shL[a]? = some (6, 4)) : rf a 1 = none := (rows_all a (sh_lt h) h).2.1
theorem rf_rows_3 {a : Nat} (h : shL[a]? = some (6, 4)) : rf a 3 = none := (rows_all a (sh_lt h) h).2.2.2.1
theorem rf_rows_2 {a : Nat} (h : shL[a]? = some (6, 4)) : rf a 2 = some (a + 1) := (rows_all a (sh_lt h) h).2.2.1
theorem sh_rows {a : Nat} (h : shL[a]? = some (6, 4)) : shL[a + 1]? = some (20, ln (a + 1)) := (rows_all a (sh_lt h) h).2.2.2.2
theorem rf_bor_0 {a : Nat} (h : shL[a]? = some (1, 8)) : rf a 0 = some (a + 1) := (bor_all a (sh_lt h) h).1
theorem rf_bor_1 {a : Nat} (h : shL[a]? = some (1, 8)) : rf a 1 = none := (bor_all a (sh_lt h) h).2.1
theorem rf_bor_2 {a : Nat} (h : shL[a]? = some (1, 8)) : rf a 2 = none := (bor_all a (sh_lt h) h).2.2.1
theorem rf_bor_3 {a : Nat} (h : shL[a]? = some (1, 8)) : rf a 3 = none := (bor_all a (sh_lt h) h).2.2.2.1
theorem rf_bor_4 {a : Nat} (h : shL[a]? = some (1, 8)) : rf a 4 = none := (bor_all a (sh_lt h) h).2.2.2.2.1
theorem rf_bor_5 {a : Nat} (h : shL[a]? = some (1, 8)) : rf a 5 = none := (bor_all a (sh_lt h) h).2.2.2.2.2.1
theorem rf_bor_6 {a : Nat} (h : shL[a]? = some (1, 8)) : rf a 6 = none := (bor_all a (sh_lt h) h).2.2.2.2.2.2.1
theorem rf_bor_7 {a : Nat} (h : shL[a]? = some (1, 8)) : rf a 7 = none := (bor_all a (sh_lt h) h).2.2.2.2.2.2.2.1
theorem sh_bor {a : Nat} (h : shL[a]? = some (1, 8)) : shL[a + 1]? = some (20, 132) := (bor_all a (sh_lt h) h).2.2.2.2.2.2.2.2
theorem rf_told_0 {a : Nat} (h : shL[a]? = some (11, 14)) : rf a 0 = some (a + 1) := (told_all a (sh_lt h) h 0 (by decide)).1
theorem sh_told_0 {a : Nat} (h : shL[a]? = some (11, 14)) : shL[a + 1]? = some (6, 4) := (told_all a (sh_lt h) h 0 (by decide)).2
theorem rf_told_1 {a : Nat} (h : shL[a]? = some (11, 14)) : rf a 1 = some (a + 3) := (told_all a (sh_lt h) h 1 (by decide)).1
theorem sh_told_1 {a : Nat} (h : shL[a]? = some (11, 14)) : shL[a + 3]? = some (6, 4) := (told_all a (sh_lt h) h 1 (by decide)).2
theorem rf_told_2 {a : Nat} (h : shL[a]? = some (11, 14)) : rf a 2 = some (a + 5) := (told_all a (sh_lt h) h 2 (by decide)).1
theorem sh_told_2 {a : Nat} (h : shL[a]? = some (11, 14)) : shL[a + 5]? = some (6, 4) := (told_all a (sh_lt h) h 2 (by decide)).2
theorem rf_told_3 {a : Nat} (h : shL[a]? = some (11, 14)) : rf a 3 = some (a + 7) := (told_all a (sh_lt h) h 3 (by decide)).1
theorem sh_told_3 {a : Nat} (h : shL[a]? = some (11, 14)) : shL[a + 7]? = some (6, 4) := (told_all a (sh_lt h) h 3 (by decide)).2
theorem rf_told_4 {a : Nat} (h : shL[a]? = some (11, 14)) : rf a 4 = some (a + 9) := (told_all a (sh_lt h) h 4 (by decide)).1
theorem sh_told_4 {a : Nat} (h : shL[a]? = some (11, 14)) : shL[a + 9]? = some (6, 4) := (told_all a (sh_lt h) h 4 (by decide)).2
theorem rf_told_5 {a : Nat} (h : shL[a]? = some (11, 14)) : rf a 5 = some (a + 11) := (told_all a (sh_lt h) h 5 (by decide)).1
theorem sh_told_5 {a : Nat} (h : shL[a]? = some (11, 14)) : shL[a + 11]? = some (6, 4) := (told_all a (sh_lt h) h 5 (by decide)).2
theorem rf_told_6 {a : Nat} (h : shL[a]? = some (11, 14)) : rf a 6 = some (a + 13) := (told_all a (sh_lt h) h 6 (by decide)).1
theorem sh_told_6 {a : Nat} (h : shL[a]? = some (11, 14)) : shL[a + 13]? = some (6, 4) := (told_all a (sh_lt h) h 6 (by decide)).2
theorem rf_told_7 {a : Nat} (h : shL[a]? = some (11, 14)) : rf a 7 = some (a + 15) := (told_all a (sh_lt h) h 7 (by decide)).1
theorem sh_told_7 {a : Nat} (h : shL[a]? = some (11, 14)) : shL[a + 15]? = some (6, 4) := (told_all a (sh_lt h) h 7 (by decide)).2
theorem rf_told_8 {a : Nat} (h : shL[a]? = some (11, 14)) : rf a 8 = some (a + 17) := (told_all a (sh_lt h) h 8 (by decide)).1
theorem sh_told_8 {a : Nat} (h : shL[a]? = some (11, 14)) : shL[a + 17]? = some (6, 4) := (told_all a (sh_lt h) h 8 (by decide)).2
theorem rf_told_9 {a : Nat} (h : shL[a]? = some (11, 14)) : rf a 9 = some (a + 19) := (told_all a (sh_lt h) h 9 (by decide)).1
theorem sh_told_9 {a : Nat} (h : shL[a]? = some (11, 14)) : shL[a + 19]? = some (6, 4) := (told_all a (sh_lt h) h 9 (by decide)).2
theorem rf_told_10 {a : Nat} (h : shL[a]? = some (11, 14)) : rf a 10 = some (a + 21) := (told_all a (sh_lt h) h 10 (by decide)).1
theorem sh_told_10 {a : Nat} (h : shL[a]? = some (11, 14)) : shL[a + 21]? = some (6, 4) := (told_all a (sh_lt h) h 10 (by decide)).2
theorem rf_told_11 {a : Nat} (h : shL[a]? = some (11, 14)) : rf a 11 = some (a + 23) := (told_all a (sh_lt h) h 11 (by decide)).1
theorem sh_told_11 {a : Nat} (h : shL[a]? = some (11, 14)) : shL[a + 23]? = some (6, 4) := (told_all a (sh_lt h) h 11 (by decide)).2
theorem rf_told_12 {a : Nat} (h : shL[a]? = some (11, 14)) : rf a 12 = some (a + 25) := (told_all a (sh_lt h) h 12 (by decide)).1
theorem sh_told_12 {a : Nat} (h : shL[a]? = some (11, 14)) : shL[a + 25]? = some (6, 4) := (told_all a (sh_lt h) h 12 (by decide)).2
theorem rf_told_13 {a : Nat} (h : shL[a]? = some (11, 14)) : rf a 13 = some (a + 27) := (told_all a (sh_lt h) h 13 (by decide)).1
theorem sh_told_13 {a : Nat} (h : shL[a]? = some (11, 14)) : shL[a + 27]? = some (6, 4) := (told_all a (sh_lt h) h 13 (by decide)).2
theorem rf_sea_0 {a : Nat} (h : shL[a]? = some (7, 4)) : rf a 0 = some (sT a) := (sea_all a (sh_lt h) h).1
theorem rf_sea_1 {a : Nat} (h : shL[a]? = some (7, 4)) : rf a 1 = some 5 := (sea_all a (sh_lt h) h).2.1
theorem rf_sea_2 {a : Nat} (h : shL[a]? = some (7, 4)) : rf a 2 = some 34 := (sea_all a (sh_lt h) h).2.2.1
theorem rf_sea_3 {a : Nat} (h : shL[a]? = some (7, 4)) : rf a 3 = none := (sea_all a (sh_lt h) h).2.2.2.1
theorem sh_sea {a : Nat} (h : shL[a]? = some (7, 4)) : shL[sT a]? = some (1, 8) := (sea_all a (sh_lt h) h).2.2.2.2
end
section
/-! SWITCHES; the classes' names; what may be stored where. Printed by wip/gen/p07.py -/
def lsw (pc : Nat) (dflt : Int) : List (Int × Int) → List (Int32 × Nat) → Nat → Bool
  | [], [], df => decide ((pc : Int) + dflt = (df : Int))
  | (a, o) :: ps, (c, t) :: cs, df => decide (c.toInt = a) && decide ((pc : Int) + o = (t : Int)) && lsw pc dflt ps cs df
  | _, _, _ => false
theorem lsw_s {pc : Nat} {dflt : Int} {x : Int32} {df : Nat} : ∀ (ps : List (Int × Int)) (cs : List (Int32 × Nat)), lsw pc dflt ps cs df = true → (pc : Int) + Op.lookupswitch.offset ps dflt x.toInt = (sel cs df x : Int)
  | [], [], h => by
    have h := of_decide_eq_true h
    simpa [Op.lookupswitch.offset, sel] using h
  | (a, o) :: ps, (c, t) :: cs, h => by
    simp only [lsw, Bool.and_eq_true, decide_eq_true_eq] at h
    rw [Op.lookupswitch.offset_cons]
    unfold sel
    by_cases hx : x = c
    · rw [if_pos hx, if_pos (by rw [hx]; first | exact h.1.1 | exact h.1.1.symm)]
      exact h.1.2
    · rw [if_neg hx, if_neg (fun q => hx (Int32.toInt_inj.mp (by rw [h.1.1]; first | exact q | exact q.symm)))]
      exact lsw_s ps cs h.2
  | [], _ :: _, h => by simp [lsw] at h
  | _ :: _, [], h => by simp [lsw] at h
def tsw (pc : Nat) : Int → List Int → List (Int32 × Nat) → Bool
  | _, [], [] => true
  | lo, o :: os, (c, t) :: cs => decide (c.toInt = lo) && decide ((pc : Int) + o = (t : Int)) && tsw pc (lo + 1) os cs
  | _, _, _ => false
theorem tsw_out {pc : Nat} {x : Int32} {df : Nat} : ∀ (os : List Int) (cs : List (Int32 × Nat)) (lo : Int), tsw pc lo os cs = true → (x.toInt < lo ∨ lo + os.length ≤ x.toInt) → sel cs df x = df
  | [], [], lo, h, hx => rfl
  | o :: os, (c, t) :: cs, lo, h, hx => by
    simp only [tsw, Bool.and_eq_true, decide_eq_true_eq] at h
    simp only [List.length_cons] at hx
    have hne : ¬ x = c := fun q => by rw [q, h.1.1] at hx; omega
    rw [sel, if_neg hne]
    exact tsw_out os cs (lo + 1) h.2 (by omega)
  | [], _ :: _, lo, h, hx => by simp [tsw] at h
  | _ :: _, [], lo, h, hx => by simp [tsw] at h
theorem tsw_in {pc : Nat} {x : Int32} {df : Nat} : ∀ (os : List Int) (cs : List (Int32 × Nat)) (lo : Int), tsw pc lo os cs = true → ¬ x.toInt < lo → x.toInt < lo + os.length → ∃ o, os[(x.toInt - lo).toNat]? = some o ∧ (pc : Int) + o = (sel cs df x : Int)
  | [], cs, lo, h, h1, h2 => by simp at h2; omega
  | o :: os, (c, t) :: cs, lo, h, h1, h2 => by
    simp only [tsw, Bool.and_eq_true, decide_eq_true_eq] at h
    by_cases hx : x = c
    · refine ⟨o, ?_, ?_⟩
      · rw [hx, h.1.1, Int.sub_self]; rfl
      · rw [sel, if_pos hx]; exact h.1.2
    · have hne : ¬ x.toInt = lo := fun q => hx (Int32.toInt_inj.mp (by rw [h.1.1]; exact q))
      simp only [List.length_cons] at h2
      obtain ⟨o2, e1, e2⟩ := tsw_in (x := x) (df := df) os cs (lo + 1) h.2 (by omega) (by omega)
      refine ⟨o2, ?_, ?_⟩
      · have : (x.toInt - lo).toNat = (x.toInt - (lo + 1)).toNat + 1 := by omega
        rw [this, List.getElem?_cons_succ]; exact e1
      · rw [sel, if_neg hx]; exact e2
  | _ :: _, [], lo, h, h1, h2 => by simp [tsw] at h
def dsw (M : MM) (pc : Nat) (cs : List (Int32 × Nat)) (df : Nat) : Prop :=
  (∃ (dflt : Int) (ps : Array (Int × Int)) (len : Nat), decode M.2.1 pc = .ok (.lookupswitch dflt ps, len) ∧ (ps.toList.zip (ps.toList.drop 1)).all (fun (a, next) => a.1 < next.1) = true ∧ lsw pc dflt ps.toList cs df = true) ∨
  (∃ (dflt lo hi : Int) (offs : Array Int) (len : Nat), decode M.2.1 pc = .ok (.tableswitch dflt lo hi offs, len) ∧ (pc : Int) + dflt = (df : Int) ∧ hi + 1 = lo + offs.toList.length ∧ tsw pc lo offs.toList cs = true)
theorem dsw_l {M : MM} {pc : Nat} {cs : List (Int32 × Nat)} {df : Nat} (dflt : Int) (ps : Array (Int × Int)) (len : Nat) (h : decode M.2.1 pc = .ok (.lookupswitch dflt ps, len)) (h1 : (ps.toList.zip (ps.toList.drop 1)).all (fun (a, next) => a.1 < next.1) = true) (h2 : lsw pc dflt ps.toList cs df = true) : dsw M pc cs df := Or.inl ⟨dflt, ps, len, h, h1, h2⟩
theorem dsw_t {M : MM} {pc : Nat} {cs : List (Int32 × Nat)} {df : Nat} (dflt lo hi : Int) (offs : Array Int) (len : Nat) (h : decode M.2.1 pc = .ok (.tableswitch dflt lo hi offs, len)) (h1 : (pc : Int) + dflt = (df : Int)) (h2 : hi + 1 = lo + offs.toList.length) (h3 : tsw pc lo offs.toList cs = true) : dsw M pc cs df := Or.inr ⟨dflt, lo, hi, offs, len, h, h1, h2, h3⟩
theorem v_sw {G : GG} {M : MM} {d pc : Nat} {L : List (Option Value)} {st : List Value} {h h' : PH} {v : Option Value} {cs : List (Int32 × Nat)} {df : Nat} {x : Int32} (hd : dsw M pc cs df) (k : Vx G M d (sel cs df x) L st h v h') : Vx G M d pc L (.int x :: st) h v h' := by
  intro p e s m args below meth c C H locs ls hR hS hL
  have kk := k p e s m args below meth c C H locs ls hR hS hL
  rcases hd with ⟨dflt, ps, len, hd, h1, h2⟩ | ⟨dflt, lo, hi, offs, len, hd, h1, h2, h3⟩
  · exact lv_lookup C.1 C.2.1 hd h1 rfl (lsw_s _ _ h2) kk
  · by_cases hx : x.toInt < lo ∨ hi < x.toInt
    · have he : sel cs df x = df := tsw_out offs.toList cs lo h3 (by rcases hx with q | q; exact Or.inl q; exact Or.inr (by omega))
      rw [he] at kk
      exact lv_tableOut C.1 C.2.1 hd hx h1 kk
    · have g1 : ¬ x.toInt < lo := fun q => hx (Or.inl q)
      have g2 : ¬ hi < x.toInt := fun q => hx (Or.inr q)
      obtain ⟨o, e1, e2⟩ := tsw_in (df := df) offs.toList cs lo h3 g1 (by omega)
      exact lv_tableIn C.1 C.2.1 hd g1 g2 (by rw [← Array.getElem?_toList]; exact e1) e2 kk
theorem in_s : ∀ w ∈ k2_sels lw_privs, w ∈ lw_tbl := fun w h => List.mem_append_left _ h
theorem in_t1 : ∀ w ∈ tables_1_1, w ∈ lw_tbl := fun w h => List.mem_append_right _ (List.mem_append_left _ h)
theorem in_t2 : ∀ w ∈ tables_1_2, w ∈ lw_tbl := fun w h => List.mem_append_right _ (List.mem_append_right _ (List.mem_append_left _ h))
theorem in_t3 : ∀ w ∈ tables_1_3, w ∈ lw_tbl := fun w h => List.mem_append_right _ (List.mem_append_right _ (List.mem_append_right _ (List.mem_append_left _ h)))
theorem in_t4 : ∀ w ∈ tables_1_4, w ∈ lw_tbl := fun w h => List.mem_append_right _ (List.mem_append_right _ (List.mem_append_right _ (List.mem_append_right _ (List.mem_append_left _ h))))
theorem in_t5 : ∀ w ∈ tables_1_5, w ∈ lw_tbl := fun w h => List.mem_append_right _ (List.mem_append_right _ (List.mem_append_right _ (List.mem_append_right _ (List.mem_append_right _ (List.mem_append_left _ h)))))
theorem in_t6 : ∀ w ∈ tables_1_6, w ∈ lw_tbl := fun w h => List.mem_append_right _ (List.mem_append_right _ (List.mem_append_right _ (List.mem_append_right _ (List.mem_append_right _ (List.mem_append_right _ (List.mem_append_left _ h))))))
theorem in_t7 : ∀ w ∈ tables_1_7, w ∈ lw_tbl := fun w h => List.mem_append_right _ (List.mem_append_right _ (List.mem_append_right _ (List.mem_append_right _ (List.mem_append_right _ (List.mem_append_right _ (List.mem_append_right _ (List.mem_append_left _ h)))))))
theorem in_t8 : ∀ w ∈ tables_1_8, w ∈ lw_tbl := fun w h => List.mem_append_right _ (List.mem_append_right _ (List.mem_append_right _ (List.mem_append_right _ (List.mem_append_right _ (List.mem_append_right _ (List.mem_append_right _ (List.mem_append_right _ (List.mem_append_left _ h))))))))
theorem in_t9 : ∀ w ∈ tables_1_9, w ∈ lw_tbl := fun w h => List.mem_append_right _ (List.mem_append_right _ (List.mem_append_right _ (List.mem_append_right _ (List.mem_append_right _ (List.mem_append_right _ (List.mem_append_right _ (List.mem_append_right _ (List.mem_append_right _ (h)))))))))
theorem hc_0 : (clsL[0]?.map fun r => r.1) = some "GingerRents" := rfl
theorem hc_1 : (clsL[1]?.map fun r => r.1) = some "GingerRents$Borough" := rfl
theorem hc_2 : (clsL[2]?.map fun r => r.1) = some "GingerRents$Kitchen" := rfl
theorem hc_3 : (clsL[3]?.map fun r => r.1) = some "GingerRents$Law" := rfl
theorem hc_4 : (clsL[4]?.map fun r => r.1) = some "GingerRents$Past" := rfl
theorem hc_5 : (clsL[5]?.map fun r => r.1) = some "GingerRents$Reader" := rfl
theorem hc_6 : (clsL[6]?.map fun r => r.1) = some "GingerRents$Rows" := rfl
theorem hc_7 : (clsL[7]?.map fun r => r.1) = some "GingerRents$Season" := rfl
theorem hc_8 : (clsL[8]?.map fun r => r.1) = some "GingerRents$Slab" := rfl
theorem hc_9 : (clsL[9]?.map fun r => r.1) = some "GingerRents$Street" := rfl
theorem hc_10 : (clsL[10]?.map fun r => r.1) = some "GingerRents$Tape" := rfl
theorem hc_11 : (clsL[11]?.map fun r => r.1) = some "GingerRents$Told" := rfl
theorem hc_12 : (clsL[12]?.map fun r => r.1) = some "GingerRentsModel" := rfl
theorem ft_0_13 : fty 0 13 .boolean := ⟨_, _, _, rfl, rfl, by decide +kernel⟩
theorem ft_1_1 : fty 1 1 .int := ⟨_, _, _, rfl, rfl, by decide +kernel⟩
theorem ft_1_2 : fty 1 2 .int := ⟨_, _, _, rfl, rfl, by decide +kernel⟩
theorem ft_1_3 : fty 1 3 .int := ⟨_, _, _, rfl, rfl, by decide +kernel⟩
theorem ft_1_4 : fty 1 4 .int := ⟨_, _, _, rfl, rfl, by decide +kernel⟩
theorem ft_1_5 : fty 1 5 .int := ⟨_, _, _, rfl, rfl, by decide +kernel⟩
theorem ft_1_6 : fty 1 6 .int := ⟨_, _, _, rfl, rfl, by decide +kernel⟩
theorem ft_1_7 : fty 1 7 .int := ⟨_, _, _, rfl, rfl, by decide +kernel⟩
theorem ft_3_4 : fty 3 4 .int := ⟨_, _, _, rfl, rfl, by decide +kernel⟩
theorem ft_4_2 : fty 4 2 .int := ⟨_, _, _, rfl, rfl, by decide +kernel⟩
theorem ft_4_3 : fty 4 3 .int := ⟨_, _, _, rfl, rfl, by decide +kernel⟩
theorem ft_5_2 : fty 5 2 .int := ⟨_, _, _, rfl, rfl, by decide +kernel⟩
theorem ft_5_3 : fty 5 3 .int := ⟨_, _, _, rfl, rfl, by decide +kernel⟩
theorem ft_5_5 : fty 5 5 .int := ⟨_, _, _, rfl, rfl, by decide +kernel⟩
theorem ft_5_6 : fty 5 6 .int := ⟨_, _, _, rfl, rfl, by decide +kernel⟩
theorem ft_5_7 : fty 5 7 .int := ⟨_, _, _, rfl, rfl, by decide +kernel⟩
theorem ft_5_8 : fty 5 8 .int := ⟨_, _, _, rfl, rfl, by decide +kernel⟩
theorem ft_5_9 : fty 5 9 .int := ⟨_, _, _, rfl, rfl, by decide +kernel⟩
theorem ft_6_3 : fty 6 3 .int := ⟨_, _, _, rfl, rfl, by decide +kernel⟩
theorem ft_8_1 : fty 8 1 .boolean := ⟨_, _, _, rfl, rfl, by decide +kernel⟩
theorem ft_10_4 : fty 10 4 .int := ⟨_, _, _, rfl, rfl, by decide +kernel⟩
theorem ft_10_5 : fty 10 5 .int := ⟨_, _, _, rfl, rfl, by decide +kernel⟩
theorem ft_12_0 : fty 12 0 .int := ⟨_, _, _, rfl, rfl, by decide +kernel⟩
theorem ft_12_3 : fty 12 3 .int := ⟨_, _, _, rfl, rfl, by decide +kernel⟩
theorem ft_12_5 : fty 12 5 .boolean := ⟨_, _, _, rfl, rfl, by decide +kernel⟩
theorem ft_12_6 : fty 12 6 .int := ⟨_, _, _, rfl, rfl, by decide +kernel⟩
theorem ft_12_11 : fty 12 11 .int := ⟨_, _, _, rfl, rfl, by decide +kernel⟩
theorem ft_12_12 : fty 12 12 .int := ⟨_, _, _, rfl, rfl, by decide +kernel⟩
theorem ft_12_13 : fty 12 13 .int := ⟨_, _, _, rfl, rfl, by decide +kernel⟩
theorem ft_12_14 : fty 12 14 .int := ⟨_, _, _, rfl, rfl, by decide +kernel⟩
theorem ft_12_15 : fty 12 15 .int := ⟨_, _, _, rfl, rfl, by decide +kernel⟩
theorem ft_12_24 : fty 12 24 .int := ⟨_, _, _, rfl, rfl, by decide +kernel⟩
theorem ft_12_25 : fty 12 25 .int := ⟨_, _, _, rfl, rfl, by decide +kernel⟩
theorem ft_12_26 : fty 12 26 .int := ⟨_, _, _, rfl, rfl, by decide +kernel⟩
theorem ft_12_28 : fty 12 28 .int := ⟨_, _, _, rfl, rfl, by decide +kernel⟩
theorem ft_12_29 : fty 12 29 .int := ⟨_, _, _, rfl, rfl, by decide +kernel⟩
theorem ft_12_30 : fty 12 30 .int := ⟨_, _, _, rfl, rfl, by decide +kernel⟩
theorem ft_12_31 : fty 12 31 .int := ⟨_, _, _, rfl, rfl, by decide +kernel⟩
theorem ft_12_32 : fty 12 32 .int := ⟨_, _, _, rfl, rfl, by decide +kernel⟩
theorem ft_12_33 : fty 12 33 .int := ⟨_, _, _, rfl, rfl, by decide +kernel⟩
theorem ft_12_35 : fty 12 35 .int := ⟨_, _, _, rfl, rfl, by decide +kernel⟩
theorem ft_12_37 : fty 12 37 .int := ⟨_, _, _, rfl, rfl, by decide +kernel⟩
theorem ft_12_42 : fty 12 42 .int := ⟨_, _, _, rfl, rfl, by decide +kernel⟩
theorem ft_12_45 : fty 12 45 .int := ⟨_, _, _, rfl, rfl, by decide +kernel⟩
theorem ft_12_49 : fty 12 49 .int := ⟨_, _, _, rfl, rfl, by decide +kernel⟩
theorem ft_12_51 : fty 12 51 .int := ⟨_, _, _, rfl, rfl, by decide +kernel⟩
theorem ft_12_54 : fty 12 54 .int := ⟨_, _, _, rfl, rfl, by decide +kernel⟩
theorem ft_12_57 : fty 12 57 .int := ⟨_, _, _, rfl, rfl, by decide +kernel⟩
theorem ft_12_62 : fty 12 62 .int := ⟨_, _, _, rfl, rfl, by decide +kernel⟩
theorem ft_12_66 : fty 12 66 .int := ⟨_, _, _, rfl, rfl, by decide +kernel⟩
theorem ft_12_71 : fty 12 71 .boolean := ⟨_, _, _, rfl, rfl, by decide +kernel⟩
theorem ft_12_72 : fty 12 72 .boolean := ⟨_, _, _, rfl, rfl, by decide +kernel⟩
theorem ft_12_73 : fty 12 73 .int := ⟨_, _, _, rfl, rfl, by decide +kernel⟩
end
