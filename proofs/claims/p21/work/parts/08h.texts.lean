section TX
variable {G : GG} {M : MM} {d pc pc' : Nat} {L : List (Option Value)} {st : List Value} {h h' : PH} {v : Option Value}
theorem K_of_VL {x : Int64} (hp : plainName M.1.cls = true) (hn : 2 ≤ M.2.2.1) (k : Vx G M d 0 (some (.long x) :: List.replicate (M.2.2.1 - 1) none) [] h v h') : Kx G M d [.long x] h v h' := by
  refine Met.ofW (cc := M.2.1) (maxL := M.2.2.1) (ret := M.2.2.2) hp rfl ?_
  intro p e s m args below meth c s₁ B hml hv
  obtain ⟨rfl, hR, hK, hLB⟩ := hv
  have hts : ∀ w ∈ wsM M, w.before [Value.long x].toArray s = true := atoms_spec (ws := wsM M) B.pre
  have hl := lv_entry [.long x] (n := M.2.2.1) hn
  rw [lg_entry_eq]
  refine k p e s m _ below meth c ⟨B.exec, B.bytes, B.returns, hml, findClass_of_methodNamed B.named, fun w hw => hts w (List.mem_cons_of_mem _ hw), B.notSynchronized, hK, hLB⟩ s.heap [] _ hR va_S.rf ⟨hl.1, hl.2.1, fun i w hi => ?_⟩
  cases i with
  | zero =>
    rw [List.getElem?_cons_zero] at hi
    cases hi
    exact hl.2.2 (0, .long x) List.mem_cons_self
  | succ i =>
    rw [List.getElem?_cons_succ] at hi
    have := List.mem_of_getElem? hi
    simp at this
end TX
