/-- what a frame knows of its start: classes, nest words, the arrays that nobody writes -/
def pm_I (D : va_G) (cA : ClassId) (ad : Nat → Nat) (A : Nat → Prop) (S : Nat) (ro : pm_M) (U : State) (H : Heap) : Prop :=
  va_K D pm_cls [(cA, .int)] U ∧ (∀ q ∈ pm_nF, va_Nw (.fieldLinkNest q.1 q.2.1 q.2.2.1 q.2.2.2.1 q.2.2.2.2 pm_host) U) ∧ (∀ q ∈ pm_nM, va_Nw (.methodLinkNest q.1 q.2.1 q.2.2 pm_host) U) ∧
  (∀ k, 26 ≤ k → k < 32 → va_T .int (ad k) (pm_ln S k) (fun j => .int (ro k j)) A U H) ∧ (∀ q ∈ pm_st, va_Z q.1 q.2.1 q.2.2.1 (.ref (ad q.2.2.2)) A U H)
theorem pm_I.warm {D : va_G} {cA : ClassId} {ad : Nat → Nat} {A : Nat → Prop} {S : Nat} {ro : pm_M} {s U : State} {H H1 : Heap} (h : pm_I D cA ad A S ro s H) (hW : s.WarmedH U.vm) (hq : ∀ a : Nat, a < H.size → ¬ A a → H1[a]? = H[a]?) : pm_I D cA ad A S ro U H1 :=
  ⟨va_K.moved hW.alike h.1, fun q hm => va_Nw.warmF hW (h.2.1 q hm), fun q hm => va_Nw.warmM hW (h.2.2.1 q hm), fun k h1 h2 => (va_T.moved hW.alike (h.2.2.2.1 k h1 h2)).kept hq, fun q hm => (va_Z.moved hW.alike (h.2.2.2.2 q hm)).kept hq⟩
theorem pm_I.same {D : va_G} {cA : ClassId} {ad : Nat → Nat} {A : Nat → Prop} {S : Nat} {ro : pm_M} {s U : State} {H : Heap} (h : pm_I D cA ad A S ro s H) (hv : s.vm = U.vm) : pm_I D cA ad A S ro U H := by
  have ha : s.vm.Alike U.vm := by rw [hv]; exact Vm.Alike.refl U.vm
  exact ⟨va_K.moved ha h.1, fun q hm => va_Nw.same rfl hv (h.2.1 q hm), fun q hm => va_Nw.same rfl hv (h.2.2.1 q hm), fun k h1 h2 => va_T.moved ha (h.2.2.2.1 k h1 h2), fun q hm => va_Z.moved ha (h.2.2.2.2 q hm)⟩
/-- the heap holds the memory -/
def pm_H (D : va_G) (cA : ClassId) (ad : Nat → Nat) (A : Nat → Prop) (ro M : pm_M) (H : Heap) : Prop :=
  va_P D pm_cls (pm_w ad cA M) H ∧ va_D A (pm_w ad cA M) ∧ ∀ k, 26 ≤ k → M k = ro k
def pm_Pc (D : va_G) (cA : ClassId) (ad : Nat → Nat) (A : Nat → Prop) (S : Nat) (ro M : pm_M) (vs : List pm_V) : Array Value → State → Prop :=
  va_Pc (vs.map (pm_cv ad)) (fun U => pm_I D cA ad A S ro U U.heap ∧ pm_H D cA ad A ro M U.heap)
def pm_Qc (D : va_G) (cA : ClassId) (ad : Nat → Nat) (A : Nat → Prop) (ro : pm_M) (Q : pm_Q) : Array Value → State → Outcome → State → Prop := fun _ st oc t =>
  (∃ (r : Option pm_V) (M : pm_M), oc = .returned (r.map (pm_cv ad)) ∧ Q r M ∧ pm_H D cA ad A ro M t.heap) ∧ va_F A st t
theorem pm_blind {D : va_G} {cA : ClassId} {ad : Nat → Nat} {A : Nat → Prop} {S : Nat} {ro M : pm_M} {vs : List pm_V} : FrameBlind (pm_Pc D cA ad A S ro M vs) :=
  fun _ U g mk q => ⟨q.1, pm_I.same (U := U.calling g mk _) q.2.1 rfl, q.2.2⟩
def pm_rm (a : Nat) : Room := { frames := pm_fr a, cells := 0, slots := 0, locals := pm_lo a }
def pm_l0 (j : Nat) (vs : List pm_V) : pm_L := vs.map some ++ List.replicate (pm_ml j - vs.length) none
def pm_PC (S : Nat) : Nat → pm_C
  | 0 => fun _ _ _ _ => False
  | d + 1 => fun j vs M Q => j < 160 ∧ (∀ v ∈ vs, pm_cat v = 1) ∧ vs.length ≤ pm_ml j ∧ pm_R S (pm_PC S d) Q j 0 (pm_l0 j vs) [] M
