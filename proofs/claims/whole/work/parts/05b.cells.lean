/-! What the pure machine says holds of the real one. -/
def pm_cv (ad : Nat → Nat) : pm_V → Value
  | .inl x => .int x
  | .inr (.inl x) => .long x
  | .inr (.inr k) => .ref (ad k)
theorem pm_cv_cat (ad : Nat → Nat) (v : pm_V) : (pm_cv ad v).category = pm_cat v := by
  rcases v with x | x | x <;> rfl
theorem pm_sm_cv (ad : Nat → Nat) (st : List pm_V) : ((st.map (pm_cv ad)).map fun v => v.category).sum = pm_sm st := by
  induction st with
  | nil => rfl
  | cons v r ih =>
    simp only [List.map_cons, List.sum_cons, pm_sm, pm_cv_cat] at ih ⊢
    rw [ih]
def pm_cell (ad : Nat → Nat) (cA : ClassId) (M : pm_M) (k : Nat) : va_E :=
  if pm_ia k = true then .inl (cA, pm_wl k, .inl (M k)) else .inr (pm_cl k, (List.range (pm_nf (pm_cl k))).map fun j => pm_cv ad (pm_fv M k (pm_cl k) j))
def pm_w (ad : Nat → Nat) (cA : ClassId) (M : pm_M) : va_W := (List.range 26).map fun k => (ad k, pm_cell ad cA M k)
theorem pm_w_get {ad : Nat → Nat} {cA : ClassId} {M : pm_M} {k : Nat} (hk : k < 26) : (pm_w ad cA M)[k]? = some (ad k, pm_cell ad cA M k) := by
  simp [pm_w, hk]
theorem pm_w_set {ad : Nat → Nat} {cA : ClassId} {M M' : pm_M} {k : Nat} (h : ∀ j, j ≠ k → M' j = M j) {e : va_E} (he : e = pm_cell ad cA M' k) : (pm_w ad cA M).set k (ad k, e) = pm_w ad cA M' := by
  subst he
  apply List.ext_getElem?
  intro j
  rw [List.getElem?_set]
  by_cases hj : k = j
  · subst hj
    by_cases hk : k < 26
    · simp [pm_w, hk]
    · simp [pm_w, hk]
  · rw [if_neg hj]
    by_cases hk : j < 26
    · rw [pm_w_get hk, pm_w_get hk]
      have e1 : M' j = M j := h j (fun e => hj e.symm)
      have e2 : ∀ c i, pm_fv M' j c i = pm_fv M j c i := fun c i => by simp only [pm_fv, e1]
      simp only [pm_cell, e1, e2]
    · simp [pm_w, hk]
theorem pm_up_ne {M : pm_M} {k j : Nat} {x : Int32} {i : Nat} (h : i ≠ k) : pm_up M k j x i = M i := by
  funext q
  simp [pm_up, h]
theorem pm_up_eq {M : pm_M} {k j : Nat} {x : Int32} : pm_up M k j x k = upd (M k) j x := by
  funext q
  simp [pm_up, upd]
theorem pm_cpy_ne {M : pm_M} {a sp b dp n i : Nat} (h : i ≠ b) : pm_cpy M a sp b dp n i = M i := by
  funext q
  simp [pm_cpy, h]
theorem pm_cpy_eq {M : pm_M} {a sp b dp n : Nat} : pm_cpy M a sp b dp n b = va_cpy (M a) (M b) sp dp n := by
  funext q
  simp [pm_cpy]
/-- the locals -/
def pm_LR (ad : Nat → Nat) (ls : Array Slot) (nL : Nat) (L : pm_L) : Prop := L.length = nL ∧ ls.size = nL ∧ lv_wf ls ∧ ∀ (i : Nat) (v : pm_V), L[i]? = some (some v) → ls[i]? = some (.val (pm_cv ad v))
def pm_lv (ad : Nat → Nat) (L : pm_L) : List (Nat × Value) := (List.range L.length).filterMap fun i => match L[i]? with
  | some (some v) => some (i, pm_cv ad v)
  | _ => none
theorem pm_lv_mem {ad : Nat → Nat} {L : pm_L} {i : Nat} {v : pm_V} (h : L[i]? = some (some v)) : (i, pm_cv ad v) ∈ pm_lv ad L := by
  have hi : i < L.length := (List.getElem?_eq_some_iff.mp h).1
  refine List.mem_filterMap.mpr ⟨i, List.mem_range.mpr hi, ?_⟩
  simp only [h]
theorem pm_lv_of {ad : Nat → Nat} {L : pm_L} {q : Nat × Value} (h : q ∈ pm_lv ad L) : ∃ v, L[q.1]? = some (some v) ∧ q.2 = pm_cv ad v := by
  obtain ⟨i, -, hi⟩ := List.mem_filterMap.mp h
  split at hi
  · rename_i v hv
    cases hi
    exact ⟨v, hv, rfl⟩
  · cases hi
theorem pm_LR.has {ad : Nat → Nat} {ls : Array Slot} {nL : Nat} {L : pm_L} (h : pm_LR ad ls nL L) : lv_has ls nL (pm_lv ad L) := by
  refine ⟨h.2.1, h.2.2.1, fun q hq => ?_⟩
  obtain ⟨v, h1, h2⟩ := pm_lv_of hq
  rw [h2]
  exact h.2.2.2 _ v h1
theorem pm_nl_spec {L : pm_L} {i j : Nat} {v : pm_V} (h : pm_nl L i = true) (hj : j + 1 = i) (hv : L[j]? = some (some v)) : pm_cat v = 1 := by
  subst hj
  rcases v with x | x | x
  · rfl
  · simp [pm_nl, hv] at h
  · rfl
theorem pm_LR.set1 {ad : Nat → Nat} {ls' : Array Slot} {nL i : Nat} {L : pm_L} {v : pm_V} (hl : L.length = nL) (hn : pm_nl L i = true) (h : lv_has ls' nL ((i, pm_cv ad v) :: (pm_lv ad L).filter (fun q => !(q.1 == i) && !(q.1 + 1 == i && q.2.category == 2)))) : pm_LR ad ls' nL (L.set i (some v)) := by
  refine ⟨by rw [List.length_set]; exact hl, h.1, h.2.1, fun j w hw => ?_⟩
  by_cases hj : j = i
  · subst hj
    have hlt : j < L.length := by
      have := (List.getElem?_eq_some_iff.mp hw).1
      rwa [List.length_set] at this
    rw [List.getElem?_set_self hlt] at hw
    cases hw
    exact h.2.2 (j, pm_cv ad v) List.mem_cons_self
  · rw [List.getElem?_set_ne (Ne.symm hj)] at hw
    refine h.2.2 (j, pm_cv ad w) (List.mem_cons_of_mem _ (List.mem_filter.mpr ⟨pm_lv_mem hw, ?_⟩))
    by_cases hj1 : j + 1 = i
    · have hc := pm_nl_spec hn hj1 hw
      simp [hj, pm_cv_cat, hc]
    · simp [hj, hj1]
theorem pm_LR.set2 {ad : Nat → Nat} {ls' : Array Slot} {nL i : Nat} {L : pm_L} {v : pm_V} (hl : L.length = nL) (hn : pm_nl L i = true) (h : lv_has ls' nL ((i, pm_cv ad v) :: (pm_lv ad L).filter (fun q => !(q.1 == i) && (!(q.1 == i + 1) && !(q.1 + 1 == i && q.2.category == 2))))) : pm_LR ad ls' nL ((L.set i (some v)).set (i + 1) none) := by
  refine ⟨by rw [List.length_set, List.length_set]; exact hl, h.1, h.2.1, fun j w hw => ?_⟩
  by_cases hk : j = i + 1
  · subst hk
    exfalso
    rw [List.getElem?_set] at hw
    simp at hw
  · rw [List.getElem?_set_ne (Ne.symm hk)] at hw
    by_cases hj : j = i
    · subst hj
      have hlt : j < L.length := by
        have := (List.getElem?_eq_some_iff.mp hw).1
        rwa [List.length_set] at this
      rw [List.getElem?_set_self hlt] at hw
      cases hw
      exact h.2.2 (j, pm_cv ad v) List.mem_cons_self
    · rw [List.getElem?_set_ne (Ne.symm hj)] at hw
      refine h.2.2 (j, pm_cv ad w) (List.mem_cons_of_mem _ (List.mem_filter.mpr ⟨pm_lv_mem hw, ?_⟩))
      by_cases hj1 : j + 1 = i
      · have hc := pm_nl_spec hn hj1 hw
        simp [hj, hk, pm_cv_cat, hc]
      · simp [hj, hk, hj1]
theorem pm_args {ad : Nat → Nat} : ∀ (vs : List pm_V) (i : Nat), (∀ v ∈ vs, pm_cat v = 1) → ∀ (k : Nat) (v : pm_V), vs[k]? = some v → (i + k, pm_cv ad v) ∈ lv_args i (vs.map (pm_cv ad))
  | [], _, _, k, v, h => by simp at h
  | u :: vs, i, hc, k, v, h => by
    have hu : (pm_cv ad u).category = 1 := by rw [pm_cv_cat]; exact hc u List.mem_cons_self
    show _ ∈ (i, pm_cv ad u) :: lv_args (if (pm_cv ad u).category = 2 then i + 2 else i + 1) (vs.map (pm_cv ad))
    rw [if_neg (by rw [hu]; decide)]
    cases k with
    | zero => cases h; exact List.mem_cons_self
    | succ k =>
      refine List.mem_cons_of_mem _ ?_
      have := pm_args (ad := ad) vs (i + 1) (fun v hv => hc v (List.mem_cons_of_mem _ hv)) k v (by simpa using h)
      rwa [show i + (k + 1) = i + 1 + k by omega]
theorem pm_slots {ad : Nat → Nat} : ∀ (vs : List pm_V), (∀ v ∈ vs, pm_cat v = 1) → (lg_sl (vs.map (pm_cv ad))).length = vs.length
  | [], _ => rfl
  | u :: vs, hc => by
    have hu : (pm_cv ad u).category = 1 := by rw [pm_cv_cat]; exact hc u List.mem_cons_self
    have ih := pm_slots (ad := ad) vs (fun v hv => hc v (List.mem_cons_of_mem _ hv))
    simp only [lg_sl, List.map_cons, List.flatMap_cons, List.length_append, List.length_cons] at ih ⊢
    rw [if_neg (by rw [hu]; decide), ih]
    simp
    omega
theorem pm_LR.entry {ad : Nat → Nat} {vs : List pm_V} {n : Nat} (hc : ∀ v ∈ vs, pm_cat v = 1) (hn : vs.length ≤ n) : pm_LR ad ((lg_sl (vs.map (pm_cv ad)) ++ List.replicate (n - (lg_sl (vs.map (pm_cv ad))).length) Slot.unset).toArray) n (vs.map some ++ List.replicate (n - vs.length) none) := by
  have h := lv_entry (vs.map (pm_cv ad)) (n := n) (by rw [pm_slots vs hc]; exact hn)
  refine ⟨by simp; omega, h.1, h.2.1, fun i v hv => ?_⟩
  have hi : i < vs.length := by
    by_cases hi : i < vs.length
    · exact hi
    · exfalso
      rw [List.getElem?_append_right (by simp; omega)] at hv
      simp [List.getElem?_replicate] at hv
  rw [List.getElem?_append_left (by simpa using hi)] at hv
  simp only [List.getElem?_map] at hv
  have hv2 : vs[i]? = some v := by
    cases h2 : vs[i]? with
    | none => rw [h2] at hv; cases hv
    | some w => rw [h2] at hv; cases hv; rfl
  have := h.2.2 (0 + i, pm_cv ad v) (pm_args vs 0 hc i v hv2)
  simpa using this
/-- reading the cases back -/
theorem pm_gi_s {L : pm_L} {i : Nat} {f : Int32 → Prop} (h : pm_gi L i f) : ∃ x, L[i]? = some (some (.inl x)) ∧ f x := by
  unfold pm_gi at h
  split at h
  · exact ⟨_, by assumption, h⟩
  · exact h.elim
theorem pm_gl_s {L : pm_L} {i : Nat} {f : Int64 → Prop} (h : pm_gl L i f) : ∃ x, L[i]? = some (some (.inr (.inl x))) ∧ f x := by
  unfold pm_gl at h
  split at h
  · exact ⟨_, by assumption, h⟩
  · exact h.elim
theorem pm_ga_s {L : pm_L} {i : Nat} {f : Nat → Prop} (h : pm_ga L i f) : ∃ x, L[i]? = some (some (.inr (.inr x))) ∧ f x := by
  unfold pm_ga at h
  split at h
  · exact ⟨_, by assumption, h⟩
  · exact h.elim
theorem pm_s1_s {L : pm_L} {i : Nat} {v : pm_V} {f : pm_L → Prop} (h : pm_s1 L i v f) : i < L.length ∧ pm_nl L i = true ∧ f (L.set i (some v)) := by
  unfold pm_s1 at h
  split at h
  · rename_i hc; exact ⟨hc.1, hc.2, h⟩
  · exact h.elim
theorem pm_s2_s {L : pm_L} {i : Nat} {v : pm_V} {f : pm_L → Prop} (h : pm_s2 L i v f) : i + 1 < L.length ∧ pm_nl L i = true ∧ f ((L.set i (some v)).set (i + 1) none) := by
  unfold pm_s2 at h
  split at h
  · rename_i hc; exact ⟨hc.1, hc.2, h⟩
  · exact h.elim
theorem pm_i1_s {st : List pm_V} {f : Int32 → List pm_V → Prop} (h : pm_i1 st f) : ∃ x r, st = .inl x :: r ∧ f x r := by
  unfold pm_i1 at h
  split at h
  · exact ⟨_, _, rfl, h⟩
  · exact h.elim
theorem pm_i2_s {st : List pm_V} {f : Int32 → Int32 → List pm_V → Prop} (h : pm_i2 st f) : ∃ x y r, st = .inl y :: .inl x :: r ∧ f x y r := by
  unfold pm_i2 at h
  split at h
  · exact ⟨_, _, _, rfl, h⟩
  · exact h.elim
theorem pm_l1_s {st : List pm_V} {f : Int64 → List pm_V → Prop} (h : pm_l1 st f) : ∃ x r, st = .inr (.inl x) :: r ∧ f x r := by
  unfold pm_l1 at h
  split at h
  · exact ⟨_, _, rfl, h⟩
  · exact h.elim
theorem pm_l2_s {st : List pm_V} {f : Int64 → Int64 → List pm_V → Prop} (h : pm_l2 st f) : ∃ x y r, st = .inr (.inl y) :: .inr (.inl x) :: r ∧ f x y r := by
  unfold pm_l2 at h
  split at h
  · exact ⟨_, _, _, rfl, h⟩
  · exact h.elim
theorem pm_a1_s {st : List pm_V} {f : Nat → List pm_V → Prop} (h : pm_a1 st f) : ∃ k r, st = .inr (.inr k) :: r ∧ f k r := by
  unfold pm_a1 at h
  split at h
  · exact ⟨_, _, rfl, h⟩
  · exact h.elim
theorem pm_al_s {S pc : Nat} {call : pm_C} {rt : Option FieldType} {Q : pm_Q} {L : pm_L} {st : List pm_V} {M : pm_M} {K : pm_K} {z : Nat × Nat × Nat × Nat} (h : pm_wp S call rt Q (.iaload, z) pc L st M K) : ∃ i k r, st = .inl i :: .inr (.inr k) :: r ∧ vp_in i (pm_ln S k) ∧ K (pc + 1) L (.inl (M k i.toNatClampNeg) :: r) M := by
  rcases st with _ | ⟨v, _ | ⟨u, r⟩⟩
  · exact h.elim
  · rcases v with x | x | x <;> exact h.elim
  · rcases v with x | x | x
    · rcases u with y | y | y
      · exact h.elim
      · exact h.elim
      · exact ⟨x, y, r, rfl, h⟩
    · exact h.elim
    · exact h.elim
theorem pm_as_s {S pc : Nat} {call : pm_C} {rt : Option FieldType} {Q : pm_Q} {L : pm_L} {st : List pm_V} {M : pm_M} {K : pm_K} {z : Nat × Nat × Nat × Nat} (h : pm_wp S call rt Q (.iastore, z) pc L st M K) : ∃ x i k r, st = .inl x :: .inl i :: .inr (.inr k) :: r ∧ vp_in i (pm_wl k) ∧ K (pc + 1) L r (pm_up M k i.toNatClampNeg x) := by
  rcases st with _ | ⟨v, _ | ⟨u, _ | ⟨t, r⟩⟩⟩
  · exact h.elim
  · rcases v with x | x | x <;> exact h.elim
  · rcases v with x | x | x <;> rcases u with y | y | y <;> exact h.elim
  · rcases v with x | x | x <;> rcases u with y | y | y <;> rcases t with w | w | w <;> first | exact h.elim | exact ⟨_, _, _, _, rfl, h⟩
theorem pm_ir_s {S pc : Nat} {call : pm_C} {rt : Option FieldType} {Q : pm_Q} {L : pm_L} {st : List pm_V} {M : pm_M} {K : pm_K} {z : Nat × Nat × Nat × Nat} (h : pm_wp S call rt Q (.ireturn, z) pc L st M K) : ∃ v, st = [.inl v] ∧ pm_ro rt v ∧ Q (some (.inl v)) M := by
  rcases st with _ | ⟨v, _ | ⟨u, r⟩⟩
  · exact h.elim
  · rcases v with x | x | x <;> first | exact h.elim | exact ⟨_, rfl, h⟩
  · rcases v with x | x | x <;> exact h.elim
theorem pm_lr_s {S pc : Nat} {call : pm_C} {rt : Option FieldType} {Q : pm_Q} {L : pm_L} {st : List pm_V} {M : pm_M} {K : pm_K} {z : Nat × Nat × Nat × Nat} (h : pm_wp S call rt Q (.lreturn, z) pc L st M K) : ∃ v, st = [.inr (.inl v)] ∧ rt = some .long ∧ Q (some (.inr (.inl v))) M := by
  rcases st with _ | ⟨v, _ | ⟨u, r⟩⟩
  · exact h.elim
  · rcases v with x | x | x <;> first | exact h.elim | exact ⟨_, rfl, h⟩
  · rcases v with x | x | x <;> exact h.elim
theorem pm_vr_s {S pc : Nat} {call : pm_C} {rt : Option FieldType} {Q : pm_Q} {L : pm_L} {st : List pm_V} {M : pm_M} {K : pm_K} {z : Nat × Nat × Nat × Nat} (h : pm_wp S call rt Q (.return_, z) pc L st M K) : st = [] ∧ rt = none ∧ Q none M := by
  rcases st with _ | ⟨v, r⟩
  · exact ⟨rfl, h⟩
  · exact h.elim
theorem pm_iv_s {S pc idx a b cl z : Nat} {call : pm_C} {rt : Option FieldType} {Q : pm_Q} {L : pm_L} {st : List pm_V} {M : pm_M} {K : pm_K} (h : pm_wp S call rt Q (.invokevirtual idx, a, b, cl, z) pc L st M K) : ∃ k vs, (st.take b).reverse = .inr (.inr k) :: vs ∧ b ≤ st.length ∧ pm_sm (st.drop b) ≤ 8 ∧ pm_cl k = cl ∧ call a (.inr (.inr k) :: vs) M (fun r M' => K (pc + 3) L (r.toList ++ st.drop b) M') := by
  have h : (if pm_sm (st.drop b) ≤ 8 ∧ b ≤ st.length then (match (st.take b).reverse with
    | .inr (.inr k) :: vs => if pm_cl k = cl then call a (.inr (.inr k) :: vs) M (fun r M' => K (pc + 3) L (r.toList ++ st.drop b) M') else False
    | _ => False) else False) := h
  split at h
  case isFalse => exact h.elim
  case isTrue hc =>
  split at h
  · split at h
    · exact ⟨_, _, by assumption, hc.2, hc.1, by assumption, h⟩
    · exact h.elim
  · exact h.elim
theorem pm_is_s {S pc idx a b z : Nat} {call : pm_C} {rt : Option FieldType} {Q : pm_Q} {L : pm_L} {st : List pm_V} {M : pm_M} {K : pm_K} (h : pm_wp S call rt Q (.invokestatic idx, a, b, 0, z) pc L st M K) : pm_sm (st.drop b) ≤ 8 ∧ b ≤ st.length ∧ call a (st.take b).reverse M (fun r M' => K (pc + 3) L (r.toList ++ st.drop b) M') := by
  have h : (if pm_sm (st.drop b) ≤ 8 ∧ b ≤ st.length then call a (st.take b).reverse M (fun r M' => K (pc + 3) L (r.toList ++ st.drop b) M') else False) := h
  split at h
  case isFalse => exact h.elim
  case isTrue hc => exact ⟨hc.1, hc.2, h⟩
theorem pm_is_cs {S pc idx a b cl z : Nat} {call : pm_C} {rt : Option FieldType} {Q : pm_Q} {L : pm_L} {st : List pm_V} {M : pm_M} {K : pm_K} (h : pm_wp S call rt Q (.invokestatic idx, a, b, cl, z) pc L st M K) (hc : ¬ cl = 0) :
    (cl = 1 ∧ ∃ x y r, st = .inl y :: .inl x :: r ∧ pm_sm r ≤ 8 ∧ K (pc + 3) L (.inl (pm_max x y) :: r) M) ∨ (cl = 2 ∧ ∃ x y r, st = .inl y :: .inl x :: r ∧ pm_sm r ≤ 8 ∧ K (pc + 3) L (.inl (pm_min x y) :: r) M) ∨ (cl = 3 ∧ ∃ x r, st = .inl x :: r ∧ pm_sm r ≤ 8 ∧ K (pc + 3) L (.inl (pm_abs x) :: r) M) ∨
    (cl = 4 ∧ ∃ n dp k1 sp k0 r, st = .inl n :: .inl dp :: .inr (.inr k1) :: .inl sp :: .inr (.inr k0) :: r ∧ pm_sm r ≤ 8 ∧ ((¬ sp < 0 ∧ ¬ dp < 0 ∧ ¬ n < 0) ∧ (0 < pm_wl k0 ∧ 0 < pm_wl k1) ∧ sp.toNatClampNeg + n.toNatClampNeg ≤ pm_wl k0 ∧ dp.toNatClampNeg + n.toNatClampNeg ≤ pm_wl k1) ∧ K (pc + 3) L r (pm_cpy M k0 sp.toNatClampNeg k1 dp.toNatClampNeg n.toNatClampNeg)) := by
  rcases cl with _ | _ | _ | _ | _ | cl
  · exact absurd rfl hc
  · obtain ⟨x, y, r, rfl, h0⟩ := pm_i2_s h
    split at h0
    · exact Or.inl ⟨rfl, x, y, r, rfl, by assumption, h0⟩
    · exact h0.elim
  · obtain ⟨x, y, r, rfl, h0⟩ := pm_i2_s h
    split at h0
    · exact Or.inr (Or.inl ⟨rfl, x, y, r, rfl, by assumption, h0⟩)
    · exact h0.elim
  · obtain ⟨x, r, rfl, h0⟩ := pm_i1_s h
    split at h0
    · exact Or.inr (Or.inr (Or.inl ⟨rfl, x, r, rfl, by assumption, h0⟩))
    · exact h0.elim
  · refine Or.inr (Or.inr (Or.inr ⟨rfl, ?_⟩))
    rcases st with _ | ⟨v1, _ | ⟨v2, _ | ⟨v3, _ | ⟨v4, _ | ⟨v5, r⟩⟩⟩⟩⟩
    · exact h.elim
    · rcases v1 with x1 | x1 | x1 <;> exact h.elim
    · rcases v1 with x1 | x1 | x1 <;> rcases v2 with x2 | x2 | x2 <;> exact h.elim
    · rcases v1 with x1 | x1 | x1 <;> rcases v2 with x2 | x2 | x2 <;> rcases v3 with x3 | x3 | x3 <;> exact h.elim
    · rcases v1 with x1 | x1 | x1 <;> rcases v2 with x2 | x2 | x2 <;> rcases v3 with x3 | x3 | x3 <;> rcases v4 with x4 | x4 | x4 <;> exact h.elim
    · rcases v1 with x1 | x1 | x1 <;> rcases v2 with x2 | x2 | x2 <;> rcases v3 with x3 | x3 | x3 <;> rcases v4 with x4 | x4 | x4 <;> rcases v5 with x5 | x5 | x5 <;> first | exact h.elim | skip
      have h : (if pm_sm r ≤ 8 then _ else False) := h
      split at h
      · exact ⟨_, _, _, _, _, _, rfl, by assumption, h⟩
      · exact h.elim
  · exact h.elim
theorem pm_pf_s {S pc idx a b c3 z : Nat} {call : pm_C} {rt : Option FieldType} {Q : pm_Q} {L : pm_L} {st : List pm_V} {M : pm_M} {K : pm_K} (h : pm_wp S call rt Q (.putfield idx, a, b, c3, z) pc L st M K) :
    ∃ (v : pm_V) (k : Nat) (r : List pm_V) (x : Int32), st = v :: .inr (.inr k) :: r ∧ pm_cl k = a ∧ ((pm_fk a b = 0 ∧ v = .inl x) ∨ (pm_fk a b = 1 ∧ v = .inl x ∧ (x = 0 ∨ x = 1)) ∨ (pm_fk a b = 3 ∧ ∃ w : Nat, v = .inr (.inr w) ∧ w < 256 ∧ x = Int32.ofNat w)) ∧ K (pc + 3) L r (pm_up M k b x) := by
  rcases st with _ | ⟨v, _ | ⟨u, r⟩⟩
  · exact h.elim
  · rcases v with x | x | x <;> exact h.elim
  · rcases v with x | x | x <;> rcases u with y | y | y <;> first | exact h.elim | skip
    · have h : (if pm_cl y = a then _ else False) := h
      split at h
      · rename_i hc
        have h : (match pm_fk a b with
          | 0 => K (pc + 3) L r (pm_up M y b x)
          | 1 => (x = 0 ∨ x = 1) ∧ K (pc + 3) L r (pm_up M y b x)
          | _ => False) := by exact h
        generalize hf : pm_fk a b = q at h
        rcases q with _ | _ | q
        · exact ⟨_, _, _, x, rfl, hc, Or.inl ⟨rfl, rfl⟩, h⟩
        · exact ⟨_, _, _, x, rfl, hc, Or.inr (Or.inl ⟨rfl, rfl, h.1⟩), h.2⟩
        · exact h.elim
      · exact h.elim
    · have h : (if pm_cl y = a then _ else False) := h
      split at h
      · rename_i hc
        generalize hf : pm_fk a b = q at h
        rcases q with _ | _ | _ | _ | q
        · exact h.elim
        · exact h.elim
        · exact h.elim
        · exact ⟨_, _, _, _, rfl, hc, Or.inr (Or.inr ⟨rfl, x, rfl, h.1, rfl⟩), h.2⟩
        · exact h.elim
      · exact h.elim
