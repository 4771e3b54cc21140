theorem pm_in_lt {j pc : Nat} {e : pm_E} (h : pm_in j pc = some e) : pc < (pm_tab j).length := by
  by_cases hp : pc < (pm_tab j).length
  · exact hp
  · exfalso
    unfold pm_in at h
    rw [List.getD_eq_getElem?_getD, List.getElem?_eq_none (by omega)] at h
    cases h
theorem pm_ok {j pc : Nat} {e : pm_E} (hj : j < 161) (h : pm_in j pc = some e) : decode (pm_b j) pc = .ok (e.1, pm_il e) ∧ pm_x j pc e = true := by
  have h1 := List.all_eq_true.mp (pm_cks hj) pc (List.mem_range.mpr (pm_in_lt h))
  unfold pm_in at h
  rw [h] at h1
  simp only [Bool.and_eq_true, decide_eq_true_eq] at h1
  exact h1
theorem pm_sw_ok {j pc : Nat} {df lo hi : Int} {offs : Array Int} {a : Nat} {z : Nat × Nat × Nat} (h : pm_x j pc (.tableswitch df lo hi offs, a, z) = true) : (pc : Int) + df = (a : Int) ∧ hi - lo + 1 = (offs.size : Int) ∧ ∀ (n : Nat) (o : Int), offs[n]? = some o → 0 ≤ (pc : Int) + o := by
  simp only [pm_x, Bool.and_eq_true, decide_eq_true_eq] at h
  refine ⟨h.1, h.2.1, fun n o ho => ?_⟩
  have := List.all_eq_true.mp h.2.2 o (by
    rw [← Array.getElem?_toList] at ho
    exact List.mem_of_getElem? ho)
  exact of_decide_eq_true this
theorem pm_gf_ok {j pc idx a b : Nat} {z : Nat × Nat} (h : pm_x j pc (.getfield idx, a, b, z) = true) : a < 9 ∧ b < pm_nf a := by
  simp only [pm_x, Bool.and_eq_true, decide_eq_true_eq] at h
  exact h
theorem pm_pf_ok {j pc idx a b : Nat} {z : Nat × Nat} (h : pm_x j pc (.putfield idx, a, b, z) = true) : a < 9 ∧ b < pm_nf a ∧ (pm_fd a b).2.2.2 = false := by
  simp only [pm_x, Bool.and_eq_true, decide_eq_true_eq] at h
  exact ⟨h.1, h.2.1, h.2.2.1⟩
theorem pm_gs_ok {j pc idx a b : Nat} {z : Nat × Nat} (h : pm_x j pc (.getstatic idx, a, b, z) = true) : ∃ q, pm_st[b]? = some q ∧ q.2.2.2 = a := by
  have h : (match pm_st[b]? with
    | some q => decide (q.2.2.2 = a)
    | none => false) = true := h
  split at h
  · exact ⟨_, by assumption, of_decide_eq_true h⟩
  · cases h
theorem pm_iv_ok {j pc idx a b c z : Nat} (h : pm_x j pc (.invokevirtual idx, a, b, c, z) = true) : c < 9 ∧ b = pm_na a + 1 ∧ (pm_q c).1 = (pm_y a).cls ∧ pm_sta a = false ∧ pm_fr a + 1 ≤ pm_fr j ∧ 19 + pm_ml a + pm_lo a ≤ pm_lo j := by
  simp only [pm_x, pm_rok, Bool.and_eq_true, decide_eq_true_eq] at h
  exact h
theorem pm_is_ok {j pc idx a b z : Nat} (h : pm_x j pc (.invokestatic idx, a, b, 0, z) = true) : b = pm_na a ∧ pm_sta a = true ∧ pm_fr a + 1 ≤ pm_fr j ∧ 19 + pm_ml a + pm_lo a ≤ pm_lo j := by
  simp only [pm_x, pm_rok, if_pos, Bool.and_eq_true, decide_eq_true_eq] at h
  exact h
theorem pm_is_rm {j pc idx a b c z : Nat} (h : pm_x j pc (.invokestatic idx, a, b, c, z) = true) (hc : ¬ c = 0) : 1 ≤ pm_fr j ∧ (if c = 4 then 38 else 21) ≤ pm_lo j := by
  simp only [pm_x, if_neg hc, Bool.and_eq_true, decide_eq_true_eq] at h
  exact h
theorem pm_cls_len : pm_cls.length = 9 := rfl
theorem pm_q_get {a : Nat} (h : a < 9) : pm_cls[a]? = some ((pm_q a).1, (pm_q a).2.1, (pm_q a).2.2) := by
  have h2 : a < pm_cls.length := h
  rw [List.getElem?_eq_getElem h2]
  unfold pm_q
  rw [List.getD_eq_getElem?_getD, List.getElem?_eq_getElem h2]
  rfl
def pm_ty (a k : Nat) : FieldType := (parseFieldDescriptor (pm_fd a k).2.2.1).getD .int
theorem pm_cls_a : ∀ a, a < 9 → ∀ k, k < pm_nf a → parseFieldDescriptor (pm_fd a k).2.2.1 = some (pm_ty a k) := by decide +kernel
theorem pm_cls_b : ∀ a, a < 9 → ∀ i, i < pm_nf a → ∀ k, k < pm_nf a → i ≠ k → (pm_fd a i).2.1 ≠ (pm_fd a k).2.1 := by decide +kernel
theorem pm_cl_big {k : Nat} (h : 32 ≤ k) : pm_cl k = 99 := by
  unfold pm_cl
  rw [List.getD_eq_getElem?_getD, List.getElem?_eq_none (by show pm_clL.length ≤ k; exact h)]
  rfl
theorem pm_obj_lt {k : Nat} (h : pm_cl k < 9) : k < 26 := by
  have h1 : ∀ k, k < 32 → pm_cl k < 9 → k < 26 := by decide
  by_cases hk : k < 32
  · exact h1 k hk h
  · rw [pm_cl_big (by omega)] at h
    omega
theorem pm_obj_ia {k : Nat} (h : pm_cl k < 9) : pm_ia k = false := by
  unfold pm_ia
  have : pm_cl k ≠ 50 := by omega
  simpa using this
theorem pm_wl_cs {k : Nat} (h : 0 < pm_wl k) : k < 26 ∧ pm_ia k = true := by
  have h1 : ∀ k, k < 26 → 0 < pm_wl k → pm_ia k = true := by decide
  by_cases hk : k < 26
  · exact ⟨hk, h1 k hk h⟩
  · exfalso
    unfold pm_wl at h
    rw [List.getD_eq_getElem?_getD, List.getElem?_eq_none (by show pm_wlL.length ≤ k; exact Nat.not_lt.mp hk)] at h
    exact Nat.lt_irrefl 0 h
theorem pm_ln_cs {S k : Nat} (h : 0 < pm_ln S k) : (k < 26 ∧ pm_ia k = true ∧ pm_ln S k = pm_wl k) ∨ (26 ≤ k ∧ k < 32) := by
  by_cases hk : k < 26
  · have h1 : ∀ k, k < 26 → pm_lnL.getD k 0 = pm_wl k := by decide
    have e : pm_ln S k = pm_wl k := by
      unfold pm_ln
      rw [if_neg (by omega)]
      exact h1 k hk
    rw [e] at h
    exact Or.inl ⟨hk, (pm_wl_cs h).2, e⟩
  · by_cases hk2 : k < 32
    · exact Or.inr ⟨by omega, hk2⟩
    · exfalso
      unfold pm_ln at h
      rw [if_neg (by omega), List.getD_eq_getElem?_getD, List.getElem?_eq_none (by show pm_lnL.length ≤ k; show 31 ≤ k; omega)] at h
      exact Nat.lt_irrefl 0 h
theorem pm_ia_cs {S k : Nat} (h : pm_ia k = true) : (k < 26 ∧ pm_wl k = pm_ln S k) ∨ (26 ≤ k ∧ k < 32) := by
  by_cases hk : k < 26
  · have h1 : ∀ k, k < 26 → pm_lnL.getD k 0 = pm_wl k := by decide
    refine Or.inl ⟨hk, ?_⟩
    unfold pm_ln
    rw [if_neg (by omega), h1 k hk]
  · by_cases hk2 : k < 32
    · exact Or.inr ⟨by omega, hk2⟩
    · exfalso
      unfold pm_ia at h
      rw [pm_cl_big (by omega)] at h
      cases h
