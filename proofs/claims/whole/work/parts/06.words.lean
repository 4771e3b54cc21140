/-! The words that the pure machine's instructions need, out of its tables. -/
def pm_host : String := "SevenPassImage"
def pm_lk (own : String) (e : pm_E) : Option Cond := match e with
  | (.ldc i, a, _) => some (.constant own i (Int32.ofNat a))
  | (.ldc2_w i, a, _) => some (.constantLong own i (Int64.ofNat a))
  | (.getfield i, a, b, _, z) => if z = 0 then some (.fieldLink own i (pm_fd a b).1 (pm_fd a b).2.1 (pm_fd a b).2.2.1) else none
  | (.putfield i, a, b, _, z) => if z = 0 then some (.fieldLink own i (pm_fd a b).1 (pm_fd a b).2.1 (pm_fd a b).2.2.1) else none
  | (.getstatic i, _, b, _, z) => if z = 0 then (pm_st[b]?).map fun q => .fieldLink own i q.1 q.2.1 q.2.2.1 else none
  | (.invokevirtual i, a, _, _, z) => if z = 0 then some (.methodLink own i (pm_y a)) else none
  | (.invokestatic i, a, _, c, z) => match c with
    | 0 => if z = 0 then some (.methodLink own i (pm_y a)) else none
    | 1 => some (.methodLink own i Lib.Math.max.name)
    | 2 => some (.methodLink own i Lib.Math.min.name)
    | 3 => some (.methodLink own i Lib.Math.abs.name)
    | _ => some (.methodLink own i arraycopyName)
  | _ => none
def pm_nk (own : String) (e : pm_E) : Option (String × Nat × String × String × String) := match e with
  | (.getfield i, a, b, _, z) => if z = 0 then none else some (own, i, (pm_fd a b).1, (pm_fd a b).2.1, (pm_fd a b).2.2.1)
  | (.putfield i, a, b, _, z) => if z = 0 then none else some (own, i, (pm_fd a b).1, (pm_fd a b).2.1, (pm_fd a b).2.2.1)
  | (.getstatic i, _, b, _, z) => if z = 0 then none else (pm_st[b]?).map fun q => (own, i, q.1, q.2.1, q.2.2.1)
  | _ => none
def pm_mk (own : String) (e : pm_E) : Option (String × Nat × MethodName) := match e with
  | (.invokevirtual i, a, _, _, z) => if z = 0 then none else some (own, i, pm_y a)
  | (.invokestatic i, a, _, c, z) => if c = 0 then (if z = 0 then none else some (own, i, pm_y a)) else none
  | _ => none
def pm_lw : List Cond := (List.range 161).flatMap fun j => (pm_tab j).filterMap fun o => o.bind (pm_lk (pm_y j).cls)
def pm_nF : List (String × Nat × String × String × String) := (List.range 161).flatMap fun j => (pm_tab j).filterMap fun o => o.bind (pm_nk (pm_y j).cls)
def pm_nM : List (String × Nat × MethodName) := (List.range 161).flatMap fun j => (pm_tab j).filterMap fun o => o.bind (pm_mk (pm_y j).cls)
def pm_mw (j : Nat) : List Cond := .code (pm_y j) (pm_b j) (pm_ml j) (pm_rt j) :: .initialized (pm_y j).cls :: (if pm_sta j = true then [.static (pm_y j)] else [.instanceMethod (pm_y j), .selects (pm_y j).cls (pm_y j) (pm_y j)])
def pm_jw : List Cond := [.static Lib.Math.max.name, .initialized "java/lang/Math", .code Lib.Math.max.name Lib.Math.max.code 2 (some .int), .static Lib.Math.min.name, .code Lib.Math.min.name Lib.Math.min.code 2 (some .int), .static Lib.Math.abs.name, .code Lib.Math.abs.name Lib.Math.abs.code 1 (some .int), .native arraycopyName, .static arraycopyName, .initialized "java/lang/System"]
def pm_uw : List Cond := (List.range 9).flatMap fun a => u_ws (pm_q a).1 (pm_q a).2.1 (pm_q a).2.2
def pm_ws : List Cond := (List.range 160).flatMap pm_mw ++ (pm_lw ++ (pm_uw ++ pm_jw))
def pm_W (j : Nat) : List Cond := .code (pm_y j) (pm_b j) (pm_ml j) (pm_rt j) :: pm_ws
theorem pm_in_mem {j pc : Nat} {e : pm_E} (h : pm_in j pc = some e) : some e ∈ pm_tab j := by
  have hl := pm_in_lt h
  unfold pm_in at h
  rw [List.getD_eq_getElem?_getD, List.getElem?_eq_getElem hl] at h
  rw [← show (pm_tab j)[pc] = some e from h]
  exact List.getElem_mem hl
theorem pm_lk_mem {j pc : Nat} {e : pm_E} (hj : j < 161) (h : pm_in j pc = some e) {w : Cond} (hw : pm_lk (pm_y j).cls e = some w) : w ∈ pm_ws :=
  List.mem_append_right _ (List.mem_append_left _ (List.mem_flatMap.mpr ⟨j, List.mem_range.mpr hj, List.mem_filterMap.mpr ⟨some e, pm_in_mem h, hw⟩⟩))
theorem pm_nF_mem {j pc : Nat} {e : pm_E} (hj : j < 161) (h : pm_in j pc = some e) {w : String × Nat × String × String × String} (hw : pm_nk (pm_y j).cls e = some w) : w ∈ pm_nF :=
  List.mem_flatMap.mpr ⟨j, List.mem_range.mpr hj, List.mem_filterMap.mpr ⟨some e, pm_in_mem h, hw⟩⟩
theorem pm_nM_mem {j pc : Nat} {e : pm_E} (hj : j < 161) (h : pm_in j pc = some e) {w : String × Nat × MethodName} (hw : pm_mk (pm_y j).cls e = some w) : w ∈ pm_nM :=
  List.mem_flatMap.mpr ⟨j, List.mem_range.mpr hj, List.mem_filterMap.mpr ⟨some e, pm_in_mem h, hw⟩⟩
theorem pm_mw_mem {j : Nat} (hj : j < 160) {w : Cond} (hw : w ∈ pm_mw j) : w ∈ pm_ws := List.mem_append_left _ (List.mem_flatMap.mpr ⟨j, List.mem_range.mpr hj, hw⟩)
theorem pm_w_ini {j : Nat} (hj : j < 160) : Cond.initialized (pm_y j).cls ∈ pm_ws := pm_mw_mem hj (by simp [pm_mw])
theorem pm_w_code {j : Nat} (hj : j < 160) : Cond.code (pm_y j) (pm_b j) (pm_ml j) (pm_rt j) ∈ pm_ws := pm_mw_mem hj (by simp [pm_mw])
theorem pm_w_stat {j : Nat} (hj : j < 160) (hs : pm_sta j = true) : Cond.static (pm_y j) ∈ pm_ws := pm_mw_mem hj (by simp [pm_mw, hs])
theorem pm_w_inst {j : Nat} (hj : j < 160) (hs : pm_sta j = false) : Cond.instanceMethod (pm_y j) ∈ pm_ws := pm_mw_mem hj (by simp [pm_mw, hs])
theorem pm_w_sel {j : Nat} (hj : j < 160) (hs : pm_sta j = false) : Cond.selects (pm_y j).cls (pm_y j) (pm_y j) ∈ pm_ws := pm_mw_mem hj (by simp [pm_mw, hs])
theorem pm_uws {a : Nat} (h : a < 9) : ∀ w ∈ u_ws (pm_q a).1 (pm_q a).2.1 (pm_q a).2.2, w ∈ pm_ws := fun w hw =>
  List.mem_append_right _ (List.mem_append_right _ (List.mem_append_left _ (List.mem_flatMap.mpr ⟨a, List.mem_range.mpr h, hw⟩)))
theorem pm_jws {i : Nat} {w : Cond} (h : pm_jw[i]? = some w) : w ∈ pm_ws := List.mem_append_right _ (List.mem_append_right _ (List.mem_append_right _ (List.mem_of_getElem? h)))
theorem pm_gs_lk {own : String} {i a b c : Nat} {q : String × String × String × Nat} (h : pm_st[b]? = some q) : pm_lk own (.getstatic i, a, b, c, 0) = some (.fieldLink own i q.1 q.2.1 q.2.2.1) := by
  show (pm_st[b]?).map _ = _
  rw [h]
  rfl
theorem pm_gs_nk {own : String} {i a b c z : Nat} (hz : ¬ z = 0) {q : String × String × String × Nat} (h : pm_st[b]? = some q) : pm_nk own (.getstatic i, a, b, c, z) = some (own, i, q.1, q.2.1, q.2.2.1) := by
  show (if z = 0 then none else (pm_st[b]?).map _) = _
  rw [if_neg hz, h]
  rfl
theorem pm_is_nk {own : String} {i a b z : Nat} (hz : ¬ z = 0) : pm_mk own (.invokestatic i, a, b, 0, z) = some (own, i, pm_y a) := by
  show (if 0 = 0 then (if z = 0 then none else some (own, i, pm_y a)) else none) = _
  rw [if_pos rfl, if_neg hz]
theorem pm_good_m : ((List.range 160).flatMap pm_mw).all goodWord = true := by decide +kernel
theorem pm_good_l : pm_lw.all goodWord = true := by decide +kernel
theorem pm_good_u : (pm_uw ++ pm_jw).all goodWord = true := by decide +kernel
theorem pm_good {w : Cond} (h : w ∈ pm_ws) : goodWord w = true := by
  rcases List.mem_append.mp h with h | h
  · exact List.all_eq_true.mp pm_good_m w h
  · rcases List.mem_append.mp h with h | h
    · exact List.all_eq_true.mp pm_good_l w h
    · exact List.all_eq_true.mp pm_good_u w h
theorem pm_goodIn {a : Nat} (ha : a < 160) : GoodIn pm_ws (pm_W a) := by
  intro w hw
  rcases List.mem_cons.mp hw with h | h
  · subst h
    exact ⟨pm_w_code ha, good_of_word (pm_good (pm_w_code ha))⟩
  · exact ⟨h, good_of_word (pm_good h)⟩
theorem pm_desc : ∀ {a : Nat}, a < 160 → (pm_y a).cls ≠ "java/lang/invoke/MethodHandle" ∧ (pm_y a).cls ≠ "java/lang/invoke/VarHandle" ∧ (parseMethodDescriptor (pm_y a).desc).map (fun d => d.parameters.length) = some (pm_na a) := by
  have h : ∀ a, a < 160 → (pm_y a).cls ≠ "java/lang/invoke/MethodHandle" ∧ (pm_y a).cls ≠ "java/lang/invoke/VarHandle" ∧ (parseMethodDescriptor (pm_y a).desc).map (fun d => d.parameters.length) = some (pm_na a) := by decide +kernel
  intro a ha
  exact h a ha
theorem pm_plain {j : Nat} (hj : j < 160) : plainName (pm_y j).cls = true := by
  have h : ∀ j, j < 160 → plainName (pm_y j).cls = true := by decide +kernel
  exact h j hj
theorem pm_nfw : nativeFrameWords "java/lang/System" "arraycopy" 5 ≤ 19 := by decide +kernel
theorem pm_pf_ty {ad : Nat → Nat} {M : pm_M} {j pc idx k b : Nat} {z : Nat × Nat} {v : pm_V} {x : Int32} (h : pm_x j pc (.putfield idx, pm_cl k, b, z) = true) (hk : (pm_fk (pm_cl k) b = 0 ∧ v = .inl x) ∨ (pm_fk (pm_cl k) b = 1 ∧ v = .inl x ∧ (x = 0 ∨ x = 1)) ∨ (pm_fk (pm_cl k) b = 3 ∧ ∃ w : Nat, v = .inr (.inr w) ∧ w < 256 ∧ x = Int32.ofNat w)) :
    ∃ ty, parseFieldDescriptor (pm_fd (pm_cl k) b).2.2.1 = some ty ∧ narrow ty (pm_cv ad v) = pm_cv ad v ∧ fits ty (pm_cv ad v) = true ∧ pm_fv (pm_up M k b x) k (pm_cl k) b = v := by
  simp only [pm_x, Bool.and_eq_true] at h
  have h4 := h.2.2.2
  have e1 : pm_up M k b x k b = x := by simp [pm_up]
  rcases hk with ⟨h1, rfl⟩ | ⟨h1, rfl, h2⟩ | ⟨h1, w, rfl, h2, rfl⟩
  · rw [h1] at h4
    exact ⟨_, of_decide_eq_true h4, rfl, rfl, by simp only [pm_fv, h1, e1]⟩
  · rw [h1] at h4
    refine ⟨_, of_decide_eq_true h4, ?_, ?_, by simp only [pm_fv, h1, e1]⟩
    · rcases h2 with rfl | rfl <;> rfl
    · rcases h2 with rfl | rfl <;> rfl
  · rw [h1] at h4
    refine ⟨_, of_decide_eq_true h4, rfl, rfl, ?_⟩
    simp only [pm_fv, h1, e1]
    rw [Int32.toNatClampNeg_ofNat_of_lt (by omega)]
