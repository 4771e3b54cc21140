section PMW
variable {p : Program} {l : Launch} {e : Env} {R : Room} {s : State} {m : MethodId} {args : Array Value} {below : List Frame} {meth : Method} {c : Code} {cells slots : Nat} {Qf : State → Prop}
variable {D : va_G} {cA : ClassId} {ad : Nat → Nat} {A : Nat → Prop} {S : Nat} {ro : pm_M}
/-- behind a call -/
theorem pm_cont {H : Heap} {locs : List Loc} {pc : Nat} {ls : Array Slot} {st0 rest : List Value} {a : Array Value} {Q : pm_Q} (hr : va_Run p l e R s m args below meth c H locs cells slots 0 0 (F0 m pc ls st0) rest (pm_Qc D cA ad A ro Q a) A) (hS : va_S A s.heap H locs)
    (kk : ∀ (r : Option pm_V) (M : pm_M) (H1 : Heap) (locs1 : List Loc), Q r M → pm_H D cA ad A ro M H1 → va_S A s.heap H1 locs1 → W p l e R s m args below meth c H1 locs1 cells slots Qf (F0 m (pc + 3) ls ((r.map (pm_cv ad)).toList ++ rest))) : W p l e R s m args below meth c H locs cells slots Qf (F0 m pc ls st0) := by
  intro T hT X
  obtain ⟨v, st₀, t, T', L, h0, X', hL, e1, e2, ⟨⟨r, M, hv, hq, hH⟩, hz, hk⟩, st⟩ := hr T hT X
  cases hv
  rw [h0] at hz hk
  obtain ⟨t2, a1, b1⟩ := kk r M T'.heap (locs ++ L) hq (by rw [e1]; exact hH) ⟨Nat.le_trans hS.1 (by rw [e1]; exact hz), fun q h1 h2 => by rw [e1, hk q (Nat.lt_of_lt_of_le h1 hS.1) h2]; exact hS.2.1 q h1 h2, fun q hq => by
      rcases List.mem_append.mp hq with h | h
      · exact hS.2.2 q h
      · exact hL q h⟩ T' rfl X'
  exact ⟨t2, st t2 a1, b1⟩
theorem pm_H.put {M : pm_M} {H : Heap} {k j : Nat} {x : Int32} {f : Nat → Int32 → va_E} (h : pm_H D cA ad A ro M H) (hk : k < 26) : ∀ q, 26 ≤ q → pm_up M k j x q = ro q := fun q hq => by
  rw [pm_up_ne (by omega)]; exact h.2.2 q hq
theorem pm_objset {M : pm_M} {k b : Nat} {x : Int32} {v : pm_V} (hv : pm_fv (pm_up M k b x) k (pm_cl k) b = v) (hi : pm_ia k = false) : (Sum.inr (pm_cl k, ((List.range (pm_nf (pm_cl k))).map fun j => pm_cv ad (pm_fv M k (pm_cl k) j)).set b (pm_cv ad v)) : va_E) = pm_cell ad cA (pm_up M k b x) k := by
  unfold pm_cell
  rw [if_neg (by rw [hi]; decide)]
  congr 2
  apply List.ext_getElem?
  intro j
  rw [List.getElem?_set]
  by_cases hj : b = j
  · subst hj
    by_cases hn : b < pm_nf (pm_cl k)
    · simp [hn, hv]
    · simp [hn]
  · rw [if_neg hj]
    by_cases hn : j < pm_nf (pm_cl k)
    · have e1 : pm_up M k b x k j = M k j := by simp [pm_up, Ne.symm hj]
      simp [hn, pm_fv, e1]
    · simp [hn]
/-- an object's cell in the world -/
theorem pm_obj {M : pm_M} {k : Nat} (hc : pm_cl k < 9) : k < 26 ∧ pm_ia k = false ∧ (pm_w ad cA M)[k]? = some (ad k, .inr (pm_cl k, (List.range (pm_nf (pm_cl k))).map fun j => pm_cv ad (pm_fv M k (pm_cl k) j))) := by
  have hk := pm_obj_lt hc
  have hi := pm_obj_ia hc
  refine ⟨hk, hi, ?_⟩
  rw [pm_w_get hk]
  unfold pm_cell
  rw [if_neg (by rw [hi]; decide)]
theorem pm_arr {M : pm_M} {k : Nat} (hk : k < 26) (hi : pm_ia k = true) : (pm_w ad cA M)[k]? = some (ad k, .inl (cA, pm_wl k, .inl (M k))) := by
  rw [pm_w_get hk]
  unfold pm_cell
  rw [if_pos hi]
theorem pm_vpin {i : Int32} {n : Nat} (h : vp_in i n) : 0 < n := by
  cases n with
  | zero => exact absurd (Or.inr (Nat.zero_le _)) h
  | succ n => omega
set_option maxHeartbeats 4000000 in
set_option maxRecDepth 100000 in
theorem pm_walk (call : pm_C) (j : Nat) (Q : pm_Q) (hj : j < 161)
    (hx : p.tables.exec = Jvm.exec) (hb : c.code = pm_b j) (hml : c.maxLocals = pm_ml j) (hown : s.vm.findClass (pm_y j).cls = some m.cls)
    (hts : ∀ w ∈ pm_ws, w.before args s = true) (hI : pm_I D cA ad A S ro s s.heap)
    (hRf : pm_fr j ≤ R.frames) (hRl : pm_lo j ≤ R.locals) (hcc : cells ≤ R.cells) (hss : slots ≤ R.slots)
    (hcall : ∀ (a : Nat) (vs : List pm_V) (M : pm_M) (Q : pm_Q), call a vs M Q → a < 160 ∧ Met l (pm_y a) (pm_W a) (pm_rm a) (pm_Pc D cA ad A S ro M vs) (pm_Qc D cA ad A ro Q) 0 0 A)
    (hir : ∀ (pc : Nat) (ls : Array Slot) (H : Heap) (locs : List Loc) (v : Int32) (M : pm_M), decode (pm_b j) pc = .ok (.ireturn, 1) → pm_ro (pm_rt j) v → Q (some (.inl v)) M → pm_H D cA ad A ro M H → va_S A s.heap H locs → W p l e R s m args below meth c H locs cells slots Qf (F0 m pc ls [.int v]))
    (hlr : ∀ (pc : Nat) (ls : Array Slot) (H : Heap) (locs : List Loc) (v : Int64) (M : pm_M), decode (pm_b j) pc = .ok (.lreturn, 1) → pm_rt j = some .long → Q (some (.inr (.inl v))) M → pm_H D cA ad A ro M H → va_S A s.heap H locs → W p l e R s m args below meth c H locs cells slots Qf (F0 m pc ls [.long v]))
    (hvr : ∀ (pc : Nat) (ls : Array Slot) (H : Heap) (locs : List Loc) (M : pm_M), decode (pm_b j) pc = .ok (.return_, 1) → pm_rt j = none → Q none M → pm_H D cA ad A ro M H → va_S A s.heap H locs → W p l e R s m args below meth c H locs cells slots Qf (F0 m pc ls [])) :
    ∀ (pc : Nat) (L : pm_L) (st : List pm_V) (M : pm_M), pm_R S call Q j pc L st M → ∀ (ls : Array Slot) (H : Heap) (locs : List Loc), pm_LR ad ls (pm_ml j) L → pm_H D cA ad A ro M H → va_S A s.heap H locs → W p l e R s m args below meth c H locs cells slots Qf (F0 m pc ls (st.map (pm_cv ad))) := by
  intro pc L st M hR
  refine hR (fun pc L st M => ∀ (ls : Array Slot) (H : Heap) (locs : List Loc), pm_LR ad ls (pm_ml j) L → pm_H D cA ad A ro M H → va_S A s.heap H locs → W p l e R s m args below meth c H locs cells slots Qf (F0 m pc ls (st.map (pm_cv ad)))) ?_
  intro pc L st M ⟨K, hK, hat⟩ ls H locs hL hH hS
  unfold pm_at at hat
  split at hat
  case h_2 => exact hat.elim
  case h_1 en he =>
  obtain ⟨hdg, hxp⟩ := pm_ok hj he
  have hlk := fun w hw => hts w (pm_lk_mem hj he hw)
  obtain ⟨i, a, b, c3, z⟩ := en
  have hL1 := hL.1
  cases i
  case iconst n => exact lv_iconst hx hb hdg rfl (hK _ _ _ _ hat ls H locs hL hH hS)
  case bipush n => exact lv_bipush hx hb hdg rfl (hK _ _ _ _ hat ls H locs hL hH hS)
  case sipush n => exact lv_sipush hx hb hdg rfl (hK _ _ _ _ hat ls H locs hL hH hS)
  case ldc n => exact lv_ldc hx hb hown (hlk _ rfl) hdg (hK _ _ _ _ hat ls H locs hL hH hS)
  case ldc2_w n => exact lv_ldc2 hx hb hown (hlk _ rfl) hdg (hK _ _ _ _ hat ls H locs hL hH hS)
  case lconst n => exact lv_lconst hx hb hdg rfl (hK _ _ _ _ hat ls H locs hL hH hS)
  case iload_n k =>
    obtain ⟨x, h1, h2⟩ := pm_gi_s hat
    exact lv_iload_n hx hb hdg rfl (hL.2.2.2 _ _ h1) (hK _ _ _ _ h2 ls H locs hL hH hS)
  case iload k =>
    obtain ⟨x, h1, h2⟩ := pm_gi_s hat
    exact lv_iload hx hb hdg (hL.2.2.2 _ _ h1) (hK _ _ _ _ h2 ls H locs hL hH hS)
  case lload_n k =>
    obtain ⟨x, h1, h2⟩ := pm_gl_s hat
    exact lv_lload_n hx hb hdg rfl (hL.2.2.2 _ _ h1) (hK _ _ _ _ h2 ls H locs hL hH hS)
  case lload k =>
    obtain ⟨x, h1, h2⟩ := pm_gl_s hat
    exact lv_lload hx hb hdg (hL.2.2.2 _ _ h1) (hK _ _ _ _ h2 ls H locs hL hH hS)
  case aload_n k =>
    obtain ⟨x, h1, h2⟩ := pm_ga_s hat
    exact lv_aload_n hx hb hdg rfl (hL.2.2.2 _ _ h1) (hK _ _ _ _ h2 ls H locs hL hH hS)
  case aload k =>
    obtain ⟨x, h1, h2⟩ := pm_ga_s hat
    exact lv_aload hx hb hdg (hL.2.2.2 _ _ h1) (hK _ _ _ _ h2 ls H locs hL hH hS)
  case istore_n k =>
    obtain ⟨x, r, rfl, h0⟩ := pm_i1_s hat
    obtain ⟨h1, h2, h3⟩ := pm_s1_s h0
    exact lv_istore_n hx hb hdg rfl hL.has (by omega) rfl (fun ls' h' => hK _ _ _ _ h3 ls' H locs (pm_LR.set1 (v := .inl x) hL1 h2 h') hH hS)
  case istore k =>
    obtain ⟨x, r, rfl, h0⟩ := pm_i1_s hat
    obtain ⟨h1, h2, h3⟩ := pm_s1_s h0
    exact lv_istore hx hb hdg hL.has (by omega) rfl (fun ls' h' => hK _ _ _ _ h3 ls' H locs (pm_LR.set1 (v := .inl x) hL1 h2 h') hH hS)
  case astore_n k =>
    obtain ⟨x, r, rfl, h0⟩ := pm_a1_s hat
    obtain ⟨h1, h2, h3⟩ := pm_s1_s h0
    exact lv_astore_n hx hb hdg rfl hL.has (by omega) rfl (fun ls' h' => hK _ _ _ _ h3 ls' H locs (pm_LR.set1 (v := .inr (.inr x)) hL1 h2 h') hH hS)
  case astore k =>
    obtain ⟨x, r, rfl, h0⟩ := pm_a1_s hat
    obtain ⟨h1, h2, h3⟩ := pm_s1_s h0
    exact lv_astore hx hb hdg hL.has (by omega) rfl (fun ls' h' => hK _ _ _ _ h3 ls' H locs (pm_LR.set1 (v := .inr (.inr x)) hL1 h2 h') hH hS)
  case lstore_n k =>
    obtain ⟨x, r, rfl, h0⟩ := pm_l1_s hat
    obtain ⟨h1, h2, h3⟩ := pm_s2_s h0
    exact lv_lstore_n hx hb hdg rfl hL.has (by omega) rfl (fun ls' h' => hK _ _ _ _ h3 ls' H locs (pm_LR.set2 (v := .inr (.inl x)) hL1 h2 h') hH hS)
  case lstore k =>
    obtain ⟨x, r, rfl, h0⟩ := pm_l1_s hat
    obtain ⟨h1, h2, h3⟩ := pm_s2_s h0
    exact lv_lstore hx hb hdg hL.has (by omega) rfl (fun ls' h' => hK _ _ _ _ h3 ls' H locs (pm_LR.set2 (v := .inr (.inl x)) hL1 h2 h') hH hS)
  case iinc k n =>
    obtain ⟨x, h0, h00⟩ := pm_gi_s hat
    obtain ⟨h1, h2, h3⟩ := pm_s1_s h00
    obtain ⟨q, hq⟩ := List.getElem?_of_mem (pm_lv_mem (ad := ad) h0)
    exact lv_iinc hx hb hdg hL.has hq rfl (by omega) rfl (fun ls' h' => hK _ _ _ _ h3 ls' H locs (pm_LR.set1 (v := .inl (x + Int32.ofInt n)) hL1 h2 h') hH hS)
  case iadd =>
    obtain ⟨x, y, r, rfl, h0⟩ := pm_i2_s hat
    exact lv_iadd hx hb hdg (hK _ _ _ _ h0 ls H locs hL hH hS)
  case isub =>
    obtain ⟨x, y, r, rfl, h0⟩ := pm_i2_s hat
    exact lv_isub hx hb hdg (hK _ _ _ _ h0 ls H locs hL hH hS)
  case imul =>
    obtain ⟨x, y, r, rfl, h0⟩ := pm_i2_s hat
    exact lv_imul hx hb hdg (hK _ _ _ _ h0 ls H locs hL hH hS)
  case iand =>
    obtain ⟨x, y, r, rfl, h0⟩ := pm_i2_s hat
    exact lv_iand hx hb hdg (hK _ _ _ _ h0 ls H locs hL hH hS)
  case ior =>
    obtain ⟨x, y, r, rfl, h0⟩ := pm_i2_s hat
    exact lv_ior hx hb hdg (hK _ _ _ _ h0 ls H locs hL hH hS)
  case ixor =>
    obtain ⟨x, y, r, rfl, h0⟩ := pm_i2_s hat
    exact lv_ixor hx hb hdg (hK _ _ _ _ h0 ls H locs hL hH hS)
  case ishl =>
    obtain ⟨x, y, r, rfl, h0⟩ := pm_i2_s hat
    exact lv_ishl hx hb hdg (hK _ _ _ _ h0 ls H locs hL hH hS)
  case ishr =>
    obtain ⟨x, y, r, rfl, h0⟩ := pm_i2_s hat
    exact lv_ishr hx hb hdg (hK _ _ _ _ h0 ls H locs hL hH hS)
  case iushr =>
    obtain ⟨x, y, r, rfl, h0⟩ := pm_i2_s hat
    exact lv_iushr hx hb hdg rfl (hK _ _ _ _ h0 ls H locs hL hH hS)
  case idiv =>
    obtain ⟨x, y, r, rfl, h1, h0⟩ := pm_i2_s hat
    exact lv_idiv hx hb hdg h1 (hK _ _ _ _ h0 ls H locs hL hH hS)
  case irem =>
    obtain ⟨x, y, r, rfl, h1, h0⟩ := pm_i2_s hat
    exact lv_irem hx hb hdg h1 (hK _ _ _ _ h0 ls H locs hL hH hS)
  case ineg =>
    obtain ⟨x, r, rfl, h0⟩ := pm_i1_s hat
    exact lv_ineg hx hb hdg (hK _ _ _ _ h0 ls H locs hL hH hS)
  case i2l =>
    obtain ⟨x, r, rfl, h0⟩ := pm_i1_s hat
    exact lv_i2l hx hb hdg rfl (hK _ _ _ _ h0 ls H locs hL hH hS)
  case l2i =>
    obtain ⟨x, r, rfl, h0⟩ := pm_l1_s hat
    exact lv_l2i hx hb hdg rfl (hK _ _ _ _ h0 ls H locs hL hH hS)
  case ladd =>
    obtain ⟨x, y, r, rfl, h0⟩ := pm_l2_s hat
    exact lv_ladd hx hb hdg (hK _ _ _ _ h0 ls H locs hL hH hS)
  case lmul =>
    obtain ⟨x, y, r, rfl, h0⟩ := pm_l2_s hat
    exact lv_lmul hx hb hdg (hK _ _ _ _ h0 ls H locs hL hH hS)
  case land =>
    obtain ⟨x, y, r, rfl, h0⟩ := pm_l2_s hat
    exact lv_land hx hb hdg (hK _ _ _ _ h0 ls H locs hL hH hS)
  case lrem =>
    obtain ⟨x, y, r, rfl, h1, h0⟩ := pm_l2_s hat
    exact lv_lrem hx hb hdg h1 (hK _ _ _ _ h0 ls H locs hL hH hS)
  case lcmp =>
    obtain ⟨x, y, r, rfl, h0⟩ := pm_l2_s hat
    exact W.lcmp hx hb hdg (hK _ _ _ _ h0 ls H locs hL hH hS)
  case dup =>
    rcases st with _ | ⟨v, r⟩
    · exact hat.elim
    · rcases v with x | x | x
      · exact lv_dup hx hb hdg rfl (hK _ _ _ _ hat ls H locs hL hH hS)
      · exact hat.elim
      · exact lv_dup hx hb hdg rfl (hK _ _ _ _ hat ls H locs hL hH hS)
  case dup2 =>
    rcases st with _ | ⟨v, _ | ⟨u, r⟩⟩
    · exact hat.elim
    · rcases v with x | x | x <;> exact hat.elim
    · rcases v with x | x | x
      · rcases u with y | y | y
        · exact hat.elim
        · exact hat.elim
        · exact lv_dup2_11 hx hb hdg rfl rfl (hK _ _ _ _ hat ls H locs hL hH hS)
      · exact hat.elim
      · exact hat.elim
  case pop =>
    obtain ⟨x, r, rfl, h0⟩ := pm_i1_s hat
    exact lv_pop hx hb hdg rfl (hK _ _ _ _ h0 ls H locs hL hH hS)
  case ifCond cd off =>
    obtain ⟨x, r, rfl, h1, h0⟩ := pm_i1_s hat
    have ht : (pc : Int) + off = (a : Int) := of_decide_eq_true hxp
    cases cd
    case eq => exact lv_if_eq hx hb hdg ht (fun q => hK _ _ _ _ (h1 q) ls H locs hL hH hS) (fun q => hK _ _ _ _ (h0 q) ls H locs hL hH hS)
    case ne => exact lv_if_ne hx hb hdg ht (fun q => hK _ _ _ _ (h1 q) ls H locs hL hH hS) (fun q => hK _ _ _ _ (h0 (fun z => z q)) ls H locs hL hH hS)
    case lt => exact lv_if_lt hx hb hdg ht (fun q => hK _ _ _ _ (h1 q) ls H locs hL hH hS) (fun q => hK _ _ _ _ (h0 q) ls H locs hL hH hS)
    case ge => exact lv_if_ge hx hb hdg ht (fun q => hK _ _ _ _ (h1 q) ls H locs hL hH hS) (fun q => hK _ _ _ _ (h0 q) ls H locs hL hH hS)
    case gt => exact lv_if_gt hx hb hdg ht (fun q => hK _ _ _ _ (h1 q) ls H locs hL hH hS) (fun q => hK _ _ _ _ (h0 q) ls H locs hL hH hS)
    case le => exact lv_if_le hx hb hdg ht (fun q => hK _ _ _ _ (h1 q) ls H locs hL hH hS) (fun q => hK _ _ _ _ (h0 q) ls H locs hL hH hS)
  case if_icmp cd off =>
    obtain ⟨x, y, r, rfl, h1, h0⟩ := pm_i2_s hat
    have ht : (pc : Int) + off = (a : Int) := of_decide_eq_true hxp
    cases cd
    case eq => exact lv_icmp_eq hx hb hdg ht (fun q => hK _ _ _ _ (h1 q) ls H locs hL hH hS) (fun q => hK _ _ _ _ (h0 q) ls H locs hL hH hS)
    case ne => exact lv_icmp_ne hx hb hdg ht (fun q => hK _ _ _ _ (h1 q) ls H locs hL hH hS) (fun q => hK _ _ _ _ (h0 (fun z => z q)) ls H locs hL hH hS)
    case lt => exact lv_icmp_lt hx hb hdg ht (fun q => hK _ _ _ _ (h1 q) ls H locs hL hH hS) (fun q => hK _ _ _ _ (h0 q) ls H locs hL hH hS)
    case ge => exact lv_icmp_ge hx hb hdg ht (fun q => hK _ _ _ _ (h1 q) ls H locs hL hH hS) (fun q => hK _ _ _ _ (h0 q) ls H locs hL hH hS)
    case gt => exact lv_icmp_gt hx hb hdg ht (fun q => hK _ _ _ _ (h1 q) ls H locs hL hH hS) (fun q => hK _ _ _ _ (h0 q) ls H locs hL hH hS)
    case le => exact lv_icmp_le hx hb hdg ht (fun q => hK _ _ _ _ (h1 q) ls H locs hL hH hS) (fun q => hK _ _ _ _ (h0 q) ls H locs hL hH hS)
  case goto off => exact lv_goto hx hb hdg (of_decide_eq_true hxp) (hK _ _ _ _ hat ls H locs hL hH hS)
  case tableswitch df lo hi offs =>
    obtain ⟨x, r, rfl, h1, h0⟩ := pm_i1_s hat
    obtain ⟨t1, t2, t3⟩ := pm_sw_ok hxp
    by_cases hr : x.toInt < lo ∨ hi < x.toInt
    · exact lv_tableOut hx hb hdg hr t1 (hK _ _ _ _ (h1 hr) ls H locs hL hH hS)
    · have hlo : ¬ x.toInt < lo := fun q => hr (Or.inl q)
      have hhi : ¬ hi < x.toInt := fun q => hr (Or.inr q)
      have hlt : (x.toInt - lo).toNat < offs.size := by omega
      obtain ⟨o, ho⟩ : ∃ o, offs[(x.toInt - lo).toNat]? = some o := ⟨_, Array.getElem?_eq_getElem hlt⟩
      refine lv_tableIn hx hb hdg hlo hhi ho (tgt := ((pc : Int) + o).toNat) ?_ (hK _ _ _ _ (h0 _ _ ho (by omega)) ls H locs hL hH hS)
      have := t3 _ _ ho
      omega
  case getfield idx =>
    obtain ⟨k, r, rfl, h0⟩ := pm_a1_s hat
    split at h0
    case isFalse => exact h0.elim
    case isTrue hc =>
    subst hc
    obtain ⟨g1, g2⟩ := pm_gf_ok hxp
    obtain ⟨hkW, hia, hw⟩ := pm_obj (ad := ad) (cA := cA) (M := M) g1
    have hv : ((List.range (pm_nf (pm_cl k))).map fun j => pm_cv ad (pm_fv M k (pm_cl k) j))[b]? = some (pm_cv ad (pm_fv M k (pm_cl k) b)) := by simp [g2]
    by_cases hz : z = 0
    · subst hz
      exact va_get (D := D) (own := (pm_y j).cls) (C := (pm_q (pm_cl k)).1) (T := (pm_q (pm_cl k)).2.1) (N := (pm_q (pm_cl k)).2.2) hx hb hts (pm_uws g1) hown hI.1 hH.1 k hw (pm_q_get g1) b g2 (hlk _ rfl) (fun _ h => h) hv hdg (hK _ _ _ _ h0 ls H locs hL hH hS)
    · exact va_getN (D := D) (own := (pm_y j).cls) (C := (pm_q (pm_cl k)).1) (T := (pm_q (pm_cl k)).2.1) (N := (pm_q (pm_cl k)).2.2) hx hb hts (pm_uws g1) hown hI.1 hH.1 k hw (pm_q_get g1) b g2 (va_Nw.use rfl (hI.2.1 _ (pm_nF_mem hj he (if_neg hz)))) (fun _ h => h) hv hdg (hK _ _ _ _ h0 ls H locs hL hH hS)
  case putfield idx =>
    obtain ⟨v, k, r, x, rfl, hcl, hkd, h0⟩ := pm_pf_s hat
    subst hcl
    obtain ⟨g1, g2, g3⟩ := pm_pf_ok hxp
    obtain ⟨hkW, hia, hw⟩ := pm_obj (ad := ad) (cA := cA) (M := M) g1
    obtain ⟨ty, hty, hn, hfit, hfv⟩ := pm_pf_ty (ad := ad) (M := M) hxp hkd
    have hl : b < ((List.range (pm_nf (pm_cl k))).map fun j => pm_cv ad (pm_fv M k (pm_cl k) j)).length := by simpa using g2
    have kk : ∀ (H1 : Heap) (locs1 : List Loc), va_P D pm_cls ((pm_w ad cA M).set k (ad k, .inr (pm_cl k, ((List.range (pm_nf (pm_cl k))).map fun j => pm_cv ad (pm_fv M k (pm_cl k) j)).set b (pm_cv ad v)))) H1 → va_D A ((pm_w ad cA M).set k (ad k, .inr (pm_cl k, ((List.range (pm_nf (pm_cl k))).map fun j => pm_cv ad (pm_fv M k (pm_cl k) j)).set b (pm_cv ad v)))) → va_S A s.heap H1 locs1 → W p l e R s m args below meth c H1 locs1 cells slots Qf (F0 m (pc + 3) ls (r.map (pm_cv ad))) := by
      intro H1 locs1 hP1 hD1 hS1
      rw [pm_w_set (M' := pm_up M k b x) (fun q hq => pm_up_ne hq) (pm_objset hfv hia)] at hP1 hD1
      exact hK _ _ _ _ h0 ls H1 locs1 hL ⟨hP1, hD1, fun q hq => by rw [pm_up_ne (by omega)]; exact hH.2.2 q hq⟩ hS1
    by_cases hz : z = 0
    · subst hz
      exact va_put (D := D) (own := (pm_y j).cls) (C := (pm_q (pm_cl k)).1) (T := (pm_q (pm_cl k)).2.1) (N := (pm_q (pm_cl k)).2.2) hx hb hts (pm_uws g1) (pm_ty (pm_cl k)) (pm_cls_a _ g1) (pm_cls_b _ g1) hown hI.1 hH.1 hH.2.1 hS k hw (pm_q_get g1) b g2 (hlk _ rfl) (fun _ h => h) g3 hty hn hfit hl hdg kk
    · exact va_putN (D := D) (own := (pm_y j).cls) (C := (pm_q (pm_cl k)).1) (T := (pm_q (pm_cl k)).2.1) (N := (pm_q (pm_cl k)).2.2) hx hb hts (pm_uws g1) (pm_ty (pm_cl k)) (pm_cls_a _ g1) (pm_cls_b _ g1) hown hI.1 hH.1 hH.2.1 hS k hw (pm_q_get g1) b g2 (va_Nw.use rfl (hI.2.1 _ (pm_nF_mem hj he (if_neg hz)))) (fun _ h => h) g3 hty hn hfit hl hdg kk
  case getstatic idx =>
    obtain ⟨q, hq, hqa⟩ := pm_gs_ok hxp
    have hZ := hI.2.2.2.2 q (List.mem_of_getElem? hq)
    rw [hqa] at hZ
    by_cases hz : z = 0
    · subst hz
      exact va_gets hx hb hZ hS hown (hlk _ (pm_gs_lk hq)) (fun _ h => h) hdg (hK _ _ _ _ hat ls H locs hL hH hS)
    · exact va_getsN hx hb hZ hS hown (va_Nw.use rfl (hI.2.1 _ (pm_nF_mem hj he (pm_gs_nk hz hq)))) (fun _ h => h) hdg (hK _ _ _ _ hat ls H locs hL hH hS)
  case iaload =>
    obtain ⟨i, k, r, rfl, hin, h0⟩ := pm_al_s hat
    rcases pm_ln_cs (pm_vpin hin) with ⟨h1, h2, h3⟩ | ⟨h1, h2⟩
    · rw [h3] at hin
      exact va_iald hx hb hI.1 hH.1 k 0 (pm_arr h1 h2) rfl hin hdg (hK _ _ _ _ h0 ls H locs hL hH hS)
    · exact va_ti hx hb (hI.2.2.2.1 k h1 h2) hS hin (v := .int (M k i.toNatClampNeg)) (by rw [hH.2.2 k h1]) hdg (hK _ _ _ _ h0 ls H locs hL hH hS)
  case iastore =>
    obtain ⟨x, i, k, r, rfl, hin, h0⟩ := pm_as_s hat
    obtain ⟨h1, h2⟩ := pm_wl_cs (pm_vpin hin)
    refine va_iast hx hb hI.1 hH.1 hH.2.1 hS k 0 (pm_arr h1 h2) rfl hin hdg (fun H1 locs1 hP1 hD1 hS1 => ?_)
    rw [pm_w_set (M' := pm_up M k i.toNatClampNeg x) (fun q hq => pm_up_ne hq) (by unfold pm_cell; rw [if_pos h2, pm_up_eq])] at hP1 hD1
    exact hK _ _ _ _ h0 ls H1 locs1 hL ⟨hP1, hD1, fun q hq => by rw [pm_up_ne (by omega)]; exact hH.2.2 q hq⟩ hS1
  case arraylength =>
    obtain ⟨k, r, rfl, h0⟩ := pm_a1_s hat
    split at h0
    case isFalse => exact h0.elim
    case isTrue hc =>
    rcases pm_ia_cs (S := S) hc with ⟨h1, h2⟩ | ⟨h1, h2⟩
    · exact va_alen hx hb hI.1 hH.1 k 0 (pm_arr h1 hc) rfl (show Int32.ofNat (pm_wl k) = Int32.ofNat (pm_ln S k) by rw [h2]) hdg (hK _ _ _ _ h0 ls H locs hL hH hS)
    · obtain ⟨cell, t1, t2, t3, t4, t5, t6, t7⟩ := hI.2.2.2.1 k h1 h2
      exact W.alen (n := Int32.ofNat (pm_ln S k)) hx hb (by rw [hS.2.1 (ad k) (Array.getElem?_eq_some_iff.mp t1).1 t7]; exact t1) t2 t5 rfl rfl hdg (hK _ _ _ _ h0 ls H locs hL hH hS)
  case invokevirtual idx =>
    obtain ⟨k, vs, hst, hbl, hsm, hcl, h0⟩ := pm_iv_s hat
    obtain ⟨ha, hM⟩ := hcall _ _ _ _ h0
    obtain ⟨g1, g2, g3, g4, g5, g6⟩ := pm_iv_ok hxp
    subst hcl
    obtain ⟨hkW, hia, hw⟩ := pm_obj (ad := ad) (cA := cA) (M := M) g1
    have hst2 : st.map (pm_cv ad) = (vs.map (pm_cv ad)).reverse ++ Value.ref (ad k) :: (st.drop b).map (pm_cv ad) := by
      have e1 : st.take b = vs.reverse ++ [.inr (.inr k)] := by
        have := congrArg List.reverse hst
        simpa using this
      conv => lhs; rw [← List.take_append_drop b st, e1]
      simp [pm_cv]
    have hn : (vs.map (pm_cv ad)).length = pm_na a := by
      have e1 := congrArg List.length hst
      simp at e1 ⊢
      omega
    have hrest : 2 * (F0 m pc ls (st.map (pm_cv ad))).monitorRoom + (((st.drop b).map (pm_cv ad)).map fun v => v.category).sum ≤ 8 := lv_room (by rw [pm_sm_cv]; exact hsm)
    have hpre : PreV s H (pm_y a).cls (ad k) (pm_Pc D cA ad A S ro M (.inr (.inr k) :: vs)) (vs.map (pm_cv ad)) := by
      refine ⟨pm_blind, ?_, fun U hU hW => ⟨rfl, ?_, ?_⟩⟩
      · rw [← g3]
        exact va_recv hI.1 hH.1 (pm_q_get g1) hw
      · rw [hU]
        exact hI.warm hW (fun q h1 h2 => hS.2.1 q h1 h2)
      · rw [hU]
        exact hH
    have hroom : (pm_rm a).frames + 1 ≤ R.frames ∧ 8 + (pm_ml a + 11) + (pm_rm a).locals ≤ R.locals :=
      ⟨by show pm_fr a + 1 ≤ _; omega, by show 8 + (pm_ml a + 11) + pm_lo a ≤ _; omega⟩
    refine pm_cont (D := D) (cA := cA) (ad := ad) (ro := ro) (a := (Value.ref (ad k) :: vs.map (pm_cv ad)).toArray) (rest := (st.drop b).map (pm_cv ad)) (Q := fun r M' => K (pc + 3) L (r.toList ++ st.drop b) M') ?_ hS (fun r M' H1 locs1 hq hH1 hS1 => ?_)
    · by_cases hz : z = 0
      · subst hz
        exact va_runV (C := (pm_y a).cls) (As := vs.map (pm_cv ad)) (n := pm_na a) ⟨hx, hb, hml, hown, hts⟩ hM ⟨callB_of (pm_na a) hts (pm_goodIn ha) rfl rfl rfl (hts _ (pm_w_ini ha)) (hlk _ rfl) (pm_desc ha) hroom, hts _ (pm_w_inst ha g4), hts _ (pm_w_sel ha g4)⟩ hpre rfl hn hL.2.1 hst2 hrest hdg ⟨hcc, hss⟩
      · exact va_runVN (C := (pm_y a).cls) (As := vs.map (pm_cv ad)) (n := pm_na a) ⟨hx, hb, hml, hown, hts⟩ hM ⟨va_cnB (pm_na a) hts (pm_goodIn ha) rfl rfl rfl (hI.2.2.1 _ (pm_nM_mem hj he (if_neg hz))) (hts _ (pm_w_ini ha)) (pm_desc ha) hroom, hts _ (pm_w_inst ha g4), hts _ (pm_w_sel ha g4)⟩ hpre rfl hn hL.2.1 hst2 hrest hdg ⟨hcc, hss⟩
    · have e1 : (r.map (pm_cv ad)).toList ++ (st.drop b).map (pm_cv ad) = (r.toList ++ st.drop b).map (pm_cv ad) := by
        cases r <;> simp
      rw [e1]
      exact hK _ _ _ _ hq ls H1 locs1 hL hH1 hS1
  case invokestatic idx =>
    by_cases hc0 : c3 = 0
    · subst hc0
      obtain ⟨hsm, hbl, h0⟩ := pm_is_s hat
      obtain ⟨ha, hM⟩ := hcall _ _ _ _ h0
      obtain ⟨g2, g4, g5, g6⟩ := pm_is_ok hxp
      have hst2 : st.map (pm_cv ad) = ((st.take b).reverse.map (pm_cv ad)).reverse ++ (st.drop b).map (pm_cv ad) := by
        rw [← List.map_reverse, List.reverse_reverse, ← List.map_append, List.take_append_drop]
      have hn : ((st.take b).reverse.map (pm_cv ad)).length = pm_na a := by
        simp
        omega
      have hrest : 2 * (F0 m pc ls (st.map (pm_cv ad))).monitorRoom + (((st.drop b).map (pm_cv ad)).map fun v => v.category).sum ≤ 8 := lv_room (by rw [pm_sm_cv]; exact hsm)
      have hpre : PreS s H (pm_Pc D cA ad A S ro M (st.take b).reverse) ((st.take b).reverse.map (pm_cv ad)) := by
        refine ⟨pm_blind, fun U hU hW => ⟨rfl, ?_, ?_⟩⟩
        · rw [hU]
          exact hI.warm hW (fun q h1 h2 => hS.2.1 q h1 h2)
        · rw [hU]
          exact hH
      have hroom : (pm_rm a).frames + 1 ≤ R.frames ∧ 8 + (pm_ml a + 11) + (pm_rm a).locals ≤ R.locals :=
        ⟨by show pm_fr a + 1 ≤ _; omega, by show 8 + (pm_ml a + 11) + pm_lo a ≤ _; omega⟩
      refine pm_cont (D := D) (cA := cA) (ad := ad) (ro := ro) (a := ((st.take b).reverse.map (pm_cv ad)).toArray) (rest := (st.drop b).map (pm_cv ad)) (Q := fun r M' => K (pc + 3) L (r.toList ++ st.drop b) M') ?_ hS (fun r M' H1 locs1 hq hH1 hS1 => ?_)
      · by_cases hz : z = 0
        · subst hz
          exact va_runS (As := (st.take b).reverse.map (pm_cv ad)) (n := pm_na a) ⟨hx, hb, hml, hown, hts⟩ hM ⟨callB_of (pm_na a) hts (pm_goodIn ha) rfl rfl rfl (hts _ (pm_w_ini ha)) (hlk _ rfl) (pm_desc ha) hroom, hts _ (pm_w_stat ha g4)⟩ hpre rfl hn hL.2.1 hst2 hrest hdg ⟨hcc, hss⟩
        · exact va_runSN (As := (st.take b).reverse.map (pm_cv ad)) (n := pm_na a) ⟨hx, hb, hml, hown, hts⟩ hM ⟨va_cnB (pm_na a) hts (pm_goodIn ha) rfl rfl rfl (hI.2.2.1 _ (pm_nM_mem hj he (pm_is_nk hz))) (hts _ (pm_w_ini ha)) (pm_desc ha) hroom, hts _ (pm_w_stat ha g4), trivial⟩ hpre rfl hn hL.2.1 hst2 hrest hdg ⟨hcc, hss⟩
      · have e1 : (r.map (pm_cv ad)).toList ++ (st.drop b).map (pm_cv ad) = (r.toList ++ st.drop b).map (pm_cv ad) := by
          cases r <;> simp
        rw [e1]
        exact hK _ _ _ _ hq ls H1 locs1 hL hH1 hS1
    · have hml2 : c.maxLocals = ls.size := hml.trans hL.2.1.symm
      obtain ⟨f1, f2⟩ := pm_is_rm hxp hc0
      have hroom : ∀ r : List pm_V, pm_sm r ≤ 8 → ((r.map (pm_cv ad)).map fun v => v.category).sum + 13 ≤ R.locals := fun r hr => by
        rw [pm_sm_cv]
        have : 21 ≤ pm_lo j := Nat.le_trans (by split <;> omega) f2
        omega
      rcases pm_is_cs hat hc0 with ⟨rfl, x, y, r, rfl, hr, h0⟩ | ⟨rfl, x, y, r, rfl, hr, h0⟩ | ⟨rfl, x, r, rfl, hr, h0⟩ | ⟨rfl, n, dp, k1, sp, k0, r, rfl, hr, ⟨⟨q1, q2, q3⟩, q4, q5⟩, h0⟩
      · exact va_mmax hx hb hml2 hown (hlk _ rfl) (hts _ (pm_jws (i := 0) rfl)) (hts _ (pm_jws (i := 1) rfl)) (hts _ (pm_jws (i := 2) rfl)) (by omega) (hroom r hr) hcc hss hdg (hK _ _ _ _ h0 ls H locs hL hH hS)
      · exact va_mmin hx hb hml2 hown (hlk _ rfl) (hts _ (pm_jws (i := 3) rfl)) (hts _ (pm_jws (i := 1) rfl)) (hts _ (pm_jws (i := 4) rfl)) (by omega) (hroom r hr) hcc hss hdg (hK _ _ _ _ h0 ls H locs hL hH hS)
      · exact va_mabs hx hb hml2 hown (hlk _ rfl) (hts _ (pm_jws (i := 5) rfl)) (hts _ (pm_jws (i := 1) rfl)) (hts _ (pm_jws (i := 6) rfl)) (by omega) (hroom r hr) hcc hss hdg (hK _ _ _ _ h0 ls H locs hL hH hS)
      · obtain ⟨u1, u2⟩ := pm_wl_cs q4.1
        obtain ⟨u3, u4⟩ := pm_wl_cs q4.2
        refine va_copyi hx hb hml2 hown (hlk _ rfl) (hts _ (pm_jws (i := 7) rfl)) (hts _ (pm_jws (i := 8) rfl)) (hts _ (pm_jws (i := 9) rfl)) hI.1 hH.1 hH.2.1 hS k0 k1 0 0 (pm_arr u1 u2) (pm_arr u3 u4) rfl rfl rfl q1 q2 q3 q5.1 q5.2 (fun _ _ => rfl) (by omega) ?_ hdg (fun H1 locs1 hP1 hD1 hS1 => ?_)
        · rw [pm_sm_cv]
          have := pm_nfw
          rw [if_pos rfl] at f2
          omega
        · rw [pm_w_set (M' := pm_cpy M k0 sp.toNatClampNeg k1 dp.toNatClampNeg n.toNatClampNeg) (fun q hq => pm_cpy_ne hq) (by unfold pm_cell; rw [if_pos u4, pm_cpy_eq])] at hP1 hD1
          exact hK _ _ _ _ h0 ls H1 locs1 hL ⟨hP1, hD1, fun q hq => by rw [pm_cpy_ne (by omega)]; exact hH.2.2 q hq⟩ hS1
  case ireturn =>
    obtain ⟨v, rfl, h1, h2⟩ := pm_ir_s hat
    exact hir pc ls H locs v M hdg h1 h2 hH hS
  case lreturn =>
    obtain ⟨v, rfl, h1, h2⟩ := pm_lr_s hat
    exact hlr pc ls H locs v M hdg h1 h2 hH hS
  case return_ =>
    obtain ⟨rfl, h1, h2⟩ := pm_vr_s hat
    exact hvr pc ls H locs M hdg h1 h2 hH hS
  all_goals exact hat.elim
end PMW
