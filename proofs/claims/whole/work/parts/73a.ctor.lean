set_option maxHeartbeats 4000000 in
set_option maxRecDepth 100000 in
theorem c_Bytes700 (l : Launch) (dC : Nat → ClassId) (dI : Nat → Nat → Nat) (cA : ClassId) (h0 sz : Nat) : Met l cy_Bytes (cw_W cy_Bytes cb_Bytes 2) { frames := 1, cells := 1, slots := 700, locals := 20 } (va_Pc [.ref h0, .int 700] (fun U => U.heap.size = sz ∧ va_P (dC, dI) pm_cls [(h0, .inr (1, [.null, .int 0]))] U.heap ∧ va_K (dC, dI) pm_cls [(cA, .int)] U ∧ va_D (fun _ => True) [(h0, .inr (1, [.null, .int 0]))] ∧ cw_N U)) (va_Qv (fun _ : Unit => True) (fun _ t => ∃ q1 : Nat, va_P (dC, dI) pm_cls [(h0, .inr (1, [.ref q1, .int 0])), (q1, .inl (cA, (700, .inl fun _ => 0)))] t.heap ∧ va_K (dC, dI) pm_cls [(cA, .int)] t ∧ va_D (va_A [(h0, .inr (1, [.null, .int 0]))] sz) [(h0, .inr (1, [.ref q1, .int 0])), (q1, .inl (cA, (700, .inl fun _ => 0)))]) (va_A [(h0, .inr (1, [.null, .int 0]))] sz)) 1 700 (va_A [(h0, .inr (1, [.null, .int 0]))] sz) := by
  refine Met.ofW (cc := cb_Bytes) (maxL := 2) (ret := none) (by decide) rfl ?_
  intro p e s m args below meth c s₁ B hml hv
  obtain ⟨rfl, hsz, hP, hK, hD0, hN⟩ := hv
  have hx := B.exec
  have hb := B.bytes
  have hr := B.returns
  have hts0 := atoms_spec (ws := cw_W cy_Bytes cb_Bytes 2) B.pre
  have hts : ∀ w ∈ cw_ws, w.before _ s = true := fun w hw => hts0 w (List.mem_cons_of_mem _ hw)
  have hown : s.vm.findClass "SevenPassImage$Bytes" = some m.cls := findClass_of_methodNamed B.named
  have hlocks := B.notSynchronized
  have hin : meth.name = "<init>" := (name_of_methodNamed B.named B.method).1
  subst hsz
  have hD := hD0.self (sz := s.heap.size)
  generalize hAe : va_A [(h0, .inr (1, [.null, .int 0]))] s.heap.size = A at hD ⊢
  have hA : ∀ q : Nat, s.heap.size ≤ q → A q := fun q h => by rw [← hAe]; exact Or.inr h
  have hS : va_S A s.heap s.heap [] := va_S.rf
  have hP : va_P (dC, dI) pm_cls [(h0, .inr (1, [.null, .int 0]))] s.heap := hP
  have hl := lv_entry ([.ref h0, .int 700]) (n := 2) (Nat.le_of_ble_eq_true rfl)
  rw [lg_entry_eq]
  generalize (lg_sl ([.ref h0, .int 700]) ++ List.replicate (2 - (lg_sl ([.ref h0, .int 700])).length) Slot.unset).toArray = ls at hl ⊢
  have hl : lv_has ls 2 [(0, .ref h0), (1, .int 700)] := hl
  refine lv_aload_n hx hb cd_Bytes_0 rfl (lv_at hl 0 rfl) ?_
  refine W.objInit hx hb hown (hts _ (cw_m (i := 44) rfl)) (hts _ (cw_m (i := 0) rfl)) (hts _ (cw_m (i := 1) rfl)) rfl (by rw [hml]; exact hl.1) rfl cd_Bytes_1 (Nat.le_of_ble_eq_true rfl) (Nat.le_of_ble_eq_true rfl) ?_
  refine W.eq (g2 := F0 m 4 ls []) rfl ?_
  refine lv_aload_n hx hb cd_Bytes_4 rfl (lv_at hl 0 rfl) ?_
  refine lv_iload_n hx hb cd_Bytes_5 rfl (lv_at hl 1 rfl) ?_
  refine va_newa (D := (dC, dI)) (cl := pm_cls) (N' := 700) (a0 := (700, .inl fun _ => 0)) (ty := .int) hx hb (hts _ (cw_m (i := 2) rfl)) rfl hK hP hD hS hA (fun _ => rfl) (by decide) (by decide) (by decide) (Nat.le_of_ble_eq_true rfl) (Nat.le_of_ble_eq_true rfl) cd_Bytes_6 (fun q1 cB H hK2 hP hD hS => ?_)
  rw [cw_A hK2] at hP hD
  have hP : va_P (dC, dI) pm_cls [(h0, .inr (1, [.null, .int 0])), (q1, .inl (cA, (700, .inl fun _ => 0)))] H := hP
  have hD : va_D A [(h0, .inr (1, [.null, .int 0])), (q1, .inl (cA, (700, .inl fun _ => 0)))] := hD
  refine W.widen (k := 1) (n := 700) (Nat.le_of_ble_eq_true rfl) (Nat.le_of_ble_eq_true rfl) ?_
  refine va_putF (D := (dC, dI)) (cl := pm_cls) (ci := 1) (v := .ref q1) (C := (pm_q 1).1) (T := (pm_q 1).2.1) (N := 2) hx hb hts (cw_u (a := 1) (by decide)) (pm_ty 1) (pm_cls_a 1 (by decide)) (pm_cls_b 1 (by decide)) hown hK hP hD hS 0 rfl rfl 0 (by decide) (hts _ (cw_m (i := 45) rfl)) (fun _ h9 => h9) rfl hin rfl (pm_cls_a 1 (by decide) 0 (by decide)) rfl rfl (Nat.le_of_ble_eq_true rfl) cd_Bytes_8 (fun H locs hP hD hS => ?_)
  have hP : va_P (dC, dI) pm_cls [(h0, .inr (1, [.ref q1, .int 0])), (q1, .inl (cA, (700, .inl fun _ => 0)))] H := hP
  have hD : va_D A [(h0, .inr (1, [.ref q1, .int 0])), (q1, .inl (cA, (700, .inl fun _ => 0)))] := hD
  refine lv_aload_n hx hb cd_Bytes_11 rfl (lv_at hl 0 rfl) ?_
  refine lv_iconst (v := 0) hx hb cd_Bytes_12 (by decide) ?_
  refine va_put (D := (dC, dI)) (cl := pm_cls) (ci := 1) (v := .int 0) (C := (pm_q 1).1) (T := (pm_q 1).2.1) (N := 2) hx hb hts (cw_u (a := 1) (by decide)) (pm_ty 1) (pm_cls_a 1 (by decide)) (pm_cls_b 1 (by decide)) hown hK hP hD hS 0 rfl rfl 1 (by decide) (hts _ (cw_m (i := 46) rfl)) (fun _ h9 => h9) rfl (pm_cls_a 1 (by decide) 1 (by decide)) rfl rfl (Nat.le_of_ble_eq_true rfl) cd_Bytes_13 (fun H locs hP hD hS => ?_)
  have hP : va_P (dC, dI) pm_cls [(h0, .inr (1, [.ref q1, .int 0])), (q1, .inl (cA, (700, .inl fun _ => 0)))] H := hP
  have hD : va_D A [(h0, .inr (1, [.ref q1, .int 0])), (q1, .inl (cA, (700, .inl fun _ => 0)))] := hD
  exact W.vret hx hb hr (fun t ht hW => ⟨⟨(), rfl, trivial, q1, by rw [ht]; exact hP, va_K.moved hW.alike hK, hD⟩, hS.F ht⟩) hS.2.2 cd_Bytes_16
set_option maxHeartbeats 4000000 in
set_option maxRecDepth 100000 in
theorem c_Bytes300 (l : Launch) (dC : Nat → ClassId) (dI : Nat → Nat → Nat) (cA : ClassId) (h0 sz : Nat) : Met l cy_Bytes (cw_W cy_Bytes cb_Bytes 2) { frames := 1, cells := 1, slots := 300, locals := 20 } (va_Pc [.ref h0, .int 300] (fun U => U.heap.size = sz ∧ va_P (dC, dI) pm_cls [(h0, .inr (1, [.null, .int 0]))] U.heap ∧ va_K (dC, dI) pm_cls [(cA, .int)] U ∧ va_D (fun _ => True) [(h0, .inr (1, [.null, .int 0]))] ∧ cw_N U)) (va_Qv (fun _ : Unit => True) (fun _ t => ∃ q1 : Nat, va_P (dC, dI) pm_cls [(h0, .inr (1, [.ref q1, .int 0])), (q1, .inl (cA, (300, .inl fun _ => 0)))] t.heap ∧ va_K (dC, dI) pm_cls [(cA, .int)] t ∧ va_D (va_A [(h0, .inr (1, [.null, .int 0]))] sz) [(h0, .inr (1, [.ref q1, .int 0])), (q1, .inl (cA, (300, .inl fun _ => 0)))]) (va_A [(h0, .inr (1, [.null, .int 0]))] sz)) 1 300 (va_A [(h0, .inr (1, [.null, .int 0]))] sz) := by
  refine Met.ofW (cc := cb_Bytes) (maxL := 2) (ret := none) (by decide) rfl ?_
  intro p e s m args below meth c s₁ B hml hv
  obtain ⟨rfl, hsz, hP, hK, hD0, hN⟩ := hv
  have hx := B.exec
  have hb := B.bytes
  have hr := B.returns
  have hts0 := atoms_spec (ws := cw_W cy_Bytes cb_Bytes 2) B.pre
  have hts : ∀ w ∈ cw_ws, w.before _ s = true := fun w hw => hts0 w (List.mem_cons_of_mem _ hw)
  have hown : s.vm.findClass "SevenPassImage$Bytes" = some m.cls := findClass_of_methodNamed B.named
  have hlocks := B.notSynchronized
  have hin : meth.name = "<init>" := (name_of_methodNamed B.named B.method).1
  subst hsz
  have hD := hD0.self (sz := s.heap.size)
  generalize hAe : va_A [(h0, .inr (1, [.null, .int 0]))] s.heap.size = A at hD ⊢
  have hA : ∀ q : Nat, s.heap.size ≤ q → A q := fun q h => by rw [← hAe]; exact Or.inr h
  have hS : va_S A s.heap s.heap [] := va_S.rf
  have hP : va_P (dC, dI) pm_cls [(h0, .inr (1, [.null, .int 0]))] s.heap := hP
  have hl := lv_entry ([.ref h0, .int 300]) (n := 2) (Nat.le_of_ble_eq_true rfl)
  rw [lg_entry_eq]
  generalize (lg_sl ([.ref h0, .int 300]) ++ List.replicate (2 - (lg_sl ([.ref h0, .int 300])).length) Slot.unset).toArray = ls at hl ⊢
  have hl : lv_has ls 2 [(0, .ref h0), (1, .int 300)] := hl
  refine lv_aload_n hx hb cd_Bytes_0 rfl (lv_at hl 0 rfl) ?_
  refine W.objInit hx hb hown (hts _ (cw_m (i := 44) rfl)) (hts _ (cw_m (i := 0) rfl)) (hts _ (cw_m (i := 1) rfl)) rfl (by rw [hml]; exact hl.1) rfl cd_Bytes_1 (Nat.le_of_ble_eq_true rfl) (Nat.le_of_ble_eq_true rfl) ?_
  refine W.eq (g2 := F0 m 4 ls []) rfl ?_
  refine lv_aload_n hx hb cd_Bytes_4 rfl (lv_at hl 0 rfl) ?_
  refine lv_iload_n hx hb cd_Bytes_5 rfl (lv_at hl 1 rfl) ?_
  refine va_newa (D := (dC, dI)) (cl := pm_cls) (N' := 300) (a0 := (300, .inl fun _ => 0)) (ty := .int) hx hb (hts _ (cw_m (i := 2) rfl)) rfl hK hP hD hS hA (fun _ => rfl) (by decide) (by decide) (by decide) (Nat.le_of_ble_eq_true rfl) (Nat.le_of_ble_eq_true rfl) cd_Bytes_6 (fun q1 cB H hK2 hP hD hS => ?_)
  rw [cw_A hK2] at hP hD
  have hP : va_P (dC, dI) pm_cls [(h0, .inr (1, [.null, .int 0])), (q1, .inl (cA, (300, .inl fun _ => 0)))] H := hP
  have hD : va_D A [(h0, .inr (1, [.null, .int 0])), (q1, .inl (cA, (300, .inl fun _ => 0)))] := hD
  refine W.widen (k := 1) (n := 300) (Nat.le_of_ble_eq_true rfl) (Nat.le_of_ble_eq_true rfl) ?_
  refine va_putF (D := (dC, dI)) (cl := pm_cls) (ci := 1) (v := .ref q1) (C := (pm_q 1).1) (T := (pm_q 1).2.1) (N := 2) hx hb hts (cw_u (a := 1) (by decide)) (pm_ty 1) (pm_cls_a 1 (by decide)) (pm_cls_b 1 (by decide)) hown hK hP hD hS 0 rfl rfl 0 (by decide) (hts _ (cw_m (i := 45) rfl)) (fun _ h9 => h9) rfl hin rfl (pm_cls_a 1 (by decide) 0 (by decide)) rfl rfl (Nat.le_of_ble_eq_true rfl) cd_Bytes_8 (fun H locs hP hD hS => ?_)
  have hP : va_P (dC, dI) pm_cls [(h0, .inr (1, [.ref q1, .int 0])), (q1, .inl (cA, (300, .inl fun _ => 0)))] H := hP
  have hD : va_D A [(h0, .inr (1, [.ref q1, .int 0])), (q1, .inl (cA, (300, .inl fun _ => 0)))] := hD
  refine lv_aload_n hx hb cd_Bytes_11 rfl (lv_at hl 0 rfl) ?_
  refine lv_iconst (v := 0) hx hb cd_Bytes_12 (by decide) ?_
  refine va_put (D := (dC, dI)) (cl := pm_cls) (ci := 1) (v := .int 0) (C := (pm_q 1).1) (T := (pm_q 1).2.1) (N := 2) hx hb hts (cw_u (a := 1) (by decide)) (pm_ty 1) (pm_cls_a 1 (by decide)) (pm_cls_b 1 (by decide)) hown hK hP hD hS 0 rfl rfl 1 (by decide) (hts _ (cw_m (i := 46) rfl)) (fun _ h9 => h9) rfl (pm_cls_a 1 (by decide) 1 (by decide)) rfl rfl (Nat.le_of_ble_eq_true rfl) cd_Bytes_13 (fun H locs hP hD hS => ?_)
  have hP : va_P (dC, dI) pm_cls [(h0, .inr (1, [.ref q1, .int 0])), (q1, .inl (cA, (300, .inl fun _ => 0)))] H := hP
  have hD : va_D A [(h0, .inr (1, [.ref q1, .int 0])), (q1, .inl (cA, (300, .inl fun _ => 0)))] := hD
  exact W.vret hx hb hr (fun t ht hW => ⟨⟨(), rfl, trivial, q1, by rw [ht]; exact hP, va_K.moved hW.alike hK, hD⟩, hS.F ht⟩) hS.2.2 cd_Bytes_16
set_option maxHeartbeats 4000000 in
set_option maxRecDepth 100000 in
theorem c_Bits (l : Launch) (dC : Nat → ClassId) (dI : Nat → Nat → Nat) (cA : ClassId) (h0 sz : Nat) : Met l cy_Bits (cw_W cy_Bits cb_Bits 1) { frames := 2, cells := 2, slots := 702, locals := 41 } (va_Pc [.ref h0] (fun U => U.heap.size = sz ∧ va_P (dC, dI) pm_cls [(h0, .inr (0, [.null, .int 0, .int 0]))] U.heap ∧ va_K (dC, dI) pm_cls [(cA, .int)] U ∧ va_D (fun _ => True) [(h0, .inr (0, [.null, .int 0, .int 0]))] ∧ cw_N U)) (va_Qv (fun _ : Unit => True) (fun _ t => ∃ q1 q2 : Nat, va_P (dC, dI) pm_cls [(h0, .inr (0, [.ref q1, .int 0, .int 0])), (q1, .inr (1, [.ref q2, .int 0])), (q2, .inl (cA, (700, .inl fun _ => 0)))] t.heap ∧ va_K (dC, dI) pm_cls [(cA, .int)] t ∧ va_D (va_A [(h0, .inr (0, [.null, .int 0, .int 0]))] sz) [(h0, .inr (0, [.ref q1, .int 0, .int 0])), (q1, .inr (1, [.ref q2, .int 0])), (q2, .inl (cA, (700, .inl fun _ => 0)))]) (va_A [(h0, .inr (0, [.null, .int 0, .int 0]))] sz)) 2 702 (va_A [(h0, .inr (0, [.null, .int 0, .int 0]))] sz) := by
  refine Met.ofW (cc := cb_Bits) (maxL := 1) (ret := none) (by decide) rfl ?_
  intro p e s m args below meth c s₁ B hml hv
  obtain ⟨rfl, hsz, hP, hK, hD0, hN⟩ := hv
  have hx := B.exec
  have hb := B.bytes
  have hr := B.returns
  have hts0 := atoms_spec (ws := cw_W cy_Bits cb_Bits 1) B.pre
  have hts : ∀ w ∈ cw_ws, w.before _ s = true := fun w hw => hts0 w (List.mem_cons_of_mem _ hw)
  have hown : s.vm.findClass "SevenPassImage$Bits" = some m.cls := findClass_of_methodNamed B.named
  have hlocks := B.notSynchronized
  have hin : meth.name = "<init>" := (name_of_methodNamed B.named B.method).1
  subst hsz
  have hD := hD0.self (sz := s.heap.size)
  generalize hAe : va_A [(h0, .inr (0, [.null, .int 0, .int 0]))] s.heap.size = A at hD ⊢
  have hA : ∀ q : Nat, s.heap.size ≤ q → A q := fun q h => by rw [← hAe]; exact Or.inr h
  have hS : va_S A s.heap s.heap [] := va_S.rf
  have hP : va_P (dC, dI) pm_cls [(h0, .inr (0, [.null, .int 0, .int 0]))] s.heap := hP
  have hl := lv_entry ([.ref h0]) (n := 1) (Nat.le_of_ble_eq_true rfl)
  rw [lg_entry_eq]
  generalize (lg_sl ([.ref h0]) ++ List.replicate (1 - (lg_sl ([.ref h0])).length) Slot.unset).toArray = ls at hl ⊢
  have hl : lv_has ls 1 [(0, .ref h0)] := hl
  refine lv_aload_n hx hb cd_Bits_0 rfl (lv_at hl 0 rfl) ?_
  refine W.objInit hx hb hown (hts _ (cw_m (i := 39) rfl)) (hts _ (cw_m (i := 0) rfl)) (hts _ (cw_m (i := 1) rfl)) rfl (by rw [hml]; exact hl.1) rfl cd_Bits_1 (Nat.le_of_ble_eq_true rfl) (Nat.le_of_ble_eq_true rfl) ?_
  refine W.eq (g2 := F0 m 4 ls []) rfl ?_
  refine lv_aload_n hx hb cd_Bits_4 rfl (lv_at hl 0 rfl) ?_
  refine va_new (D := (dC, dI)) (cl := pm_cls) (ci := 1) (fs := [.null, .int 0]) (C := (pm_q 1).1) (T := (pm_q 1).2.1) (N := 2) hx hb hts (cw_u (a := 1) (by decide)) (pm_ty 1) (pm_cls_a 1 (by decide)) hown (hts _ (cw_m (i := 40) rfl)) (hts _ (cw_m (i := 10) rfl)) (hts _ (cw_m (i := 9) rfl)) hK hP hD hS hA rfl (by decide +kernel) (Nat.le_of_ble_eq_true rfl) (Nat.le_of_ble_eq_true rfl) cd_Bits_5 (fun q1 H hP hD hS => ?_)
  have hP : va_P (dC, dI) pm_cls [(h0, .inr (0, [.null, .int 0, .int 0])), (q1, .inr (1, [.null, .int 0]))] H := hP
  have hD : va_D A [(h0, .inr (0, [.null, .int 0, .int 0])), (q1, .inr (1, [.null, .int 0]))] := hD
  refine W.widen (k := 1) (n := 2) (Nat.le_of_ble_eq_true rfl) (Nat.le_of_ble_eq_true rfl) ?_
  refine lv_dup hx hb cd_Bits_8 rfl ?_
  refine lv_sipush (v := 700) hx hb cd_Bits_9 (by decide) ?_
  have hPc := hP.sub (ws' := [(q1, .inr (1, [.null, .int 0]))]) [1] rfl
  have hDc := hD.sub (ws' := [(q1, .inr (1, [.null, .int 0]))]) [1] (by decide) rfl
  have hFc := va_free (wc := [(q1, .inr (1, [.null, .int 0]))]) hD hS hA [1] rfl
  refine va_callv (va_runIN (host := pm_host) (As := [.int 700]) (rest := [.ref q1, .ref h0]) ⟨hx, hb, hml, hown, hts⟩ (c_Bytes700 l dC dI cA q1 H.size) ⟨va_cnB 1 hts (cw_goodIn (cw_m (i := 7) rfl)) rfl rfl rfl (hN _ (List.mem_of_getElem? (i := 0) rfl)) (hts _ (cw_m (i := 9) rfl)) (by decide +kernel) ⟨Nat.le_of_ble_eq_true rfl, Nat.le_of_ble_eq_true rfl⟩, rfl, (hts _ (cw_m (i := 8) rfl))⟩ ⟨fun a U g mk q => by obtain ⟨z0, z1, zP, zK, zD, zN⟩ := q; exact ⟨z0, z1, zP, va_K.moved (u := U) (U := U.calling g mk a) (Vm.Alike.refl U.vm) zK, zD, fun x hx => va_Nw.same rfl rfl (zN x hx)⟩, fun U hU hW => ⟨rfl, by rw [hU], by rw [hU]; exact hPc, va_K.moved hW.alike hK, hDc.weaken (fun _ _ _ _ => trivial), fun x hx => va_Nw.warmM hW (hN x hx)⟩⟩ rfl rfl hl.1 rfl (lv_room (Nat.le_of_ble_eq_true rfl)) cd_Bits_12 ⟨Nat.le_of_ble_eq_true rfl, Nat.le_of_ble_eq_true rfl⟩) hS (fun q _ h => hFc q h) hFc (fun u t H1 locs ht hvm _ hB hz1 hk1 hS => ?_)
  obtain ⟨q2, hP1, hK1, hD1⟩ := hB
  rw [ht] at hP1
  obtain ⟨hP, hD⟩ := va_join (wr := [(h0, .inr (0, [.null, .int 0, .int 0]))]) (w1 := [(q1, .inr (1, [.ref q2, .int 0])), (q2, .inl (cA, (700, .inl fun _ => 0)))]) hP hD [1] [0] rfl rfl (by decide) (by decide) hk1 hFc hP1 hD1
  generalize H1 = H at hP hS ⊢
  have hP : va_P (dC, dI) pm_cls [(h0, .inr (0, [.null, .int 0, .int 0])), (q1, .inr (1, [.ref q2, .int 0])), (q2, .inl (cA, (700, .inl fun _ => 0)))] H := hP
  have hD : va_D A [(h0, .inr (0, [.null, .int 0, .int 0])), (q1, .inr (1, [.ref q2, .int 0])), (q2, .inl (cA, (700, .inl fun _ => 0)))] := hD
  refine W.widen (k := 2) (n := 702) (Nat.le_of_ble_eq_true rfl) (Nat.le_of_ble_eq_true rfl) ?_
  refine va_putF (D := (dC, dI)) (cl := pm_cls) (ci := 0) (v := .ref q1) (C := (pm_q 0).1) (T := (pm_q 0).2.1) (N := 3) hx hb hts (cw_u (a := 0) (by decide)) (pm_ty 0) (pm_cls_a 0 (by decide)) (pm_cls_b 0 (by decide)) hown hK hP hD hS 0 rfl rfl 0 (by decide) (hts _ (cw_m (i := 41) rfl)) (fun _ h9 => h9) rfl hin rfl (pm_cls_a 0 (by decide) 0 (by decide)) rfl rfl (Nat.le_of_ble_eq_true rfl) cd_Bits_15 (fun H locs hP hD hS => ?_)
  have hP : va_P (dC, dI) pm_cls [(h0, .inr (0, [.ref q1, .int 0, .int 0])), (q1, .inr (1, [.ref q2, .int 0])), (q2, .inl (cA, (700, .inl fun _ => 0)))] H := hP
  have hD : va_D A [(h0, .inr (0, [.ref q1, .int 0, .int 0])), (q1, .inr (1, [.ref q2, .int 0])), (q2, .inl (cA, (700, .inl fun _ => 0)))] := hD
  refine lv_aload_n hx hb cd_Bits_18 rfl (lv_at hl 0 rfl) ?_
  refine lv_iconst (v := 0) hx hb cd_Bits_19 (by decide) ?_
  refine va_put (D := (dC, dI)) (cl := pm_cls) (ci := 0) (v := .int 0) (C := (pm_q 0).1) (T := (pm_q 0).2.1) (N := 3) hx hb hts (cw_u (a := 0) (by decide)) (pm_ty 0) (pm_cls_a 0 (by decide)) (pm_cls_b 0 (by decide)) hown hK hP hD hS 0 rfl rfl 1 (by decide) (hts _ (cw_m (i := 42) rfl)) (fun _ h9 => h9) rfl (pm_cls_a 0 (by decide) 1 (by decide)) rfl rfl (Nat.le_of_ble_eq_true rfl) cd_Bits_20 (fun H locs hP hD hS => ?_)
  have hP : va_P (dC, dI) pm_cls [(h0, .inr (0, [.ref q1, .int 0, .int 0])), (q1, .inr (1, [.ref q2, .int 0])), (q2, .inl (cA, (700, .inl fun _ => 0)))] H := hP
  have hD : va_D A [(h0, .inr (0, [.ref q1, .int 0, .int 0])), (q1, .inr (1, [.ref q2, .int 0])), (q2, .inl (cA, (700, .inl fun _ => 0)))] := hD
  refine lv_aload_n hx hb cd_Bits_23 rfl (lv_at hl 0 rfl) ?_
  refine lv_iconst (v := 0) hx hb cd_Bits_24 (by decide) ?_
  refine va_put (D := (dC, dI)) (cl := pm_cls) (ci := 0) (v := .int 0) (C := (pm_q 0).1) (T := (pm_q 0).2.1) (N := 3) hx hb hts (cw_u (a := 0) (by decide)) (pm_ty 0) (pm_cls_a 0 (by decide)) (pm_cls_b 0 (by decide)) hown hK hP hD hS 0 rfl rfl 2 (by decide) (hts _ (cw_m (i := 43) rfl)) (fun _ h9 => h9) rfl (pm_cls_a 0 (by decide) 2 (by decide)) rfl rfl (Nat.le_of_ble_eq_true rfl) cd_Bits_25 (fun H locs hP hD hS => ?_)
  have hP : va_P (dC, dI) pm_cls [(h0, .inr (0, [.ref q1, .int 0, .int 0])), (q1, .inr (1, [.ref q2, .int 0])), (q2, .inl (cA, (700, .inl fun _ => 0)))] H := hP
  have hD : va_D A [(h0, .inr (0, [.ref q1, .int 0, .int 0])), (q1, .inr (1, [.ref q2, .int 0])), (q2, .inl (cA, (700, .inl fun _ => 0)))] := hD
  exact W.vret hx hb hr (fun t ht hW => ⟨⟨(), rfl, trivial, q1, q2, by rw [ht]; exact hP, va_K.moved hW.alike hK, hD⟩, hS.F ht⟩) hS.2.2 cd_Bits_28
set_option maxHeartbeats 4000000 in
set_option maxRecDepth 100000 in
theorem c_File (l : Launch) (dC : Nat → ClassId) (dI : Nat → Nat → Nat) (cA : ClassId) (h0 sz : Nat) : Met l cy_File (cw_W cy_File cb_File 1) { frames := 2, cells := 2, slots := 702, locals := 41 } (va_Pc [.ref h0] (fun U => U.heap.size = sz ∧ va_P (dC, dI) pm_cls [(h0, .inr (2, [.null, .int 0]))] U.heap ∧ va_K (dC, dI) pm_cls [(cA, .int)] U ∧ va_D (fun _ => True) [(h0, .inr (2, [.null, .int 0]))] ∧ cw_N U)) (va_Qv (fun _ : Unit => True) (fun _ t => ∃ q1 q2 : Nat, va_P (dC, dI) pm_cls [(h0, .inr (2, [.ref q1, .int 0])), (q1, .inr (1, [.ref q2, .int 0])), (q2, .inl (cA, (700, .inl fun _ => 0)))] t.heap ∧ va_K (dC, dI) pm_cls [(cA, .int)] t ∧ va_D (va_A [(h0, .inr (2, [.null, .int 0]))] sz) [(h0, .inr (2, [.ref q1, .int 0])), (q1, .inr (1, [.ref q2, .int 0])), (q2, .inl (cA, (700, .inl fun _ => 0)))]) (va_A [(h0, .inr (2, [.null, .int 0]))] sz)) 2 702 (va_A [(h0, .inr (2, [.null, .int 0]))] sz) := by
  refine Met.ofW (cc := cb_File) (maxL := 1) (ret := none) (by decide) rfl ?_
  intro p e s m args below meth c s₁ B hml hv
  obtain ⟨rfl, hsz, hP, hK, hD0, hN⟩ := hv
  have hx := B.exec
  have hb := B.bytes
  have hr := B.returns
  have hts0 := atoms_spec (ws := cw_W cy_File cb_File 1) B.pre
  have hts : ∀ w ∈ cw_ws, w.before _ s = true := fun w hw => hts0 w (List.mem_cons_of_mem _ hw)
  have hown : s.vm.findClass "SevenPassImage$ChunkFile" = some m.cls := findClass_of_methodNamed B.named
  have hlocks := B.notSynchronized
  have hin : meth.name = "<init>" := (name_of_methodNamed B.named B.method).1
  subst hsz
  have hD := hD0.self (sz := s.heap.size)
  generalize hAe : va_A [(h0, .inr (2, [.null, .int 0]))] s.heap.size = A at hD ⊢
  have hA : ∀ q : Nat, s.heap.size ≤ q → A q := fun q h => by rw [← hAe]; exact Or.inr h
  have hS : va_S A s.heap s.heap [] := va_S.rf
  have hP : va_P (dC, dI) pm_cls [(h0, .inr (2, [.null, .int 0]))] s.heap := hP
  have hl := lv_entry ([.ref h0]) (n := 1) (Nat.le_of_ble_eq_true rfl)
  rw [lg_entry_eq]
  generalize (lg_sl ([.ref h0]) ++ List.replicate (1 - (lg_sl ([.ref h0])).length) Slot.unset).toArray = ls at hl ⊢
  have hl : lv_has ls 1 [(0, .ref h0)] := hl
  refine lv_aload_n hx hb cd_File_0 rfl (lv_at hl 0 rfl) ?_
  refine W.objInit hx hb hown (hts _ (cw_m (i := 47) rfl)) (hts _ (cw_m (i := 0) rfl)) (hts _ (cw_m (i := 1) rfl)) rfl (by rw [hml]; exact hl.1) rfl cd_File_1 (Nat.le_of_ble_eq_true rfl) (Nat.le_of_ble_eq_true rfl) ?_
  refine W.eq (g2 := F0 m 4 ls []) rfl ?_
  refine lv_aload_n hx hb cd_File_4 rfl (lv_at hl 0 rfl) ?_
  refine va_new (D := (dC, dI)) (cl := pm_cls) (ci := 1) (fs := [.null, .int 0]) (C := (pm_q 1).1) (T := (pm_q 1).2.1) (N := 2) hx hb hts (cw_u (a := 1) (by decide)) (pm_ty 1) (pm_cls_a 1 (by decide)) hown (hts _ (cw_m (i := 48) rfl)) (hts _ (cw_m (i := 10) rfl)) (hts _ (cw_m (i := 9) rfl)) hK hP hD hS hA rfl (by decide +kernel) (Nat.le_of_ble_eq_true rfl) (Nat.le_of_ble_eq_true rfl) cd_File_5 (fun q1 H hP hD hS => ?_)
  have hP : va_P (dC, dI) pm_cls [(h0, .inr (2, [.null, .int 0])), (q1, .inr (1, [.null, .int 0]))] H := hP
  have hD : va_D A [(h0, .inr (2, [.null, .int 0])), (q1, .inr (1, [.null, .int 0]))] := hD
  refine W.widen (k := 1) (n := 2) (Nat.le_of_ble_eq_true rfl) (Nat.le_of_ble_eq_true rfl) ?_
  refine lv_dup hx hb cd_File_8 rfl ?_
  refine lv_sipush (v := 700) hx hb cd_File_9 (by decide) ?_
  have hPc := hP.sub (ws' := [(q1, .inr (1, [.null, .int 0]))]) [1] rfl
  have hDc := hD.sub (ws' := [(q1, .inr (1, [.null, .int 0]))]) [1] (by decide) rfl
  have hFc := va_free (wc := [(q1, .inr (1, [.null, .int 0]))]) hD hS hA [1] rfl
  refine va_callv (va_runIN (host := pm_host) (As := [.int 700]) (rest := [.ref q1, .ref h0]) ⟨hx, hb, hml, hown, hts⟩ (c_Bytes700 l dC dI cA q1 H.size) ⟨va_cnB 1 hts (cw_goodIn (cw_m (i := 7) rfl)) rfl rfl rfl (hN _ (List.mem_of_getElem? (i := 1) rfl)) (hts _ (cw_m (i := 9) rfl)) (by decide +kernel) ⟨Nat.le_of_ble_eq_true rfl, Nat.le_of_ble_eq_true rfl⟩, rfl, (hts _ (cw_m (i := 8) rfl))⟩ ⟨fun a U g mk q => by obtain ⟨z0, z1, zP, zK, zD, zN⟩ := q; exact ⟨z0, z1, zP, va_K.moved (u := U) (U := U.calling g mk a) (Vm.Alike.refl U.vm) zK, zD, fun x hx => va_Nw.same rfl rfl (zN x hx)⟩, fun U hU hW => ⟨rfl, by rw [hU], by rw [hU]; exact hPc, va_K.moved hW.alike hK, hDc.weaken (fun _ _ _ _ => trivial), fun x hx => va_Nw.warmM hW (hN x hx)⟩⟩ rfl rfl hl.1 rfl (lv_room (Nat.le_of_ble_eq_true rfl)) cd_File_12 ⟨Nat.le_of_ble_eq_true rfl, Nat.le_of_ble_eq_true rfl⟩) hS (fun q _ h => hFc q h) hFc (fun u t H1 locs ht hvm _ hB hz1 hk1 hS => ?_)
  obtain ⟨q2, hP1, hK1, hD1⟩ := hB
  rw [ht] at hP1
  obtain ⟨hP, hD⟩ := va_join (wr := [(h0, .inr (2, [.null, .int 0]))]) (w1 := [(q1, .inr (1, [.ref q2, .int 0])), (q2, .inl (cA, (700, .inl fun _ => 0)))]) hP hD [1] [0] rfl rfl (by decide) (by decide) hk1 hFc hP1 hD1
  generalize H1 = H at hP hS ⊢
  have hP : va_P (dC, dI) pm_cls [(h0, .inr (2, [.null, .int 0])), (q1, .inr (1, [.ref q2, .int 0])), (q2, .inl (cA, (700, .inl fun _ => 0)))] H := hP
  have hD : va_D A [(h0, .inr (2, [.null, .int 0])), (q1, .inr (1, [.ref q2, .int 0])), (q2, .inl (cA, (700, .inl fun _ => 0)))] := hD
  refine W.widen (k := 2) (n := 702) (Nat.le_of_ble_eq_true rfl) (Nat.le_of_ble_eq_true rfl) ?_
  refine va_putF (D := (dC, dI)) (cl := pm_cls) (ci := 2) (v := .ref q1) (C := (pm_q 2).1) (T := (pm_q 2).2.1) (N := 2) hx hb hts (cw_u (a := 2) (by decide)) (pm_ty 2) (pm_cls_a 2 (by decide)) (pm_cls_b 2 (by decide)) hown hK hP hD hS 0 rfl rfl 0 (by decide) (hts _ (cw_m (i := 49) rfl)) (fun _ h9 => h9) rfl hin rfl (pm_cls_a 2 (by decide) 0 (by decide)) rfl rfl (Nat.le_of_ble_eq_true rfl) cd_File_15 (fun H locs hP hD hS => ?_)
  have hP : va_P (dC, dI) pm_cls [(h0, .inr (2, [.ref q1, .int 0])), (q1, .inr (1, [.ref q2, .int 0])), (q2, .inl (cA, (700, .inl fun _ => 0)))] H := hP
  have hD : va_D A [(h0, .inr (2, [.ref q1, .int 0])), (q1, .inr (1, [.ref q2, .int 0])), (q2, .inl (cA, (700, .inl fun _ => 0)))] := hD
  refine lv_aload_n hx hb cd_File_18 rfl (lv_at hl 0 rfl) ?_
  refine lv_iconst (v := 0) hx hb cd_File_19 (by decide) ?_
  refine va_put (D := (dC, dI)) (cl := pm_cls) (ci := 2) (v := .int 0) (C := (pm_q 2).1) (T := (pm_q 2).2.1) (N := 2) hx hb hts (cw_u (a := 2) (by decide)) (pm_ty 2) (pm_cls_a 2 (by decide)) (pm_cls_b 2 (by decide)) hown hK hP hD hS 0 rfl rfl 1 (by decide) (hts _ (cw_m (i := 50) rfl)) (fun _ h9 => h9) rfl (pm_cls_a 2 (by decide) 1 (by decide)) rfl rfl (Nat.le_of_ble_eq_true rfl) cd_File_20 (fun H locs hP hD hS => ?_)
  have hP : va_P (dC, dI) pm_cls [(h0, .inr (2, [.ref q1, .int 0])), (q1, .inr (1, [.ref q2, .int 0])), (q2, .inl (cA, (700, .inl fun _ => 0)))] H := hP
  have hD : va_D A [(h0, .inr (2, [.ref q1, .int 0])), (q1, .inr (1, [.ref q2, .int 0])), (q2, .inl (cA, (700, .inl fun _ => 0)))] := hD
  exact W.vret hx hb hr (fun t ht hW => ⟨⟨(), rfl, trivial, q1, q2, by rw [ht]; exact hP, va_K.moved hW.alike hK, hD⟩, hS.F ht⟩) hS.2.2 cd_File_23
set_option maxHeartbeats 4000000 in
set_option maxRecDepth 100000 in
theorem c_Pack (l : Launch) (dC : Nat → ClassId) (dI : Nat → Nat → Nat) (cA : ClassId) (h0 sz : Nat) : Met l cy_Pack (cw_W cy_Pack cb_Pack 1) { frames := 3, cells := 5, slots := 1007, locals := 61 } (va_Pc [.ref h0] (fun U => U.heap.size = sz ∧ va_P (dC, dI) pm_cls [(h0, .inr (3, [.null, .null, .int 0, .int 0, .int 0, .int 0]))] U.heap ∧ va_K (dC, dI) pm_cls [(cA, .int)] U ∧ va_D (fun _ => True) [(h0, .inr (3, [.null, .null, .int 0, .int 0, .int 0, .int 0]))] ∧ cw_N U)) (va_Qv (fun _ : Unit => True) (fun _ t => ∃ q1 q2 q3 q4 q5 : Nat, va_P (dC, dI) pm_cls [(h0, .inr (3, [.ref q1, .ref q3, .int 0, .int 0, .int 0, .int 0])), (q1, .inr (1, [.ref q2, .int 0])), (q2, .inl (cA, (300, .inl fun _ => 0))), (q3, .inr (0, [.ref q4, .int 0, .int 0])), (q4, .inr (1, [.ref q5, .int 0])), (q5, .inl (cA, (700, .inl fun _ => 0)))] t.heap ∧ va_K (dC, dI) pm_cls [(cA, .int)] t ∧ va_D (va_A [(h0, .inr (3, [.null, .null, .int 0, .int 0, .int 0, .int 0]))] sz) [(h0, .inr (3, [.ref q1, .ref q3, .int 0, .int 0, .int 0, .int 0])), (q1, .inr (1, [.ref q2, .int 0])), (q2, .inl (cA, (300, .inl fun _ => 0))), (q3, .inr (0, [.ref q4, .int 0, .int 0])), (q4, .inr (1, [.ref q5, .int 0])), (q5, .inl (cA, (700, .inl fun _ => 0)))]) (va_A [(h0, .inr (3, [.null, .null, .int 0, .int 0, .int 0, .int 0]))] sz)) 5 1007 (va_A [(h0, .inr (3, [.null, .null, .int 0, .int 0, .int 0, .int 0]))] sz) := by
  refine Met.ofW (cc := cb_Pack) (maxL := 1) (ret := none) (by decide) rfl ?_
  intro p e s m args below meth c s₁ B hml hv
  obtain ⟨rfl, hsz, hP, hK, hD0, hN⟩ := hv
  have hx := B.exec
  have hb := B.bytes
  have hr := B.returns
  have hts0 := atoms_spec (ws := cw_W cy_Pack cb_Pack 1) B.pre
  have hts : ∀ w ∈ cw_ws, w.before _ s = true := fun w hw => hts0 w (List.mem_cons_of_mem _ hw)
  have hown : s.vm.findClass "SevenPassImage$Packing" = some m.cls := findClass_of_methodNamed B.named
  have hlocks := B.notSynchronized
  have hin : meth.name = "<init>" := (name_of_methodNamed B.named B.method).1
  subst hsz
  have hD := hD0.self (sz := s.heap.size)
  generalize hAe : va_A [(h0, .inr (3, [.null, .null, .int 0, .int 0, .int 0, .int 0]))] s.heap.size = A at hD ⊢
  have hA : ∀ q : Nat, s.heap.size ≤ q → A q := fun q h => by rw [← hAe]; exact Or.inr h
  have hS : va_S A s.heap s.heap [] := va_S.rf
  have hP : va_P (dC, dI) pm_cls [(h0, .inr (3, [.null, .null, .int 0, .int 0, .int 0, .int 0]))] s.heap := hP
  have hl := lv_entry ([.ref h0]) (n := 1) (Nat.le_of_ble_eq_true rfl)
  rw [lg_entry_eq]
  generalize (lg_sl ([.ref h0]) ++ List.replicate (1 - (lg_sl ([.ref h0])).length) Slot.unset).toArray = ls at hl ⊢
  have hl : lv_has ls 1 [(0, .ref h0)] := hl
  refine lv_aload_n hx hb cd_Pack_0 rfl (lv_at hl 0 rfl) ?_
  refine W.objInit hx hb hown (hts _ (cw_m (i := 51) rfl)) (hts _ (cw_m (i := 0) rfl)) (hts _ (cw_m (i := 1) rfl)) rfl (by rw [hml]; exact hl.1) rfl cd_Pack_1 (Nat.le_of_ble_eq_true rfl) (Nat.le_of_ble_eq_true rfl) ?_
  refine W.eq (g2 := F0 m 4 ls []) rfl ?_
  refine lv_aload_n hx hb cd_Pack_4 rfl (lv_at hl 0 rfl) ?_
  refine va_new (D := (dC, dI)) (cl := pm_cls) (ci := 1) (fs := [.null, .int 0]) (C := (pm_q 1).1) (T := (pm_q 1).2.1) (N := 2) hx hb hts (cw_u (a := 1) (by decide)) (pm_ty 1) (pm_cls_a 1 (by decide)) hown (hts _ (cw_m (i := 52) rfl)) (hts _ (cw_m (i := 10) rfl)) (hts _ (cw_m (i := 9) rfl)) hK hP hD hS hA rfl (by decide +kernel) (Nat.le_of_ble_eq_true rfl) (Nat.le_of_ble_eq_true rfl) cd_Pack_5 (fun q1 H hP hD hS => ?_)
  have hP : va_P (dC, dI) pm_cls [(h0, .inr (3, [.null, .null, .int 0, .int 0, .int 0, .int 0])), (q1, .inr (1, [.null, .int 0]))] H := hP
  have hD : va_D A [(h0, .inr (3, [.null, .null, .int 0, .int 0, .int 0, .int 0])), (q1, .inr (1, [.null, .int 0]))] := hD
  refine W.widen (k := 1) (n := 2) (Nat.le_of_ble_eq_true rfl) (Nat.le_of_ble_eq_true rfl) ?_
  refine lv_dup hx hb cd_Pack_8 rfl ?_
  refine lv_sipush (v := 300) hx hb cd_Pack_9 (by decide) ?_
  have hPc := hP.sub (ws' := [(q1, .inr (1, [.null, .int 0]))]) [1] rfl
  have hDc := hD.sub (ws' := [(q1, .inr (1, [.null, .int 0]))]) [1] (by decide) rfl
  have hFc := va_free (wc := [(q1, .inr (1, [.null, .int 0]))]) hD hS hA [1] rfl
  refine va_callv (va_runIN (host := pm_host) (As := [.int 300]) (rest := [.ref q1, .ref h0]) ⟨hx, hb, hml, hown, hts⟩ (c_Bytes300 l dC dI cA q1 H.size) ⟨va_cnB 1 hts (cw_goodIn (cw_m (i := 7) rfl)) rfl rfl rfl (hN _ (List.mem_of_getElem? (i := 2) rfl)) (hts _ (cw_m (i := 9) rfl)) (by decide +kernel) ⟨Nat.le_of_ble_eq_true rfl, Nat.le_of_ble_eq_true rfl⟩, rfl, (hts _ (cw_m (i := 8) rfl))⟩ ⟨fun a U g mk q => by obtain ⟨z0, z1, zP, zK, zD, zN⟩ := q; exact ⟨z0, z1, zP, va_K.moved (u := U) (U := U.calling g mk a) (Vm.Alike.refl U.vm) zK, zD, fun x hx => va_Nw.same rfl rfl (zN x hx)⟩, fun U hU hW => ⟨rfl, by rw [hU], by rw [hU]; exact hPc, va_K.moved hW.alike hK, hDc.weaken (fun _ _ _ _ => trivial), fun x hx => va_Nw.warmM hW (hN x hx)⟩⟩ rfl rfl hl.1 rfl (lv_room (Nat.le_of_ble_eq_true rfl)) cd_Pack_12 ⟨Nat.le_of_ble_eq_true rfl, Nat.le_of_ble_eq_true rfl⟩) hS (fun q _ h => hFc q h) hFc (fun u t H1 locs ht hvm _ hB hz1 hk1 hS => ?_)
  obtain ⟨q2, hP1, hK1, hD1⟩ := hB
  rw [ht] at hP1
  obtain ⟨hP, hD⟩ := va_join (wr := [(h0, .inr (3, [.null, .null, .int 0, .int 0, .int 0, .int 0]))]) (w1 := [(q1, .inr (1, [.ref q2, .int 0])), (q2, .inl (cA, (300, .inl fun _ => 0)))]) hP hD [1] [0] rfl rfl (by decide) (by decide) hk1 hFc hP1 hD1
  generalize H1 = H at hP hS ⊢
  have hP : va_P (dC, dI) pm_cls [(h0, .inr (3, [.null, .null, .int 0, .int 0, .int 0, .int 0])), (q1, .inr (1, [.ref q2, .int 0])), (q2, .inl (cA, (300, .inl fun _ => 0)))] H := hP
  have hD : va_D A [(h0, .inr (3, [.null, .null, .int 0, .int 0, .int 0, .int 0])), (q1, .inr (1, [.ref q2, .int 0])), (q2, .inl (cA, (300, .inl fun _ => 0)))] := hD
  refine W.widen (k := 2) (n := 302) (Nat.le_of_ble_eq_true rfl) (Nat.le_of_ble_eq_true rfl) ?_
  refine va_putF (D := (dC, dI)) (cl := pm_cls) (ci := 3) (v := .ref q1) (C := (pm_q 3).1) (T := (pm_q 3).2.1) (N := 6) hx hb hts (cw_u (a := 3) (by decide)) (pm_ty 3) (pm_cls_a 3 (by decide)) (pm_cls_b 3 (by decide)) hown hK hP hD hS 0 rfl rfl 0 (by decide) (hts _ (cw_m (i := 53) rfl)) (fun _ h9 => h9) rfl hin rfl (pm_cls_a 3 (by decide) 0 (by decide)) rfl rfl (Nat.le_of_ble_eq_true rfl) cd_Pack_15 (fun H locs hP hD hS => ?_)
  have hP : va_P (dC, dI) pm_cls [(h0, .inr (3, [.ref q1, .null, .int 0, .int 0, .int 0, .int 0])), (q1, .inr (1, [.ref q2, .int 0])), (q2, .inl (cA, (300, .inl fun _ => 0)))] H := hP
  have hD : va_D A [(h0, .inr (3, [.ref q1, .null, .int 0, .int 0, .int 0, .int 0])), (q1, .inr (1, [.ref q2, .int 0])), (q2, .inl (cA, (300, .inl fun _ => 0)))] := hD
  refine lv_aload_n hx hb cd_Pack_18 rfl (lv_at hl 0 rfl) ?_
  refine va_new (D := (dC, dI)) (cl := pm_cls) (ci := 0) (fs := [.null, .int 0, .int 0]) (C := (pm_q 0).1) (T := (pm_q 0).2.1) (N := 3) hx hb hts (cw_u (a := 0) (by decide)) (pm_ty 0) (pm_cls_a 0 (by decide)) hown (hts _ (cw_m (i := 54) rfl)) (hts _ (cw_m (i := 6) rfl)) (hts _ (cw_m (i := 5) rfl)) hK hP hD hS hA rfl (by decide +kernel) (Nat.le_of_ble_eq_true rfl) (Nat.le_of_ble_eq_true rfl) cd_Pack_19 (fun q3 H hP hD hS => ?_)
  have hP : va_P (dC, dI) pm_cls [(h0, .inr (3, [.ref q1, .null, .int 0, .int 0, .int 0, .int 0])), (q1, .inr (1, [.ref q2, .int 0])), (q2, .inl (cA, (300, .inl fun _ => 0))), (q3, .inr (0, [.null, .int 0, .int 0]))] H := hP
  have hD : va_D A [(h0, .inr (3, [.ref q1, .null, .int 0, .int 0, .int 0, .int 0])), (q1, .inr (1, [.ref q2, .int 0])), (q2, .inl (cA, (300, .inl fun _ => 0))), (q3, .inr (0, [.null, .int 0, .int 0]))] := hD
  refine W.widen (k := 3) (n := 305) (Nat.le_of_ble_eq_true rfl) (Nat.le_of_ble_eq_true rfl) ?_
  refine lv_dup hx hb cd_Pack_22 rfl ?_
  have hPc := hP.sub (ws' := [(q3, .inr (0, [.null, .int 0, .int 0]))]) [3] rfl
  have hDc := hD.sub (ws' := [(q3, .inr (0, [.null, .int 0, .int 0]))]) [3] (by decide) rfl
  have hFc := va_free (wc := [(q3, .inr (0, [.null, .int 0, .int 0]))]) hD hS hA [3] rfl
  refine va_callv (va_runIN (host := pm_host) (As := []) (rest := [.ref q3, .ref h0]) ⟨hx, hb, hml, hown, hts⟩ (c_Bits l dC dI cA q3 H.size) ⟨va_cnB 0 hts (cw_goodIn (cw_m (i := 3) rfl)) rfl rfl rfl (hN _ (List.mem_of_getElem? (i := 3) rfl)) (hts _ (cw_m (i := 5) rfl)) (by decide +kernel) ⟨Nat.le_of_ble_eq_true rfl, Nat.le_of_ble_eq_true rfl⟩, rfl, (hts _ (cw_m (i := 4) rfl))⟩ ⟨fun a U g mk q => by obtain ⟨z0, z1, zP, zK, zD, zN⟩ := q; exact ⟨z0, z1, zP, va_K.moved (u := U) (U := U.calling g mk a) (Vm.Alike.refl U.vm) zK, zD, fun x hx => va_Nw.same rfl rfl (zN x hx)⟩, fun U hU hW => ⟨rfl, by rw [hU], by rw [hU]; exact hPc, va_K.moved hW.alike hK, hDc.weaken (fun _ _ _ _ => trivial), fun x hx => va_Nw.warmM hW (hN x hx)⟩⟩ rfl rfl hl.1 rfl (lv_room (Nat.le_of_ble_eq_true rfl)) cd_Pack_23 ⟨Nat.le_of_ble_eq_true rfl, Nat.le_of_ble_eq_true rfl⟩) hS (fun q _ h => hFc q h) hFc (fun u t H1 locs ht hvm _ hB hz1 hk1 hS => ?_)
  obtain ⟨q4, q5, hP1, hK1, hD1⟩ := hB
  rw [ht] at hP1
  obtain ⟨hP, hD⟩ := va_join (wr := [(h0, .inr (3, [.ref q1, .null, .int 0, .int 0, .int 0, .int 0])), (q1, .inr (1, [.ref q2, .int 0])), (q2, .inl (cA, (300, .inl fun _ => 0)))]) (w1 := [(q3, .inr (0, [.ref q4, .int 0, .int 0])), (q4, .inr (1, [.ref q5, .int 0])), (q5, .inl (cA, (700, .inl fun _ => 0)))]) hP hD [3] [0, 1, 2] rfl rfl (by decide) (by decide) hk1 hFc hP1 hD1
  generalize H1 = H at hP hS ⊢
  have hP : va_P (dC, dI) pm_cls [(h0, .inr (3, [.ref q1, .null, .int 0, .int 0, .int 0, .int 0])), (q1, .inr (1, [.ref q2, .int 0])), (q2, .inl (cA, (300, .inl fun _ => 0))), (q3, .inr (0, [.ref q4, .int 0, .int 0])), (q4, .inr (1, [.ref q5, .int 0])), (q5, .inl (cA, (700, .inl fun _ => 0)))] H := hP
  have hD : va_D A [(h0, .inr (3, [.ref q1, .null, .int 0, .int 0, .int 0, .int 0])), (q1, .inr (1, [.ref q2, .int 0])), (q2, .inl (cA, (300, .inl fun _ => 0))), (q3, .inr (0, [.ref q4, .int 0, .int 0])), (q4, .inr (1, [.ref q5, .int 0])), (q5, .inl (cA, (700, .inl fun _ => 0)))] := hD
  refine W.widen (k := 5) (n := 1007) (Nat.le_of_ble_eq_true rfl) (Nat.le_of_ble_eq_true rfl) ?_
  refine va_putF (D := (dC, dI)) (cl := pm_cls) (ci := 3) (v := .ref q3) (C := (pm_q 3).1) (T := (pm_q 3).2.1) (N := 6) hx hb hts (cw_u (a := 3) (by decide)) (pm_ty 3) (pm_cls_a 3 (by decide)) (pm_cls_b 3 (by decide)) hown hK hP hD hS 0 rfl rfl 1 (by decide) (hts _ (cw_m (i := 55) rfl)) (fun _ h9 => h9) rfl hin rfl (pm_cls_a 3 (by decide) 1 (by decide)) rfl rfl (Nat.le_of_ble_eq_true rfl) cd_Pack_26 (fun H locs hP hD hS => ?_)
  have hP : va_P (dC, dI) pm_cls [(h0, .inr (3, [.ref q1, .ref q3, .int 0, .int 0, .int 0, .int 0])), (q1, .inr (1, [.ref q2, .int 0])), (q2, .inl (cA, (300, .inl fun _ => 0))), (q3, .inr (0, [.ref q4, .int 0, .int 0])), (q4, .inr (1, [.ref q5, .int 0])), (q5, .inl (cA, (700, .inl fun _ => 0)))] H := hP
  have hD : va_D A [(h0, .inr (3, [.ref q1, .ref q3, .int 0, .int 0, .int 0, .int 0])), (q1, .inr (1, [.ref q2, .int 0])), (q2, .inl (cA, (300, .inl fun _ => 0))), (q3, .inr (0, [.ref q4, .int 0, .int 0])), (q4, .inr (1, [.ref q5, .int 0])), (q5, .inl (cA, (700, .inl fun _ => 0)))] := hD
  refine lv_aload_n hx hb cd_Pack_29 rfl (lv_at hl 0 rfl) ?_
  refine lv_iconst (v := 0) hx hb cd_Pack_30 (by decide) ?_
  refine va_put (D := (dC, dI)) (cl := pm_cls) (ci := 3) (v := .int 0) (C := (pm_q 3).1) (T := (pm_q 3).2.1) (N := 6) hx hb hts (cw_u (a := 3) (by decide)) (pm_ty 3) (pm_cls_a 3 (by decide)) (pm_cls_b 3 (by decide)) hown hK hP hD hS 0 rfl rfl 2 (by decide) (hts _ (cw_m (i := 56) rfl)) (fun _ h9 => h9) rfl (pm_cls_a 3 (by decide) 2 (by decide)) rfl rfl (Nat.le_of_ble_eq_true rfl) cd_Pack_31 (fun H locs hP hD hS => ?_)
  have hP : va_P (dC, dI) pm_cls [(h0, .inr (3, [.ref q1, .ref q3, .int 0, .int 0, .int 0, .int 0])), (q1, .inr (1, [.ref q2, .int 0])), (q2, .inl (cA, (300, .inl fun _ => 0))), (q3, .inr (0, [.ref q4, .int 0, .int 0])), (q4, .inr (1, [.ref q5, .int 0])), (q5, .inl (cA, (700, .inl fun _ => 0)))] H := hP
  have hD : va_D A [(h0, .inr (3, [.ref q1, .ref q3, .int 0, .int 0, .int 0, .int 0])), (q1, .inr (1, [.ref q2, .int 0])), (q2, .inl (cA, (300, .inl fun _ => 0))), (q3, .inr (0, [.ref q4, .int 0, .int 0])), (q4, .inr (1, [.ref q5, .int 0])), (q5, .inl (cA, (700, .inl fun _ => 0)))] := hD
  refine lv_aload_n hx hb cd_Pack_34 rfl (lv_at hl 0 rfl) ?_
  refine lv_iconst (v := 0) hx hb cd_Pack_35 (by decide) ?_
  refine va_put (D := (dC, dI)) (cl := pm_cls) (ci := 3) (v := .int 0) (C := (pm_q 3).1) (T := (pm_q 3).2.1) (N := 6) hx hb hts (cw_u (a := 3) (by decide)) (pm_ty 3) (pm_cls_a 3 (by decide)) (pm_cls_b 3 (by decide)) hown hK hP hD hS 0 rfl rfl 3 (by decide) (hts _ (cw_m (i := 57) rfl)) (fun _ h9 => h9) rfl (pm_cls_a 3 (by decide) 3 (by decide)) rfl rfl (Nat.le_of_ble_eq_true rfl) cd_Pack_36 (fun H locs hP hD hS => ?_)
  have hP : va_P (dC, dI) pm_cls [(h0, .inr (3, [.ref q1, .ref q3, .int 0, .int 0, .int 0, .int 0])), (q1, .inr (1, [.ref q2, .int 0])), (q2, .inl (cA, (300, .inl fun _ => 0))), (q3, .inr (0, [.ref q4, .int 0, .int 0])), (q4, .inr (1, [.ref q5, .int 0])), (q5, .inl (cA, (700, .inl fun _ => 0)))] H := hP
  have hD : va_D A [(h0, .inr (3, [.ref q1, .ref q3, .int 0, .int 0, .int 0, .int 0])), (q1, .inr (1, [.ref q2, .int 0])), (q2, .inl (cA, (300, .inl fun _ => 0))), (q3, .inr (0, [.ref q4, .int 0, .int 0])), (q4, .inr (1, [.ref q5, .int 0])), (q5, .inl (cA, (700, .inl fun _ => 0)))] := hD
  refine lv_aload_n hx hb cd_Pack_39 rfl (lv_at hl 0 rfl) ?_
  refine lv_iconst (v := 0) hx hb cd_Pack_40 (by decide) ?_
  refine va_put (D := (dC, dI)) (cl := pm_cls) (ci := 3) (v := .int 0) (C := (pm_q 3).1) (T := (pm_q 3).2.1) (N := 6) hx hb hts (cw_u (a := 3) (by decide)) (pm_ty 3) (pm_cls_a 3 (by decide)) (pm_cls_b 3 (by decide)) hown hK hP hD hS 0 rfl rfl 4 (by decide) (hts _ (cw_m (i := 58) rfl)) (fun _ h9 => h9) rfl (pm_cls_a 3 (by decide) 4 (by decide)) rfl rfl (Nat.le_of_ble_eq_true rfl) cd_Pack_41 (fun H locs hP hD hS => ?_)
  have hP : va_P (dC, dI) pm_cls [(h0, .inr (3, [.ref q1, .ref q3, .int 0, .int 0, .int 0, .int 0])), (q1, .inr (1, [.ref q2, .int 0])), (q2, .inl (cA, (300, .inl fun _ => 0))), (q3, .inr (0, [.ref q4, .int 0, .int 0])), (q4, .inr (1, [.ref q5, .int 0])), (q5, .inl (cA, (700, .inl fun _ => 0)))] H := hP
  have hD : va_D A [(h0, .inr (3, [.ref q1, .ref q3, .int 0, .int 0, .int 0, .int 0])), (q1, .inr (1, [.ref q2, .int 0])), (q2, .inl (cA, (300, .inl fun _ => 0))), (q3, .inr (0, [.ref q4, .int 0, .int 0])), (q4, .inr (1, [.ref q5, .int 0])), (q5, .inl (cA, (700, .inl fun _ => 0)))] := hD
  refine lv_aload_n hx hb cd_Pack_44 rfl (lv_at hl 0 rfl) ?_
  refine lv_iconst (v := 0) hx hb cd_Pack_45 (by decide) ?_
  refine va_put (D := (dC, dI)) (cl := pm_cls) (ci := 3) (v := .int 0) (C := (pm_q 3).1) (T := (pm_q 3).2.1) (N := 6) hx hb hts (cw_u (a := 3) (by decide)) (pm_ty 3) (pm_cls_a 3 (by decide)) (pm_cls_b 3 (by decide)) hown hK hP hD hS 0 rfl rfl 5 (by decide) (hts _ (cw_m (i := 59) rfl)) (fun _ h9 => h9) rfl (pm_cls_a 3 (by decide) 5 (by decide)) rfl rfl (Nat.le_of_ble_eq_true rfl) cd_Pack_46 (fun H locs hP hD hS => ?_)
  have hP : va_P (dC, dI) pm_cls [(h0, .inr (3, [.ref q1, .ref q3, .int 0, .int 0, .int 0, .int 0])), (q1, .inr (1, [.ref q2, .int 0])), (q2, .inl (cA, (300, .inl fun _ => 0))), (q3, .inr (0, [.ref q4, .int 0, .int 0])), (q4, .inr (1, [.ref q5, .int 0])), (q5, .inl (cA, (700, .inl fun _ => 0)))] H := hP
  have hD : va_D A [(h0, .inr (3, [.ref q1, .ref q3, .int 0, .int 0, .int 0, .int 0])), (q1, .inr (1, [.ref q2, .int 0])), (q2, .inl (cA, (300, .inl fun _ => 0))), (q3, .inr (0, [.ref q4, .int 0, .int 0])), (q4, .inr (1, [.ref q5, .int 0])), (q5, .inl (cA, (700, .inl fun _ => 0)))] := hD
  exact W.vret hx hb hr (fun t ht hW => ⟨⟨(), rfl, trivial, q1, q2, q3, q4, q5, by rw [ht]; exact hP, va_K.moved hW.alike hK, hD⟩, hS.F ht⟩) hS.2.2 cd_Pack_49
