set_option maxHeartbeats 4000000 in
set_option maxRecDepth 100000 in
theorem c_Pict (l : Launch) (dC : Nat → ClassId) (dI : Nat → Nat → Nat) (cA : ClassId) (h0 sz : Nat) : Met l cy_Pict (cw_W cy_Pict cb_Pict 1) { frames := 1, cells := 1, slots := 256, locals := 20 } (va_Pc [.ref h0] (fun U => U.heap.size = sz ∧ va_P (dC, dI) pm_cls [(h0, .inr (4, [.null, .int 0, .int 0, .int 0, .int 0]))] U.heap ∧ va_K (dC, dI) pm_cls [(cA, .int)] U ∧ va_D (fun _ => True) [(h0, .inr (4, [.null, .int 0, .int 0, .int 0, .int 0]))] ∧ cw_N U)) (va_Qv (fun _ : Unit => True) (fun _ t => ∃ q1 : Nat, va_P (dC, dI) pm_cls [(h0, .inr (4, [.ref q1, .int 0, .int 1, .int 1, .int 1])), (q1, .inl (cA, (256, .inl fun _ => 0)))] t.heap ∧ va_K (dC, dI) pm_cls [(cA, .int)] t ∧ va_D (va_A [(h0, .inr (4, [.null, .int 0, .int 0, .int 0, .int 0]))] sz) [(h0, .inr (4, [.ref q1, .int 0, .int 1, .int 1, .int 1])), (q1, .inl (cA, (256, .inl fun _ => 0)))]) (va_A [(h0, .inr (4, [.null, .int 0, .int 0, .int 0, .int 0]))] sz)) 1 256 (va_A [(h0, .inr (4, [.null, .int 0, .int 0, .int 0, .int 0]))] sz) := by
  refine Met.ofW (cc := cb_Pict) (maxL := 1) (ret := none) (by decide) rfl ?_
  intro p e s m args below meth c s₁ B hml hv
  obtain ⟨rfl, hsz, hP, hK, hD0, hN⟩ := hv
  have hx := B.exec
  have hb := B.bytes
  have hr := B.returns
  have hts0 := atoms_spec (ws := cw_W cy_Pict cb_Pict 1) B.pre
  have hts : ∀ w ∈ cw_ws, w.before _ s = true := fun w hw => hts0 w (List.mem_cons_of_mem _ hw)
  have hown : s.vm.findClass "SevenPassImage$Picture" = some m.cls := findClass_of_methodNamed B.named
  have hlocks := B.notSynchronized
  have hin : meth.name = "<init>" := (name_of_methodNamed B.named B.method).1
  subst hsz
  have hD := hD0.self (sz := s.heap.size)
  generalize hAe : va_A [(h0, .inr (4, [.null, .int 0, .int 0, .int 0, .int 0]))] s.heap.size = A at hD ⊢
  have hA : ∀ q : Nat, s.heap.size ≤ q → A q := fun q h => by rw [← hAe]; exact Or.inr h
  have hS : va_S A s.heap s.heap [] := va_S.rf
  have hP : va_P (dC, dI) pm_cls [(h0, .inr (4, [.null, .int 0, .int 0, .int 0, .int 0]))] s.heap := hP
  have hl := lv_entry ([.ref h0]) (n := 1) (Nat.le_of_ble_eq_true rfl)
  rw [lg_entry_eq]
  generalize (lg_sl ([.ref h0]) ++ List.replicate (1 - (lg_sl ([.ref h0])).length) Slot.unset).toArray = ls at hl ⊢
  have hl : lv_has ls 1 [(0, .ref h0)] := hl
  refine lv_aload_n hx hb cd_Pict_0 rfl (lv_at hl 0 rfl) ?_
  refine W.objInit hx hb hown (hts _ (cw_m (i := 60) rfl)) (hts _ (cw_m (i := 0) rfl)) (hts _ (cw_m (i := 1) rfl)) rfl (by rw [hml]; exact hl.1) rfl cd_Pict_1 (Nat.le_of_ble_eq_true rfl) (Nat.le_of_ble_eq_true rfl) ?_
  refine W.eq (g2 := F0 m 4 ls []) rfl ?_
  refine lv_aload_n hx hb cd_Pict_4 rfl (lv_at hl 0 rfl) ?_
  refine lv_sipush (v := 256) hx hb cd_Pict_5 (by decide) ?_
  refine va_newa (D := (dC, dI)) (cl := pm_cls) (N' := 256) (a0 := (256, .inl fun _ => 0)) (ty := .int) hx hb (hts _ (cw_m (i := 2) rfl)) rfl hK hP hD hS hA (fun _ => rfl) (by decide) (by decide) (by decide) (Nat.le_of_ble_eq_true rfl) (Nat.le_of_ble_eq_true rfl) cd_Pict_8 (fun q1 cB H hK2 hP hD hS => ?_)
  rw [cw_A hK2] at hP hD
  have hP : va_P (dC, dI) pm_cls [(h0, .inr (4, [.null, .int 0, .int 0, .int 0, .int 0])), (q1, .inl (cA, (256, .inl fun _ => 0)))] H := hP
  have hD : va_D A [(h0, .inr (4, [.null, .int 0, .int 0, .int 0, .int 0])), (q1, .inl (cA, (256, .inl fun _ => 0)))] := hD
  refine W.widen (k := 1) (n := 256) (Nat.le_of_ble_eq_true rfl) (Nat.le_of_ble_eq_true rfl) ?_
  refine va_putF (D := (dC, dI)) (cl := pm_cls) (ci := 4) (v := .ref q1) (C := (pm_q 4).1) (T := (pm_q 4).2.1) (N := 5) hx hb hts (cw_u (a := 4) (by decide)) (pm_ty 4) (pm_cls_a 4 (by decide)) (pm_cls_b 4 (by decide)) hown hK hP hD hS 0 rfl rfl 0 (by decide) (hts _ (cw_m (i := 61) rfl)) (fun _ h9 => h9) rfl hin rfl (pm_cls_a 4 (by decide) 0 (by decide)) rfl rfl (Nat.le_of_ble_eq_true rfl) cd_Pict_10 (fun H locs hP hD hS => ?_)
  have hP : va_P (dC, dI) pm_cls [(h0, .inr (4, [.ref q1, .int 0, .int 0, .int 0, .int 0])), (q1, .inl (cA, (256, .inl fun _ => 0)))] H := hP
  have hD : va_D A [(h0, .inr (4, [.ref q1, .int 0, .int 0, .int 0, .int 0])), (q1, .inl (cA, (256, .inl fun _ => 0)))] := hD
  refine lv_aload_n hx hb cd_Pict_13 rfl (lv_at hl 0 rfl) ?_
  refine lv_iconst (v := 0) hx hb cd_Pict_14 (by decide) ?_
  refine va_put (D := (dC, dI)) (cl := pm_cls) (ci := 4) (v := .int 0) (C := (pm_q 4).1) (T := (pm_q 4).2.1) (N := 5) hx hb hts (cw_u (a := 4) (by decide)) (pm_ty 4) (pm_cls_a 4 (by decide)) (pm_cls_b 4 (by decide)) hown hK hP hD hS 0 rfl rfl 1 (by decide) (hts _ (cw_m (i := 62) rfl)) (fun _ h9 => h9) rfl (pm_cls_a 4 (by decide) 1 (by decide)) rfl rfl (Nat.le_of_ble_eq_true rfl) cd_Pict_15 (fun H locs hP hD hS => ?_)
  have hP : va_P (dC, dI) pm_cls [(h0, .inr (4, [.ref q1, .int 0, .int 0, .int 0, .int 0])), (q1, .inl (cA, (256, .inl fun _ => 0)))] H := hP
  have hD : va_D A [(h0, .inr (4, [.ref q1, .int 0, .int 0, .int 0, .int 0])), (q1, .inl (cA, (256, .inl fun _ => 0)))] := hD
  refine lv_aload_n hx hb cd_Pict_18 rfl (lv_at hl 0 rfl) ?_
  refine lv_iconst (v := 1) hx hb cd_Pict_19 (by decide) ?_
  refine va_put (D := (dC, dI)) (cl := pm_cls) (ci := 4) (v := .int 1) (C := (pm_q 4).1) (T := (pm_q 4).2.1) (N := 5) hx hb hts (cw_u (a := 4) (by decide)) (pm_ty 4) (pm_cls_a 4 (by decide)) (pm_cls_b 4 (by decide)) hown hK hP hD hS 0 rfl rfl 2 (by decide) (hts _ (cw_m (i := 63) rfl)) (fun _ h9 => h9) rfl (pm_cls_a 4 (by decide) 2 (by decide)) rfl rfl (Nat.le_of_ble_eq_true rfl) cd_Pict_20 (fun H locs hP hD hS => ?_)
  have hP : va_P (dC, dI) pm_cls [(h0, .inr (4, [.ref q1, .int 0, .int 1, .int 0, .int 0])), (q1, .inl (cA, (256, .inl fun _ => 0)))] H := hP
  have hD : va_D A [(h0, .inr (4, [.ref q1, .int 0, .int 1, .int 0, .int 0])), (q1, .inl (cA, (256, .inl fun _ => 0)))] := hD
  refine lv_aload_n hx hb cd_Pict_23 rfl (lv_at hl 0 rfl) ?_
  refine lv_iconst (v := 1) hx hb cd_Pict_24 (by decide) ?_
  refine va_put (D := (dC, dI)) (cl := pm_cls) (ci := 4) (v := .int 1) (C := (pm_q 4).1) (T := (pm_q 4).2.1) (N := 5) hx hb hts (cw_u (a := 4) (by decide)) (pm_ty 4) (pm_cls_a 4 (by decide)) (pm_cls_b 4 (by decide)) hown hK hP hD hS 0 rfl rfl 3 (by decide) (hts _ (cw_m (i := 64) rfl)) (fun _ h9 => h9) rfl (pm_cls_a 4 (by decide) 3 (by decide)) rfl rfl (Nat.le_of_ble_eq_true rfl) cd_Pict_25 (fun H locs hP hD hS => ?_)
  have hP : va_P (dC, dI) pm_cls [(h0, .inr (4, [.ref q1, .int 0, .int 1, .int 1, .int 0])), (q1, .inl (cA, (256, .inl fun _ => 0)))] H := hP
  have hD : va_D A [(h0, .inr (4, [.ref q1, .int 0, .int 1, .int 1, .int 0])), (q1, .inl (cA, (256, .inl fun _ => 0)))] := hD
  refine lv_aload_n hx hb cd_Pict_28 rfl (lv_at hl 0 rfl) ?_
  refine lv_iconst (v := 1) hx hb cd_Pict_29 (by decide) ?_
  refine va_put (D := (dC, dI)) (cl := pm_cls) (ci := 4) (v := .int 1) (C := (pm_q 4).1) (T := (pm_q 4).2.1) (N := 5) hx hb hts (cw_u (a := 4) (by decide)) (pm_ty 4) (pm_cls_a 4 (by decide)) (pm_cls_b 4 (by decide)) hown hK hP hD hS 0 rfl rfl 4 (by decide) (hts _ (cw_m (i := 65) rfl)) (fun _ h9 => h9) rfl (pm_cls_a 4 (by decide) 4 (by decide)) rfl rfl (Nat.le_of_ble_eq_true rfl) cd_Pict_30 (fun H locs hP hD hS => ?_)
  have hP : va_P (dC, dI) pm_cls [(h0, .inr (4, [.ref q1, .int 0, .int 1, .int 1, .int 1])), (q1, .inl (cA, (256, .inl fun _ => 0)))] H := hP
  have hD : va_D A [(h0, .inr (4, [.ref q1, .int 0, .int 1, .int 1, .int 1])), (q1, .inl (cA, (256, .inl fun _ => 0)))] := hD
  exact W.vret hx hb hr (fun t ht hW => ⟨⟨(), rfl, trivial, q1, by rw [ht]; exact hP, va_K.moved hW.alike hK, hD⟩, hS.F ht⟩) hS.2.2 cd_Pict_33
set_option maxHeartbeats 4000000 in
set_option maxRecDepth 100000 in
theorem c_Row (l : Launch) (dC : Nat → ClassId) (dI : Nat → Nat → Nat) (cA : ClassId) (h0 sz : Nat) : Met l cy_Row (cw_W cy_Row cb_Row 1) { frames := 1, cells := 2, slots := 64, locals := 20 } (va_Pc [.ref h0] (fun U => U.heap.size = sz ∧ va_P (dC, dI) pm_cls [(h0, .inr (5, [.null, .null, .int 0, .int 0]))] U.heap ∧ va_K (dC, dI) pm_cls [(cA, .int)] U ∧ va_D (fun _ => True) [(h0, .inr (5, [.null, .null, .int 0, .int 0]))] ∧ cw_N U)) (va_Qv (fun _ : Unit => True) (fun _ t => ∃ q1 q2 : Nat, va_P (dC, dI) pm_cls [(h0, .inr (5, [.ref q1, .ref q2, .int 0, .int 1])), (q1, .inl (cA, (32, .inl fun _ => 0))), (q2, .inl (cA, (32, .inl fun _ => 0)))] t.heap ∧ va_K (dC, dI) pm_cls [(cA, .int)] t ∧ va_D (va_A [(h0, .inr (5, [.null, .null, .int 0, .int 0]))] sz) [(h0, .inr (5, [.ref q1, .ref q2, .int 0, .int 1])), (q1, .inl (cA, (32, .inl fun _ => 0))), (q2, .inl (cA, (32, .inl fun _ => 0)))]) (va_A [(h0, .inr (5, [.null, .null, .int 0, .int 0]))] sz)) 2 64 (va_A [(h0, .inr (5, [.null, .null, .int 0, .int 0]))] sz) := by
  refine Met.ofW (cc := cb_Row) (maxL := 1) (ret := none) (by decide) rfl ?_
  intro p e s m args below meth c s₁ B hml hv
  obtain ⟨rfl, hsz, hP, hK, hD0, hN⟩ := hv
  have hx := B.exec
  have hb := B.bytes
  have hr := B.returns
  have hts0 := atoms_spec (ws := cw_W cy_Row cb_Row 1) B.pre
  have hts : ∀ w ∈ cw_ws, w.before _ s = true := fun w hw => hts0 w (List.mem_cons_of_mem _ hw)
  have hown : s.vm.findClass "SevenPassImage$Row" = some m.cls := findClass_of_methodNamed B.named
  have hlocks := B.notSynchronized
  have hin : meth.name = "<init>" := (name_of_methodNamed B.named B.method).1
  subst hsz
  have hD := hD0.self (sz := s.heap.size)
  generalize hAe : va_A [(h0, .inr (5, [.null, .null, .int 0, .int 0]))] s.heap.size = A at hD ⊢
  have hA : ∀ q : Nat, s.heap.size ≤ q → A q := fun q h => by rw [← hAe]; exact Or.inr h
  have hS : va_S A s.heap s.heap [] := va_S.rf
  have hP : va_P (dC, dI) pm_cls [(h0, .inr (5, [.null, .null, .int 0, .int 0]))] s.heap := hP
  have hl := lv_entry ([.ref h0]) (n := 1) (Nat.le_of_ble_eq_true rfl)
  rw [lg_entry_eq]
  generalize (lg_sl ([.ref h0]) ++ List.replicate (1 - (lg_sl ([.ref h0])).length) Slot.unset).toArray = ls at hl ⊢
  have hl : lv_has ls 1 [(0, .ref h0)] := hl
  refine lv_aload_n hx hb cd_Row_0 rfl (lv_at hl 0 rfl) ?_
  refine W.objInit hx hb hown (hts _ (cw_m (i := 66) rfl)) (hts _ (cw_m (i := 0) rfl)) (hts _ (cw_m (i := 1) rfl)) rfl (by rw [hml]; exact hl.1) rfl cd_Row_1 (Nat.le_of_ble_eq_true rfl) (Nat.le_of_ble_eq_true rfl) ?_
  refine W.eq (g2 := F0 m 4 ls []) rfl ?_
  refine lv_aload_n hx hb cd_Row_4 rfl (lv_at hl 0 rfl) ?_
  refine lv_bipush (v := 32) hx hb cd_Row_5 (by decide) ?_
  refine va_newa (D := (dC, dI)) (cl := pm_cls) (N' := 32) (a0 := (32, .inl fun _ => 0)) (ty := .int) hx hb (hts _ (cw_m (i := 2) rfl)) rfl hK hP hD hS hA (fun _ => rfl) (by decide) (by decide) (by decide) (Nat.le_of_ble_eq_true rfl) (Nat.le_of_ble_eq_true rfl) cd_Row_7 (fun q1 cB H hK2 hP hD hS => ?_)
  rw [cw_A hK2] at hP hD
  have hP : va_P (dC, dI) pm_cls [(h0, .inr (5, [.null, .null, .int 0, .int 0])), (q1, .inl (cA, (32, .inl fun _ => 0)))] H := hP
  have hD : va_D A [(h0, .inr (5, [.null, .null, .int 0, .int 0])), (q1, .inl (cA, (32, .inl fun _ => 0)))] := hD
  refine W.widen (k := 1) (n := 32) (Nat.le_of_ble_eq_true rfl) (Nat.le_of_ble_eq_true rfl) ?_
  refine va_putF (D := (dC, dI)) (cl := pm_cls) (ci := 5) (v := .ref q1) (C := (pm_q 5).1) (T := (pm_q 5).2.1) (N := 4) hx hb hts (cw_u (a := 5) (by decide)) (pm_ty 5) (pm_cls_a 5 (by decide)) (pm_cls_b 5 (by decide)) hown hK hP hD hS 0 rfl rfl 0 (by decide) (hts _ (cw_m (i := 67) rfl)) (fun _ h9 => h9) rfl hin rfl (pm_cls_a 5 (by decide) 0 (by decide)) rfl rfl (Nat.le_of_ble_eq_true rfl) cd_Row_9 (fun H locs hP hD hS => ?_)
  have hP : va_P (dC, dI) pm_cls [(h0, .inr (5, [.ref q1, .null, .int 0, .int 0])), (q1, .inl (cA, (32, .inl fun _ => 0)))] H := hP
  have hD : va_D A [(h0, .inr (5, [.ref q1, .null, .int 0, .int 0])), (q1, .inl (cA, (32, .inl fun _ => 0)))] := hD
  refine lv_aload_n hx hb cd_Row_12 rfl (lv_at hl 0 rfl) ?_
  refine lv_bipush (v := 32) hx hb cd_Row_13 (by decide) ?_
  refine va_newa (D := (dC, dI)) (cl := pm_cls) (N' := 32) (a0 := (32, .inl fun _ => 0)) (ty := .int) hx hb (hts _ (cw_m (i := 2) rfl)) rfl hK hP hD hS hA (fun _ => rfl) (by decide) (by decide) (by decide) (Nat.le_of_ble_eq_true rfl) (Nat.le_of_ble_eq_true rfl) cd_Row_15 (fun q2 cB H hK2 hP hD hS => ?_)
  rw [cw_A hK2] at hP hD
  have hP : va_P (dC, dI) pm_cls [(h0, .inr (5, [.ref q1, .null, .int 0, .int 0])), (q1, .inl (cA, (32, .inl fun _ => 0))), (q2, .inl (cA, (32, .inl fun _ => 0)))] H := hP
  have hD : va_D A [(h0, .inr (5, [.ref q1, .null, .int 0, .int 0])), (q1, .inl (cA, (32, .inl fun _ => 0))), (q2, .inl (cA, (32, .inl fun _ => 0)))] := hD
  refine W.widen (k := 2) (n := 64) (Nat.le_of_ble_eq_true rfl) (Nat.le_of_ble_eq_true rfl) ?_
  refine va_putF (D := (dC, dI)) (cl := pm_cls) (ci := 5) (v := .ref q2) (C := (pm_q 5).1) (T := (pm_q 5).2.1) (N := 4) hx hb hts (cw_u (a := 5) (by decide)) (pm_ty 5) (pm_cls_a 5 (by decide)) (pm_cls_b 5 (by decide)) hown hK hP hD hS 0 rfl rfl 1 (by decide) (hts _ (cw_m (i := 68) rfl)) (fun _ h9 => h9) rfl hin rfl (pm_cls_a 5 (by decide) 1 (by decide)) rfl rfl (Nat.le_of_ble_eq_true rfl) cd_Row_17 (fun H locs hP hD hS => ?_)
  have hP : va_P (dC, dI) pm_cls [(h0, .inr (5, [.ref q1, .ref q2, .int 0, .int 0])), (q1, .inl (cA, (32, .inl fun _ => 0))), (q2, .inl (cA, (32, .inl fun _ => 0)))] H := hP
  have hD : va_D A [(h0, .inr (5, [.ref q1, .ref q2, .int 0, .int 0])), (q1, .inl (cA, (32, .inl fun _ => 0))), (q2, .inl (cA, (32, .inl fun _ => 0)))] := hD
  refine lv_aload_n hx hb cd_Row_20 rfl (lv_at hl 0 rfl) ?_
  refine lv_iconst (v := 0) hx hb cd_Row_21 (by decide) ?_
  refine va_put (D := (dC, dI)) (cl := pm_cls) (ci := 5) (v := .int 0) (C := (pm_q 5).1) (T := (pm_q 5).2.1) (N := 4) hx hb hts (cw_u (a := 5) (by decide)) (pm_ty 5) (pm_cls_a 5 (by decide)) (pm_cls_b 5 (by decide)) hown hK hP hD hS 0 rfl rfl 2 (by decide) (hts _ (cw_m (i := 69) rfl)) (fun _ h9 => h9) rfl (pm_cls_a 5 (by decide) 2 (by decide)) rfl rfl (Nat.le_of_ble_eq_true rfl) cd_Row_22 (fun H locs hP hD hS => ?_)
  have hP : va_P (dC, dI) pm_cls [(h0, .inr (5, [.ref q1, .ref q2, .int 0, .int 0])), (q1, .inl (cA, (32, .inl fun _ => 0))), (q2, .inl (cA, (32, .inl fun _ => 0)))] H := hP
  have hD : va_D A [(h0, .inr (5, [.ref q1, .ref q2, .int 0, .int 0])), (q1, .inl (cA, (32, .inl fun _ => 0))), (q2, .inl (cA, (32, .inl fun _ => 0)))] := hD
  refine lv_aload_n hx hb cd_Row_25 rfl (lv_at hl 0 rfl) ?_
  refine lv_iconst (v := 1) hx hb cd_Row_26 (by decide) ?_
  refine va_put (D := (dC, dI)) (cl := pm_cls) (ci := 5) (v := .int 1) (C := (pm_q 5).1) (T := (pm_q 5).2.1) (N := 4) hx hb hts (cw_u (a := 5) (by decide)) (pm_ty 5) (pm_cls_a 5 (by decide)) (pm_cls_b 5 (by decide)) hown hK hP hD hS 0 rfl rfl 3 (by decide) (hts _ (cw_m (i := 70) rfl)) (fun _ h9 => h9) rfl (pm_cls_a 5 (by decide) 3 (by decide)) rfl rfl (Nat.le_of_ble_eq_true rfl) cd_Row_27 (fun H locs hP hD hS => ?_)
  have hP : va_P (dC, dI) pm_cls [(h0, .inr (5, [.ref q1, .ref q2, .int 0, .int 1])), (q1, .inl (cA, (32, .inl fun _ => 0))), (q2, .inl (cA, (32, .inl fun _ => 0)))] H := hP
  have hD : va_D A [(h0, .inr (5, [.ref q1, .ref q2, .int 0, .int 1])), (q1, .inl (cA, (32, .inl fun _ => 0))), (q2, .inl (cA, (32, .inl fun _ => 0)))] := hD
  exact W.vret hx hb hr (fun t ht hW => ⟨⟨(), rfl, trivial, q1, q2, by rw [ht]; exact hP, va_K.moved hW.alike hK, hD⟩, hS.F ht⟩) hS.2.2 cd_Row_30
set_option maxHeartbeats 4000000 in
set_option maxRecDepth 100000 in
theorem c_Coder (l : Launch) (dC : Nat → ClassId) (dI : Nat → Nat → Nat) (cA : ClassId) (h0 sz : Nat) : Met l cy_Coder (cw_W cy_Coder cb_Coder 1) { frames := 2, cells := 4, slots := 73, locals := 40 } (va_Pc [.ref h0] (fun U => U.heap.size = sz ∧ va_P (dC, dI) pm_cls [(h0, .inr (6, [.null, .null]))] U.heap ∧ va_K (dC, dI) pm_cls [(cA, .int)] U ∧ va_D (fun _ => True) [(h0, .inr (6, [.null, .null]))] ∧ cw_N U)) (va_Qv (fun _ : Unit => True) (fun _ t => ∃ q1 q2 q3 q4 : Nat, va_P (dC, dI) pm_cls [(h0, .inr (6, [.ref q1, .ref q2])), (q1, .inl (cA, (5, .inl fun _ => 0))), (q2, .inr (5, [.ref q3, .ref q4, .int 0, .int 1])), (q3, .inl (cA, (32, .inl fun _ => 0))), (q4, .inl (cA, (32, .inl fun _ => 0)))] t.heap ∧ va_K (dC, dI) pm_cls [(cA, .int)] t ∧ va_D (va_A [(h0, .inr (6, [.null, .null]))] sz) [(h0, .inr (6, [.ref q1, .ref q2])), (q1, .inl (cA, (5, .inl fun _ => 0))), (q2, .inr (5, [.ref q3, .ref q4, .int 0, .int 1])), (q3, .inl (cA, (32, .inl fun _ => 0))), (q4, .inl (cA, (32, .inl fun _ => 0)))]) (va_A [(h0, .inr (6, [.null, .null]))] sz)) 4 73 (va_A [(h0, .inr (6, [.null, .null]))] sz) := by
  refine Met.ofW (cc := cb_Coder) (maxL := 1) (ret := none) (by decide) rfl ?_
  intro p e s m args below meth c s₁ B hml hv
  obtain ⟨rfl, hsz, hP, hK, hD0, hN⟩ := hv
  have hx := B.exec
  have hb := B.bytes
  have hr := B.returns
  have hts0 := atoms_spec (ws := cw_W cy_Coder cb_Coder 1) B.pre
  have hts : ∀ w ∈ cw_ws, w.before _ s = true := fun w hw => hts0 w (List.mem_cons_of_mem _ hw)
  have hown : s.vm.findClass "SevenPassImage$RowCoder" = some m.cls := findClass_of_methodNamed B.named
  have hlocks := B.notSynchronized
  have hin : meth.name = "<init>" := (name_of_methodNamed B.named B.method).1
  subst hsz
  have hD := hD0.self (sz := s.heap.size)
  generalize hAe : va_A [(h0, .inr (6, [.null, .null]))] s.heap.size = A at hD ⊢
  have hA : ∀ q : Nat, s.heap.size ≤ q → A q := fun q h => by rw [← hAe]; exact Or.inr h
  have hS : va_S A s.heap s.heap [] := va_S.rf
  have hP : va_P (dC, dI) pm_cls [(h0, .inr (6, [.null, .null]))] s.heap := hP
  have hl := lv_entry ([.ref h0]) (n := 1) (Nat.le_of_ble_eq_true rfl)
  rw [lg_entry_eq]
  generalize (lg_sl ([.ref h0]) ++ List.replicate (1 - (lg_sl ([.ref h0])).length) Slot.unset).toArray = ls at hl ⊢
  have hl : lv_has ls 1 [(0, .ref h0)] := hl
  refine lv_aload_n hx hb cd_Coder_0 rfl (lv_at hl 0 rfl) ?_
  refine W.objInit hx hb hown (hts _ (cw_m (i := 71) rfl)) (hts _ (cw_m (i := 0) rfl)) (hts _ (cw_m (i := 1) rfl)) rfl (by rw [hml]; exact hl.1) rfl cd_Coder_1 (Nat.le_of_ble_eq_true rfl) (Nat.le_of_ble_eq_true rfl) ?_
  refine W.eq (g2 := F0 m 4 ls []) rfl ?_
  refine lv_aload_n hx hb cd_Coder_4 rfl (lv_at hl 0 rfl) ?_
  refine lv_iconst (v := 5) hx hb cd_Coder_5 (by decide) ?_
  refine va_newa (D := (dC, dI)) (cl := pm_cls) (N' := 5) (a0 := (5, .inl fun _ => 0)) (ty := .int) hx hb (hts _ (cw_m (i := 2) rfl)) rfl hK hP hD hS hA (fun _ => rfl) (by decide) (by decide) (by decide) (Nat.le_of_ble_eq_true rfl) (Nat.le_of_ble_eq_true rfl) cd_Coder_6 (fun q1 cB H hK2 hP hD hS => ?_)
  rw [cw_A hK2] at hP hD
  have hP : va_P (dC, dI) pm_cls [(h0, .inr (6, [.null, .null])), (q1, .inl (cA, (5, .inl fun _ => 0)))] H := hP
  have hD : va_D A [(h0, .inr (6, [.null, .null])), (q1, .inl (cA, (5, .inl fun _ => 0)))] := hD
  refine W.widen (k := 1) (n := 5) (Nat.le_of_ble_eq_true rfl) (Nat.le_of_ble_eq_true rfl) ?_
  refine va_putF (D := (dC, dI)) (cl := pm_cls) (ci := 6) (v := .ref q1) (C := (pm_q 6).1) (T := (pm_q 6).2.1) (N := 2) hx hb hts (cw_u (a := 6) (by decide)) (pm_ty 6) (pm_cls_a 6 (by decide)) (pm_cls_b 6 (by decide)) hown hK hP hD hS 0 rfl rfl 0 (by decide) (hts _ (cw_m (i := 72) rfl)) (fun _ h9 => h9) rfl hin rfl (pm_cls_a 6 (by decide) 0 (by decide)) rfl rfl (Nat.le_of_ble_eq_true rfl) cd_Coder_8 (fun H locs hP hD hS => ?_)
  have hP : va_P (dC, dI) pm_cls [(h0, .inr (6, [.ref q1, .null])), (q1, .inl (cA, (5, .inl fun _ => 0)))] H := hP
  have hD : va_D A [(h0, .inr (6, [.ref q1, .null])), (q1, .inl (cA, (5, .inl fun _ => 0)))] := hD
  refine lv_aload_n hx hb cd_Coder_11 rfl (lv_at hl 0 rfl) ?_
  refine va_new (D := (dC, dI)) (cl := pm_cls) (ci := 5) (fs := [.null, .null, .int 0, .int 0]) (C := (pm_q 5).1) (T := (pm_q 5).2.1) (N := 4) hx hb hts (cw_u (a := 5) (by decide)) (pm_ty 5) (pm_cls_a 5 (by decide)) hown (hts _ (cw_m (i := 73) rfl)) (hts _ (cw_m (i := 26) rfl)) (hts _ (cw_m (i := 25) rfl)) hK hP hD hS hA rfl (by decide +kernel) (Nat.le_of_ble_eq_true rfl) (Nat.le_of_ble_eq_true rfl) cd_Coder_12 (fun q2 H hP hD hS => ?_)
  have hP : va_P (dC, dI) pm_cls [(h0, .inr (6, [.ref q1, .null])), (q1, .inl (cA, (5, .inl fun _ => 0))), (q2, .inr (5, [.null, .null, .int 0, .int 0]))] H := hP
  have hD : va_D A [(h0, .inr (6, [.ref q1, .null])), (q1, .inl (cA, (5, .inl fun _ => 0))), (q2, .inr (5, [.null, .null, .int 0, .int 0]))] := hD
  refine W.widen (k := 2) (n := 9) (Nat.le_of_ble_eq_true rfl) (Nat.le_of_ble_eq_true rfl) ?_
  refine lv_dup hx hb cd_Coder_15 rfl ?_
  have hPc := hP.sub (ws' := [(q2, .inr (5, [.null, .null, .int 0, .int 0]))]) [2] rfl
  have hDc := hD.sub (ws' := [(q2, .inr (5, [.null, .null, .int 0, .int 0]))]) [2] (by decide) rfl
  have hFc := va_free (wc := [(q2, .inr (5, [.null, .null, .int 0, .int 0]))]) hD hS hA [2] rfl
  refine va_callv (va_runIN (host := pm_host) (As := []) (rest := [.ref q2, .ref h0]) ⟨hx, hb, hml, hown, hts⟩ (c_Row l dC dI cA q2 H.size) ⟨va_cnB 0 hts (cw_goodIn (cw_m (i := 23) rfl)) rfl rfl rfl (hN _ (List.mem_of_getElem? (i := 4) rfl)) (hts _ (cw_m (i := 25) rfl)) (by decide +kernel) ⟨Nat.le_of_ble_eq_true rfl, Nat.le_of_ble_eq_true rfl⟩, rfl, (hts _ (cw_m (i := 24) rfl))⟩ ⟨fun a U g mk q => by obtain ⟨z0, z1, zP, zK, zD, zN⟩ := q; exact ⟨z0, z1, zP, va_K.moved (u := U) (U := U.calling g mk a) (Vm.Alike.refl U.vm) zK, zD, fun x hx => va_Nw.same rfl rfl (zN x hx)⟩, fun U hU hW => ⟨rfl, by rw [hU], by rw [hU]; exact hPc, va_K.moved hW.alike hK, hDc.weaken (fun _ _ _ _ => trivial), fun x hx => va_Nw.warmM hW (hN x hx)⟩⟩ rfl rfl hl.1 rfl (lv_room (Nat.le_of_ble_eq_true rfl)) cd_Coder_16 ⟨Nat.le_of_ble_eq_true rfl, Nat.le_of_ble_eq_true rfl⟩) hS (fun q _ h => hFc q h) hFc (fun u t H1 locs ht hvm _ hB hz1 hk1 hS => ?_)
  obtain ⟨q3, q4, hP1, hK1, hD1⟩ := hB
  rw [ht] at hP1
  obtain ⟨hP, hD⟩ := va_join (wr := [(h0, .inr (6, [.ref q1, .null])), (q1, .inl (cA, (5, .inl fun _ => 0)))]) (w1 := [(q2, .inr (5, [.ref q3, .ref q4, .int 0, .int 1])), (q3, .inl (cA, (32, .inl fun _ => 0))), (q4, .inl (cA, (32, .inl fun _ => 0)))]) hP hD [2] [0, 1] rfl rfl (by decide) (by decide) hk1 hFc hP1 hD1
  generalize H1 = H at hP hS ⊢
  have hP : va_P (dC, dI) pm_cls [(h0, .inr (6, [.ref q1, .null])), (q1, .inl (cA, (5, .inl fun _ => 0))), (q2, .inr (5, [.ref q3, .ref q4, .int 0, .int 1])), (q3, .inl (cA, (32, .inl fun _ => 0))), (q4, .inl (cA, (32, .inl fun _ => 0)))] H := hP
  have hD : va_D A [(h0, .inr (6, [.ref q1, .null])), (q1, .inl (cA, (5, .inl fun _ => 0))), (q2, .inr (5, [.ref q3, .ref q4, .int 0, .int 1])), (q3, .inl (cA, (32, .inl fun _ => 0))), (q4, .inl (cA, (32, .inl fun _ => 0)))] := hD
  refine W.widen (k := 4) (n := 73) (Nat.le_of_ble_eq_true rfl) (Nat.le_of_ble_eq_true rfl) ?_
  refine va_putF (D := (dC, dI)) (cl := pm_cls) (ci := 6) (v := .ref q2) (C := (pm_q 6).1) (T := (pm_q 6).2.1) (N := 2) hx hb hts (cw_u (a := 6) (by decide)) (pm_ty 6) (pm_cls_a 6 (by decide)) (pm_cls_b 6 (by decide)) hown hK hP hD hS 0 rfl rfl 1 (by decide) (hts _ (cw_m (i := 74) rfl)) (fun _ h9 => h9) rfl hin rfl (pm_cls_a 6 (by decide) 1 (by decide)) rfl rfl (Nat.le_of_ble_eq_true rfl) cd_Coder_19 (fun H locs hP hD hS => ?_)
  have hP : va_P (dC, dI) pm_cls [(h0, .inr (6, [.ref q1, .ref q2])), (q1, .inl (cA, (5, .inl fun _ => 0))), (q2, .inr (5, [.ref q3, .ref q4, .int 0, .int 1])), (q3, .inl (cA, (32, .inl fun _ => 0))), (q4, .inl (cA, (32, .inl fun _ => 0)))] H := hP
  have hD : va_D A [(h0, .inr (6, [.ref q1, .ref q2])), (q1, .inl (cA, (5, .inl fun _ => 0))), (q2, .inr (5, [.ref q3, .ref q4, .int 0, .int 1])), (q3, .inl (cA, (32, .inl fun _ => 0))), (q4, .inl (cA, (32, .inl fun _ => 0)))] := hD
  exact W.vret hx hb hr (fun t ht hW => ⟨⟨(), rfl, trivial, q1, q2, q3, q4, by rw [ht]; exact hP, va_K.moved hW.alike hK, hD⟩, hS.F ht⟩) hS.2.2 cd_Coder_22
