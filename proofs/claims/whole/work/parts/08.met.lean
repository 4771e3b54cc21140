set_option maxHeartbeats 4000000 in
theorem pm_met {l : Launch} {D : va_G} {cA : ClassId} {ad : Nat → Nat} {A : Nat → Prop} {S : Nat} {ro : pm_M} : ∀ (d j : Nat) (vs : List pm_V) (M : pm_M) (Q : pm_Q), pm_PC S d j vs M Q → j < 160 ∧ Met l (pm_y j) (pm_W j) (pm_rm j) (pm_Pc D cA ad A S ro M vs) (pm_Qc D cA ad A ro Q) 0 0 A
  | 0, _, _, _, _, h => h.elim
  | d + 1, j, vs, M, Q, h => by
    obtain ⟨hj, hc, hlen, hR⟩ := h
    refine ⟨hj, Met.ofW (cc := pm_b j) (maxL := pm_ml j) (ret := pm_rt j) (pm_plain hj) rfl ?_⟩
    intro p e s m args below meth c s₁ B hml hv
    obtain ⟨rfl, hI, hH⟩ := hv
    have hts := atoms_spec (ws := pm_W j) B.pre
    have hown : s.vm.findClass (pm_y j).cls = some m.cls := findClass_of_methodNamed B.named
    have hlocks := B.notSynchronized
    have hr : meth.sig.returnType = pm_rt j := B.returns
    have hl := pm_LR.entry (ad := ad) (n := pm_ml j) hc hlen
    rw [lg_entry_eq]
    refine pm_walk (pm_PC S d) j Q (by omega) B.exec B.bytes hml hown (fun w hw => hts w (List.mem_cons_of_mem _ hw)) hI (Nat.le_refl _) (Nat.le_refl _) (Nat.le_refl _) (Nat.le_refl _) (fun a vs M Q h => pm_met d a vs M Q h) ?_ ?_ ?_ 0 _ [] M hR _ s.heap [] hl hH va_S.rf
    · intro pc ls H locs v M' hdg hro hq hH' hS
      cases hrt : pm_rt j with
      | none => rw [hrt] at hro; exact hro.elim
      | some ty =>
        rw [hrt] at hro hr
        cases ty <;> first | exact hro.elim | skip
        · exact W.iret B.exec B.bytes hr (fun t ht hW => ⟨⟨some (.inl v), M', rfl, hq, by rw [ht]; exact hH'⟩, hS.F ht⟩) hS.2.2 hdg
        · exact W.zret B.exec B.bytes hr (show Value.int (v &&& 1) = .int v by rw [show v &&& 1 = v from hro]) (fun t ht hW => ⟨⟨some (.inl v), M', rfl, hq, by rw [ht]; exact hH'⟩, hS.F ht⟩) hS.2.2 hdg
    · intro pc ls H locs v M' hdg hrt hq hH' hS
      rw [hrt] at hr
      exact W.lret B.exec B.bytes hr (fun t ht hW => ⟨⟨some (.inr (.inl v)), M', rfl, hq, by rw [ht]; exact hH'⟩, hS.F ht⟩) hS.2.2 hdg
    · intro pc ls H locs M' hdg hrt hq hH' hS
      rw [hrt] at hr
      exact W.vret B.exec B.bytes hr (fun t ht hW => ⟨⟨none, M', rfl, hq, by rw [ht]; exact hH'⟩, hS.F ht⟩) hS.2.2 hdg
