/-! SevenPassImage: read, seal. -/
theorem fa_go_ls {F : List Int32} : ∀ (n k : Nat) (de : Option Nat) (P : List Int32) (ls : Nat) (P' : List Int32) (ls' : Nat), fa_go F n k de P ls = some (P', ls') → ls ≤ F.length → ls' ≤ F.length
  | 0, _, _, _, _, _, _, h, _ => by cases h
  | n + 1, k, de, P, ls, P', ls', h, hl => by
    unfold fa_go at h
    split at h
    · split at h
      · cases h
      · cases h; exact hl
    · rename_i hk
      split at h
      · cases h
      · split at h
        · split at h
          · split at h
            · exact fa_go_ls n _ _ _ _ _ _ h (by omega)
            · cases h
          · exact fa_go_ls n _ _ _ _ _ _ h (by omega)
        · cases h
theorem fa_ls {F P : List Int32} {ls : Nat} (h : fa F = some (P, ls)) : ls ≤ F.length := by
  unfold fa at h
  split at h
  · exact fa_go_ls _ _ _ _ _ _ _ h (Nat.zero_le _)
  · cases h
section READ
variable {S d : Nat} {Q : pm_Q} {M : pm_M} {kd dp w h : Nat} {f : Nat → Nat → Nat → Int32} {F : List Int32} {cc : Int32} {rc : Nat → Int32}
theorem im_is.keep {M' : pm_M} {ks : List Nat} (hi : im_is M kd dp w h f F cc rc) (ha : pm_ag ks M M') (h0 : 0 ∉ ks) (h2 : 2 ∉ ks) (h3 : 2 + 1 ∉ ks) (h11 : 11 ∉ ks) (hp : ∀ b, pc_b b → M 0 3 = nI b → b ∉ ks ∧ b + 1 ∉ ks) : im_is M' kd dp w h f F cc rc := by
  obtain ⟨b, b', hbb, i1, i2, i3, i4, i5, i6⟩ := hi
  obtain ⟨hb, hb'⟩ := im_b hbb
  have hk := hp b hb i1
  exact ⟨b, b', hbb, by rw [ha 0 h0]; exact i1, by rw [ha 0 h0]; exact i2, i3.keep ha hk.1 hk.2, i4.keep ha h2 h3, by rw [ha 0 h0]; exact i5, fun i hi => by rw [ha 11 h11]; exact i6 i hi⟩
def rd_7 (F : List Int32) : Int32 := if un_p F 28 = 1 then 1 else 0
theorem w_Img_swap {b b' : Nat} (hb : pc_b b) (hb' : pc_b b') (h3 : M 0 3 = nI b) (h4 : M 0 4 = nI b') (hq : ∀ M', M' 0 3 = nI b' → M' 0 4 = nI b → (∀ j, j ≠ 3 → j ≠ 4 → M' 0 j = M 0 j) → pm_ag [0] M M' → Q none M') : pm_PC S (d + 1) 83 [.inr (.inr 0)] M Q := by
  refine e_Img_swapPictures (k_Img_swapPictures_0 ?_)
  rw [im_cl hb h3]
  refine k_Img_swapPictures_4 hb ?_
  rw [im_cl hb' h4]
  refine k_Img_swapPictures_10 hb' hb (by rcases hb' with rfl | rfl <;> decide) (by rcases hb with rfl | rfl <;> decide) (hq _ ?_ pm_up_hit (fun j j3 j4 => ?_) ?_)
  · rw [pm_up_off (Or.inr (by decide)), pm_up_hit]
    rfl
  · rw [pm_up_off (Or.inr j4), pm_up_off (Or.inr j3)]
  · exact (pm_ag.up (by simp)).tr (pm_ag.up (by simp))
theorem w_Img_read (hst : ps_is M) (hfb : fx_b F) (hi : im_is M kd dp w h f F cc rc)
    (h2 : fa F = none → ∀ M', im_is M' kd dp w h f F cc rc → pm_ag im_ks M M' → Q (some (.inl (-2))) M')
    (h3 : ∀ P ls, fa F = some (P, ls) → ¬ fa_hd F ls → ∀ M', im_is M' kd dp w h f F cc rc → pm_ag im_ks M M' → Q (some (.inl (-3))) M')
    (h4 : ∀ P ls, fa F = some (P, ls) → fa_hd F ls → un_all P = none → ∀ M', im_is M' kd dp w h f F cc rc → pm_ag im_ks M M' → Q (some (.inl (-4))) M')
    (h5 : ∀ P ls D n kd' dp' w' h', fa F = some (P, ls) → fa_hd F ls → un_all P = some (D, n) → pc_ok kd' dp' w' h' → un_p F 25 = nI kd' → un_p F 24 = nI dp' → by_num F 16 = nI w' → by_num F 20 = nI h' → ¬ fi_of D kd' dp' w' h' (rd_7 F) → ∀ M', im_is M' kd dp w h f F cc rc → pm_ag im_ks M M' → Q (some (.inl (-5))) M')
    (h0 : ∀ P ls D n kd' dp' w' h', fa F = some (P, ls) → fa_hd F ls → un_all P = some (D, n) → pc_ok kd' dp' w' h' → un_p F 25 = nI kd' → un_p F 24 = nI dp' → by_num F 16 = nI w' → by_num F 20 = nI h' → fi_of D kd' dp' w' h' (rd_7 F) → ∀ M', im_is M' kd' dp' w' h' (de_of kd' dp' w' h' D (rd_7 F)).1 F (nI n) (de_of kd' dp' w' h' D (rd_7 F)).2 → pm_ag im_ks M M' → Q (some (.inl 0)) M') : pm_PC S (d + 7) 82 [.inr (.inr 0)] M Q := by
  have hi0 := hi
  obtain ⟨b, b', hbb, i1, i2, i3, i4, i5, i6⟩ := hi
  obtain ⟨hb, hb'⟩ := im_b hbb
  have h700 := i4.lt (Or.inl rfl)
  refine e_Img_read (k_Img_read_0 (w_File_gatherData i4 hfb hst (fun P ls hfa M1 g1 l1 a1 => k_Img_read_17 (fun _ => k_Img_read_23 ?_) (fun z => absurd (by decide) z)) (fun hfa M1 a1 => k_Img_read_17 (fun z => absurd rfl z) (fun _ => k_Img_read_20 (h2 hfa M1 ?_ (a1.wd (by decide)))))))
  · have hls := fa_ls hfa
    have A1 : pm_ag im_ks M M1 := a1.wd (by decide)
    have hI1 : im_is M1 kd dp w h f F cc rc := hi0.keep a1 (by decide) (by decide) (by decide) (by decide) (fun b hb _ => by rcases hb with rfl | rfl <;> decide)
    have e1 : M1 0 4 = nI b' := by rw [a1 0 (by decide)]; exact i2
    have e1' : M1 0 3 = nI b := by rw [a1 0 (by decide)]; exact i1
    have i41 := i4.keep a1 (by decide) (by decide)
    have s1 : ps_is M1 := hst.keep a1 (by decide)
    rw [im_cl hb' e1]
    refine k_Img_read_31 hb' (w_File_takeHead hb' i41 l1 (by omega) (fun hhd kd' dp' w' h' hok' q1 q2 q3 q4 M2 p2 a2 => k_Img_read_34 (fun _ => k_Img_read_40 ?_) (fun z => absurd (by decide) z)) (fun hhd => k_Img_read_34 (fun z => absurd rfl z) (fun _ => k_Img_read_37 (h3 P ls hfa hhd M1 hI1 A1))))
    have nb : 0 ∉ [b', b' + 1] ∧ 2 ∉ [b', b' + 1] ∧ 2 + 1 ∉ [b', b' + 1] ∧ 11 ∉ [b', b' + 1] ∧ 8 ∉ [b', b' + 1] ∧ 8 + 1 ∉ [b', b' + 1] ∧ b ∉ [b', b' + 1] ∧ b + 1 ∉ [b', b' + 1] ∧ (∀ k ∈ [b', b' + 1], k < 26) ∧ (∀ k ∈ [b', b' + 1], k ∈ im_ks) := by
      rcases hbb with ⟨rfl, rfl⟩ | ⟨rfl, rfl⟩ <;> decide
    have ne : b = 15 ∧ b' = 17 ∨ b = 17 ∧ b' = 15 := hbb
    have hbe : ∀ (N : pm_M) (x : Nat), N 0 3 = nI b → pc_b x → N 0 3 = nI x → x = b := by
      intro N x e1 hx e2
      rw [e1] at e2
      exact ((nI_eq (by rcases hb with rfl | rfl <;> decide) (by rcases hx with rfl | rfl <;> decide)).mp e2).symm
    have A2 : pm_ag im_ks M M2 := A1.of a2 nb.2.2.2.2.2.2.2.2.2
    have hI2 : im_is M2 kd dp w h f F cc rc := hI1.keep a2 nb.1 nb.2.1 nb.2.2.1 nb.2.2.2.1 (fun x hx ex => by rw [hbe M1 x e1' hx ex]; exact ⟨nb.2.2.2.2.2.2.1, nb.2.2.2.2.2.2.2.1⟩)
    have e2 : M2 0 4 = nI b' := by rw [a2 0 nb.1]; exact e1
    have e2' : M2 0 3 = nI b := by rw [a2 0 nb.1]; exact e1'
    have g2 := g1.keep a2 nb.2.2.2.2.1 nb.2.2.2.2.2.1
    have s2 : ps_is M2 := s1.keep a2 nb.2.2.2.2.2.2.2.2.1
    have nu : 0 ∉ uk_ks ∧ 2 ∉ uk_ks ∧ 2 + 1 ∉ uk_ks ∧ 11 ∉ uk_ks ∧ b' ∉ uk_ks ∧ b' + 1 ∉ uk_ks ∧ b ∉ uk_ks ∧ b + 1 ∉ uk_ks := by
      rcases hbb with ⟨rfl, rfl⟩ | ⟨rfl, rfl⟩ <;> decide
    refine w_Pack_unpack g2 (fun D n hun M3 d3 c3 a3 => k_Img_read_47 (fun _ => k_Img_read_53 ?_) (fun z => absurd (by decide) z)) (fun hun M3 a3 => k_Img_read_47 (fun z => absurd rfl z) (fun _ => k_Img_read_50 (h4 P ls hfa hhd hun M3 ?_ (A2.of a3 (by decide)))))
    · have A3 : pm_ag im_ks M M3 := A2.of a3 (by decide)
      have hI3 : im_is M3 kd dp w h f F cc rc := hI2.keep a3 nu.1 nu.2.1 nu.2.2.1 nu.2.2.2.1 (fun x hx ex => by rw [hbe M2 x e2' hx ex]; exact ⟨nu.2.2.2.2.2.2.1, nu.2.2.2.2.2.2.2⟩)
      have e3 : M3 0 4 = nI b' := by rw [a3 0 nu.1]; exact e2
      have e3' : M3 0 3 = nI b := by rw [a3 0 nu.1]; exact e2'
      have p3 := p2.keep a3 nu.2.2.2.2.1 nu.2.2.2.2.2.1
      have s3 : ps_is M3 := s2.keep a3 (by decide)
      have i43 : by_is M3 2 F := (i41.keep a2 nb.2.1 nb.2.2.1).keep a3 (by decide) (by decide)
      have fin : ∀ x, x = rd_7 F → pm_R S (pm_PC S (d + 6)) Q 82 60 [some (.inr (.inr 0)), none] [.inl x] M3 := by
        rintro x rfl
        refine k_Img_read_60 ?_
        rw [im_cl hb' e3]
        refine k_Img_read_72 hb' (w_Coder_fits hb' hok' p3.1 s3 d3 (fun hfi => k_Img_read_76 (fun _ => k_Img_read_82 ?_) (fun z => absurd (by decide) z)) (fun hfi => k_Img_read_76 (fun z => absurd rfl z) (fun _ => k_Img_read_79 (h5 P ls D n kd' dp' w' h' hfa hhd hun hok' q1 q2 q3 q4 hfi M3 hI3 A3))))
        rw [im_cl hb' e3]
        refine k_Img_read_97 hb' (w_Coder_decode hb' hok' p3 s3 d3 hfi (fun M4 p4 c4 a4 => k_Img_read_101 ?_))
        have nd : 0 ∉ de_ks b' ∧ 2 ∉ de_ks b' ∧ 2 + 1 ∉ de_ks b' ∧ 4 ∉ de_ks b' ∧ (∀ k ∈ de_ks b', k ∈ im_ks) ∧ b' ∉ [0] ∧ b' + 1 ∉ [0] := by
          rcases hb' with rfl | rfl <;> decide
        have A4 : pm_ag im_ks M M4 := A3.of a4 nd.2.2.2.2.1
        rw [a4 4 nd.2.2.2.1, c3]
        have a5 : pm_ag [0] M4 (pm_up M4 0 5 (nI n)) := pm_ag.up (by simp)
        refine w_Img_swap hb hb' (by rw [pm_up_off (Or.inr (by decide)), a4 0 nd.1]; exact e3') (by rw [pm_up_off (Or.inr (by decide)), a4 0 nd.1]; exact e3) (fun M6 m1 m2 m3 a6 => k_Img_read_116 (h0 P ls D n kd' dp' w' h' hfa hhd hun hok' q1 q2 q3 q4 hfi M6 ?_ ?_))
        · refine ⟨b', b, hbb.symm.imp And.symm And.symm, m1, m2, (p4.keep a5 nd.2.2.2.2.2.1 nd.2.2.2.2.2.2).keep a6 nd.2.2.2.2.2.1 nd.2.2.2.2.2.2, ((i43.keep a4 nd.2.1 nd.2.2.1).keep a5 (by decide) (by decide)).keep a6 (by decide) (by decide), ?_, fun i hi => ?_⟩
          · rw [m3 5 (by decide) (by decide), pm_up_hit]
          · rw [a6 11 (by decide), a5 11 (by decide)]
            exact c4 i hi
        · exact (A4.of a5 (by decide)).of a6 (by decide)
      exact w_File_saysSeven i43 (fun e => fin 1 (by rw [rd_7, if_pos e])) (fun e => fin 0 (by rw [rd_7, if_neg e]))
    · exact hI2.keep a3 nu.1 nu.2.1 nu.2.2.1 nu.2.2.2.1 (fun x hx ex => by rw [hbe M2 x e2' hx ex]; exact ⟨nu.2.2.2.2.2.2.1, nu.2.2.2.2.2.2.2⟩)
  · exact hi0.keep a1 (by decide) (by decide) (by decide) (by decide) (fun b hb _ => by rcases hb with rfl | rfl <;> decide)
theorem w_Img_seal {k : Int32} (hfb : fx_b F) (hi : im_is M kd dp w h f F cc rc) (hy : ∀ (i : Nat) (F' : List Int32), k = nI i → fx_seal F i = some F' → ∀ M', im_is M' kd dp w h f F' cc rc → pm_ag im_ks M M' → Q (some (.inl 1)) M') (hn : (∀ i : Nat, i < 1000 → k = nI i → fx_seal F i = none) → Q (some (.inl 0)) M) : pm_PC S (d + 5) 90 [.inr (.inr 0), .inl k] M Q := by
  obtain ⟨b, b', hbb, i1, i2, i3, i4, i5, i6⟩ := hi
  obtain ⟨hb, hb'⟩ := im_b hbb
  refine e_Img_seal (k_Img_seal_0 (w_File_putCheck i4 hfb (fun i F' ek hF M1 g1 a1 => k_Img_seal_8 (by decide) (hy i F' ek hF M1 ?_ (a1.wd (by decide)))) (fun hno => k_Img_seal_8 (by decide) (hn hno))))
  have nb : b ∉ [2, 2 + 1] ∧ b + 1 ∉ [2, 2 + 1] := by rcases hb with rfl | rfl <;> decide
  exact ⟨b, b', hbb, by rw [a1 0 (by decide)]; exact i1, by rw [a1 0 (by decide)]; exact i2, i3.keep a1 nb.1 nb.2, g1, by rw [a1 0 (by decide)]; exact i5, fun i hi => by rw [a1 11 (by decide)]; exact i6 i hi⟩
end READ
