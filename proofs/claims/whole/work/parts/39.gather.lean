/-! ChunkFile: the packed bytes are gathered, the head is taken. -/
/-- from chunk k on: the packed bytes and the last chunk's place, or nothing -/
def fa_go (F : List Int32) : Nat → Nat → Option Nat → List Int32 → Nat → Option (List Int32 × Nat)
  | 0, _, _, _, _ => none
  | n + 1, k, de, P, ls =>
    if F.length ≤ k then (if de = none then none else some (P, ls))
    else match fx_end F k with
      | none => none
      | some e =>
        if fa_ck F k e ∧ fa_ms F k e then
          (if by_num F (k + 4) = 1229209940 then
            (if de = none ∨ de = some k then fa_go F n e (some e) (P ++ by_sl F (k + 8) (e - 4 - (k + 8))) k else none)
          else fa_go F n e de P k)
        else none
def fa (F : List Int32) : Option (List Int32 × Nat) := if fa_sg F 8 then fa_go F (F.length + 1) 8 none [] 0 else none
def fa_x (de : Option Nat) : Int32 := match de with
  | none => -1
  | some e => nI e
theorem fa_xn {n : Nat} (h : n < 1000) : ¬ nI n = -1 := by
  intro z
  have z2 := congrArg Int32.toInt z
  rw [nI_toInt (by omega)] at z2
  have : (-1 : Int32).toInt = -1 := by decide
  omega
theorem w_gd_loop {S d : Nat} {Q : pm_Q} {M0 : pm_M} {F : List Int32} (hb : fx_b F) (hy : ∀ P ls, fa F = some (P, ls) → ∀ M', by_is M' 8 P → M' 1 1 = nI ls → pm_ag [1, 8, 9] M0 M' → Q (some (.inl 1)) M') (hn : fa F = none → ∀ M', pm_ag [1, 8, 9] M0 M' → Q (some (.inl 0)) M') :
    ∀ (n k : Nat) (de : Option Nat) (P : List Int32) (ls num : Nat) (M : pm_M) (l5 : Option pm_V), fa_go F n k de P ls = fa F → F.length < k + n → 12 * num + 8 ≤ k → P.length ≤ k → (∀ e, de = some e → e ≤ k ∧ e < 1000 ∧ M 1 1 = nI ls) → k ≤ F.length → k < 1000 → by_is M 2 F → by_is M 8 P → pm_ag [1, 8, 9] M0 M → pm_R S (pm_PC S (d + 3)) Q 71 23 [some (.inr (.inr 1)), some (.inr (.inr 8)), some (.inl (nI k)), some (.inl (fa_x de)), some (.inl (nI num)), l5] [] M := by
  intro n
  induction n with
  | zero =>
    intro k de P ls num M l5 hg hk hnum hP hde hkF hk1 h2 h8 ha
    exfalso
    omega
  | succ n ih =>
    intro k de P ls num M l5 hg hk hnum hP hde hkF hk1 h2 h8 ha
    have b2 : by_b 2 := Or.inl rfl
    have h700 := h2.lt b2
    have hnum7 : num < 700 := by omega
    have hend : F.length ≤ k → pm_R S (pm_PC S (d + 3)) Q 71 137 [some (.inr (.inr 1)), some (.inr (.inr 8)), some (.inl (nI k)), some (.inl (fa_x de)), some (.inl (nI num)), l5] [] M := by
      intro hle
      unfold fa_go at hg
      rw [if_pos hle] at hg
      cases de with
      | none =>
        rw [if_pos rfl] at hg
        exact k_File_gatherData_137 (fun _ => k_File_gatherData_146 (k_File_gatherData_147 (by decide) (hn hg.symm M ha))) (fun z => absurd rfl z)
      | some e =>
        rw [if_neg (by simp)] at hg
        obtain ⟨q1, q2, q3⟩ := hde e rfl
        exact k_File_gatherData_137 (fun z => absurd z (fa_xn q2)) (fun _ => k_File_gatherData_142 (k_File_gatherData_147 (by decide) (hy P ls hg.symm M h8 q3 ha)))
    refine k_File_gatherData_23 (fun z => absurd z (nI_ge (b := 700) (by omega) (by decide))) (fun _ => k_File_gatherData_31 (fun z => hend ?_) (fun z => k_File_gatherData_42 ?_))
    · rw [h2.1, nI_leI (by omega) (by omega)] at z
      exact z
    · rw [h2.1, nI_leI (by omega) (by omega)] at z
      unfold fa_go at hg
      rw [if_neg z] at hg
      refine w_File_chunkEnd h2 hb (fun i e ei he => ?_) (fun hno => ?_)
      · have ei := (nI_eq (by omega) (by
          have := fx_end_ok he
          omega)).mp ei
        subst ei
        rw [he] at hg
        simp only at hg
        obtain ⟨o1, o2, o3⟩ := fx_end_ok he
        refine k_File_gatherData_47 (fun z => absurd z (fa_xn (by omega))) (fun _ => k_File_gatherData_55 ?_)
        refine w_File_checkIsRight h2 ⟨o1, o2⟩ (fun hck => k_File_gatherData_62 (fun z => absurd z (by decide)) (fun _ => k_File_gatherData_65 ?_)) (fun hck => k_File_gatherData_62 (fun _ => k_File_gatherData_75 (hn ?_ M ha)) (fun z => absurd rfl z))
        · refine w_File_mayStand h2 (by omega) (by omega) (fun hms => k_File_gatherData_72 (fun _ => k_File_gatherData_77 ?_) (fun z => absurd (by decide) z)) (fun hms => k_File_gatherData_72 (fun z => absurd rfl z) (fun _ => k_File_gatherData_75 (hn ?_ M ha)))
          · rw [if_pos ⟨hck, hms⟩] at hg
            rw [show (4 : Int32) = nI 4 from rfl, nI_add]
            refine w_Bytes_numberAt b2 h2 (by omega) (k_File_gatherData_87 (fun z => k_File_gatherData_123 ?_) (fun z => ?_))
            · rw [if_neg z] at hg
              rw [nI_1]
              have au : pm_ag [1, 8, 9] M (pm_up M 1 1 (nI k)) := pm_ag.up (by simp)
              refine ih e de P k (num + 1) _ _ hg (by omega) (by omega) (by omega) (fun e' q => ⟨by have := hde e' q; omega, (hde e' q).2.1, pm_up_hit⟩) o2 (by omega) (h2.keep au (by decide) (by decide)) ?_ (ha.tr au)
              exact h8.keep (ks := [1]) (pm_ag.up (by simp)) (by decide) (by decide)
            · have z := Classical.not_not.mp z
              rw [if_pos z] at hg
              have hgo : (de = none ∨ de = some k) → ∀ l3, pm_R S (pm_PC S (d + 3)) Q 71 104 [some (.inr (.inr 1)), some (.inr (.inr 8)), some (.inl (nI k)), l3, some (.inl (nI num)), some (.inl (nI e))] [] M := by
                intro hd l3
                rw [if_pos hd] at hg
                refine k_File_gatherData_104 ?_
                rw [show (8 : Int32) = nI 8 from rfl, nI_add, show (4 : Int32) = nI 4 from rfl, pk_sub (by omega)]
                refine w_Bytes_addAll (Or.inr (Or.inr rfl)) b2 (by decide) h2 h8 (by omega) (by omega) (Nat.le_trans (show _ ≤ 700 by omega) (by decide)) (fun M1 g1 a1 => k_File_gatherData_120 (k_File_gatherData_123 ?_))
                rw [nI_1]
                have au : pm_ag [1, 8, 9] M1 (pm_up M1 1 1 (nI k)) := pm_ag.up (by simp)
                have a1' : pm_ag [1, 8, 9] M M1 := a1.wd (by decide)
                refine ih e (some e) _ k (num + 1) _ _ hg (by omega) (by omega) ?_ (fun e' q => ?_) o2 (by omega) ((h2.keep a1' (by decide) (by decide)).keep au (by decide) (by decide)) ?_ ((ha.tr a1').tr au)
                · rw [List.length_append]
                  unfold by_sl
                  rw [List.length_take]
                  omega
                · cases q
                  exact ⟨Nat.le_refl _, by omega, pm_up_hit⟩
                · exact g1.keep (ks := [1]) (pm_ag.up (by simp)) (by decide) (by decide)
              cases de with
              | none => exact k_File_gatherData_92 (fun _ => hgo (Or.inl rfl) _) (fun z => absurd rfl z)
              | some e0 =>
                obtain ⟨q1, q2, q3⟩ := hde e0 rfl
                refine k_File_gatherData_92 (fun z => absurd z (fa_xn q2)) (fun _ => k_File_gatherData_97 (fun z => hgo (Or.inr ?_) _) (fun z => k_File_gatherData_102 (hn ?_ M ha)))
                · rw [(nI_eq (by omega) (by omega)).mp z]
                · rw [if_neg] at hg
                  · exact hg.symm
                  · rintro (q | q)
                    · cases q
                    · cases q
                      exact z rfl
          · rw [if_neg (fun q => hms q.2)] at hg
            exact hg.symm
        · rw [if_neg (fun q => hck q.1)] at hg
          exact hg.symm
      · rw [hno k (by omega) rfl] at hg
        exact k_File_gatherData_47 (fun _ => k_File_gatherData_75 (hn hg.symm M ha)) (fun z => absurd rfl z)
theorem fa_sg8 {F : List Int32} (h : fa_sg F 8) : 8 ≤ F.length := by
  have h7 := h 7 (by decide)
  by_cases hc : 7 < F.length
  · exact hc
  · rw [List.getElem?_eq_none (by omega)] at h7
    exact absurd h7 (by decide)
theorem w_File_gatherData {S d : Nat} {Q : pm_Q} {M : pm_M} {F : List Int32} (h2 : by_is M 2 F) (hb : fx_b F) (hst : ps_is M) (hy : ∀ P ls, fa F = some (P, ls) → ∀ M', by_is M' 8 P → M' 1 1 = nI ls → pm_ag [1, 8, 9] M M' → Q (some (.inl 1)) M') (hn : fa F = none → ∀ M', pm_ag [1, 8, 9] M M' → Q (some (.inl 0)) M') : pm_PC S (d + 4) 71 [.inr (.inr 1), .inr (.inr 8)] M Q := by
  refine e_File_gatherData (k_File_gatherData_0 (w_Bytes_clear (Or.inr (Or.inr rfl)) (fun M1 g1 a1 => k_File_gatherData_4 ?_)))
  have a1' : pm_ag [1, 8, 9] M M1 := a1.wd (by decide)
  have h21 : by_is M1 2 F := h2.keep a1' (by decide) (by decide)
  have h700 := h21.lt (Or.inl rfl)
  have hst1 : ps_is M1 := fun i hi => by
    rw [a1' 26 (by decide), a1' 27 (by decide), a1' 28 (by decide), a1' 29 (by decide), a1' 30 (by decide)]
    exact hst i hi
  refine w_File_beginsRight h21 hst1 (fun hs => k_File_gatherData_8 (fun _ => k_File_gatherData_13 ?_) (fun z => absurd (by decide) z)) (fun hs => k_File_gatherData_8 (fun z => absurd rfl z) (fun _ => k_File_gatherData_11 (hn ?_ M1 a1')))
  · refine w_gd_loop hb hy hn (F.length + 1) 8 none [] 0 0 M1 _ ?_ (by omega) (by decide) (by decide) (fun e q => by cases q) (fa_sg8 hs) (by decide) h21 g1 a1'
    unfold fa
    rw [if_pos hs]
  · unfold fa
    rw [if_neg hs]
theorem w_File_saysSeven {S d : Nat} {Q : pm_Q} {M : pm_M} {F : List Int32} (h2 : by_is M 2 F) (hy : un_p F 28 = 1 → Q (some (.inl 1)) M) (hn : ¬ un_p F 28 = 1 → Q (some (.inl 0)) M) : pm_PC S (d + 2) 76 [.inr (.inr 1)] M Q := by
  refine e_File_saysSeven (k_File_saysSeven_0 (w_Bytes_at (Or.inl rfl) h2 ?_))
  rw [show (28 : Int32) = nI 28 from rfl, by_at_nI (by decide)]
  exact k_File_saysSeven_9 (fun z => k_File_saysSeven_17 (k_File_saysSeven_18 (by decide) (hn z))) (fun z => k_File_saysSeven_13 (k_File_saysSeven_18 (by decide) (hy (Classical.not_not.mp z))))
/-- the head and the last chunk are right -/
def fa_hd (F : List Int32) (ls : Nat) : Prop := by_num F 8 = 13 ∧ by_num F ls = 0 ∧ pc_v (un_p F 25) (un_p F 24) (by_num F 16) (by_num F 20) ∧ un_p F 26 = 0 ∧ un_p F 27 = 0 ∧ un_p F 28 ≤ 1
theorem w_File_takeHead {S d b : Nat} {Q : pm_Q} {M : pm_M} {F : List Int32} {ls : Nat} (hpb : pc_b b) (h2 : by_is M 2 F) (hls : M 1 1 = nI ls) (hl : ls < 1000) (hy : fa_hd F ls → ∀ kd dp w h, pc_ok kd dp w h → un_p F 25 = nI kd → un_p F 24 = nI dp → by_num F 16 = nI w → by_num F 20 = nI h → ∀ M', pc_is M' b kd dp w h (fun _ _ _ => 0) → pm_ag [b, b + 1] M M' → Q (some (.inl 1)) M') (hn : ¬ fa_hd F ls → Q (some (.inl 0)) M) : pm_PC S (d + 3) 75 [.inr (.inr 1), .inr (.inr b)] M Q := by
  have b2 : by_b 2 := Or.inl rfl
  refine e_File_takeHead (k_File_takeHead_0 (w_Bytes_numberAt (i := 8) b2 h2 (by decide) (k_File_takeHead_11 (fun z => k_File_takeHead_30 (hn (fun q => z q.1))) (fun z1 => k_File_takeHead_16 ?_))))
  have z1 := Classical.not_not.mp z1
  rw [hls]
  refine w_Bytes_numberAt b2 h2 hl (k_File_takeHead_27 (fun z2 => k_File_takeHead_32 ?_) (fun z => k_File_takeHead_30 (hn (fun q => z q.2.1))))
  refine w_Bytes_numberAt (i := 16) b2 h2 (by decide) (k_File_takeHead_41 hpb (w_Bytes_numberAt (i := 20) b2 h2 (by decide) (k_File_takeHead_51 (w_Bytes_at b2 h2 (k_File_takeHead_61 (w_Bytes_at b2 h2 (k_File_takeHead_72 (w_Bytes_at b2 h2 (k_File_takeHead_83 ?_)))))))))
  rw [show by_at F 24 = un_p F 24 from by_at_nI (i := 24) (by decide), show by_at F 25 = un_p F 25 from by_at_nI (i := 25) (by decide), show by_at F 28 = un_p F 28 from by_at_nI (i := 28) (by decide)]
  refine w_Pict_canBe (fun hv => k_File_takeHead_94 (fun z => absurd z (by decide)) (fun _ => k_File_takeHead_97 (w_Bytes_at b2 h2 ?_))) (fun hv => k_File_takeHead_94 (fun _ => k_File_takeHead_127 (hn (fun q => hv q.2.2.1))) (fun z => absurd rfl z))
  rw [show by_at F 26 = un_p F 26 from by_at_nI (i := 26) (by decide)]
  refine k_File_takeHead_106 (fun z => k_File_takeHead_127 (hn (fun q => z q.2.2.2.1))) (fun z3 => k_File_takeHead_109 (w_Bytes_at b2 h2 ?_))
  rw [show by_at F 27 = un_p F 27 from by_at_nI (i := 27) (by decide)]
  refine k_File_takeHead_118 (fun z => k_File_takeHead_127 (hn (fun q => z q.2.2.2.2.1))) (fun z4 => k_File_takeHead_121 (fun z5 => k_File_takeHead_129 hpb ?_) (fun z => k_File_takeHead_127 (hn (fun q => z q.2.2.2.2.2))))
  obtain ⟨kd, dp, w, h, hok, e1, e2, e3, e4⟩ := pc_v_ok hv
  have H : fa_hd F ls := ⟨z1, z2, hv, Classical.not_not.mp z3, Classical.not_not.mp z4, z5⟩
  rw [e1, e2, e3, e4]
  exact w_Pict_clearTo hpb hok (fun M' g1 g2 => k_File_takeHead_139 (hy H kd dp w h hok e1 e2 e3 e4 M' g1 g2))
