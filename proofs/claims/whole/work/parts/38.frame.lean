/-! ChunkFile: chunks are found, checked, sealed. -/
/-- bytes -/
def fx_b (F : List Int32) : Prop := ∀ (i : Nat) (x : Int32), F[i]? = some x → ∃ n : Nat, n < 256 ∧ x = nI n
def fx_n (F : List Int32) (i : Nat) : Nat := ((F[i]?).getD 0).toNatClampNeg
theorem fx_b.at {F : List Int32} (h : fx_b F) {i : Nat} (hi : i < F.length) : F[i]? = some (nI (fx_n F i)) ∧ fx_n F i < 256 := by
  obtain ⟨n, hn, e⟩ := h i _ (List.getElem?_eq_getElem hi)
  have e2 : F[i]? = some (nI n) := by rw [List.getElem?_eq_getElem hi, e]
  have e3 : fx_n F i = n := by
    unfold fx_n
    rw [e2]
    exact nI_clamp (by omega)
  rw [e3]
  exact ⟨e2, hn⟩
/-- the number of the four bytes from i on -/
def fx_m (F : List Int32) (i : Nat) : Nat := ((fx_n F i * 256 + fx_n F (i + 1)) * 256 + fx_n F (i + 2)) * 256 + fx_n F (i + 3)
theorem nb_byte {v b : Nat} (hv : v < 2 ^ 24) (hb : b < 256) : pm_ishl (nI v) 8 ||| (nI b &&& 255) = nI (v * 256 + b) := by
  have e1 : pm_ishl (nI v) 8 = nI (v * 2 ^ 8) := nb_shl (i := 8) (by decide) (by omega)
  have e2 : nI b &&& 255 = nI b := by rw [pk_andN (by omega) 8 (by decide), Nat.mod_eq_of_lt hb]
  rw [e1, e2, nb_or, Nat.mul_comm v, ← Nat.two_pow_add_eq_or_of_lt (show b < 2 ^ 8 by omega), Nat.mul_comm]
theorem fx_num {F : List Int32} (h : fx_b F) {i : Nat} (hi : i + 4 ≤ F.length) : by_num F i = nI (fx_m F i) ∧ fx_m F i < 2 ^ 32 := by
  obtain ⟨a1, a2⟩ := h.at (i := i) (by omega)
  obtain ⟨b1, b2⟩ := h.at (i := i + 1) (by omega)
  obtain ⟨c1, c2⟩ := h.at (i := i + 2) (by omega)
  obtain ⟨d1, d2⟩ := h.at (i := i + 3) (by omega)
  unfold by_num fx_m
  rw [a1, b1, c1, d1]
  simp only [Option.getD_some]
  refine ⟨?_, by omega⟩
  rw [show (0 : Int32) = nI 0 from rfl, nb_byte (by decide) a2, Nat.zero_mul, Nat.zero_add, nb_byte (by omega) b2, nb_byte (by omega) c2, nb_byte (by omega) d2]
def fx_end (F : List Int32) (k : Nat) : Option Nat := if k + 12 ≤ F.length ∧ k + 12 + fx_m F k ≤ F.length then some (k + 12 + fx_m F k) else none
theorem nI_neg {n : Nat} (h1 : 2 ^ 31 ≤ n) (h2 : n < 2 ^ 32) : nI n < 0 := by
  have e : nI n = nI (n - 2 ^ 31) + nI (2 ^ 31) := by rw [nI_add]; congr 1; omega
  rw [Int32.lt_iff_toInt_lt]
  have h3 : (nI n).toInt = (n : Int) - 2 ^ 32 := by
    show (BitVec.ofNat 32 n).toInt = _
    rw [BitVec.toInt_eq_toNat_cond, BitVec.toNat_ofNat, Nat.mod_eq_of_lt h2, if_neg (by omega)]
    rfl
  rw [h3]
  show (n : Int) - 2 ^ 32 < (0 : Int32).toInt
  have : (0 : Int32).toInt = 0 := by decide
  omega
theorem nI_le32 {a b : Nat} (ha : a < 2 ^ 31) (hb : b < 2 ^ 31) (h : nI a ≤ nI b) : a ≤ b := (nI_leI ha hb).mp h
theorem sub_lt0 {x : Int32} {n m : Nat} (hn : n < 1000) (hm : m < 1000) (hx : ¬ x < 0) (h : x ≤ nI n - nI m) : m ≤ n := by
  by_cases hc : m ≤ n
  · exact hc
  · exfalso
    have h2 : nI n - nI m < 0 := pk_sneg (by omega) (by omega)
    exact hx (Int32.lt_of_le_of_lt h h2)
theorem w_File_chunkEnd {S d : Nat} {Q : pm_Q} {M : pm_M} {F : List Int32} {k : Int32} (hF : by_is M 2 F) (hb : fx_b F) (hy : ∀ i e : Nat, k = nI i → fx_end F i = some e → Q (some (.inl (nI e))) M) (hn : (∀ i : Nat, i < 1000 → k = nI i → fx_end F i = none) → Q (some (.inl (-1))) M) : pm_PC S (d + 3) 69 [.inr (.inr 1), .inl k] M Q := by
  have h2 : by_b 2 := Or.inl rfl
  have h700 := hF.lt h2
  refine e_File_chunkEnd (k_File_chunkEnd_0 (fun z => k_File_chunkEnd_18 (hn (fun i hi e => absurd (e ▸ z) (nI_pos (by omega))))) (fun z => k_File_chunkEnd_4 (fun z2 => k_File_chunkEnd_20 ?_) (fun z2 => k_File_chunkEnd_18 (hn (fun i hi e => ?_)))))
  · obtain ⟨i, hi, rfl⟩ := nI_of z
    rw [hF.1, show (12 : Int32) = nI 12 from rfl] at z2
    have h12 := sub_lt0 (by omega) (by decide) z z2
    rw [pk_sub h12, nI_leI hi (by omega)] at z2
    obtain ⟨e1, e2⟩ := fx_num hb (i := i) (by omega)
    refine w_Bytes_numberAt h2 hF (by omega) ?_
    rw [e1]
    refine k_File_chunkEnd_28 (fun q => k_File_chunkEnd_49 (hn (fun j hj e => ?_))) (fun q => k_File_chunkEnd_33 (fun q2 => k_File_chunkEnd_51 ?_) (fun q2 => k_File_chunkEnd_49 (hn (fun j hj e => ?_))))
    · have ej : i = j := (nI_eq hi (by omega)).mp e
      subst ej
      unfold fx_end
      rw [if_neg]
      intro w
      exact absurd q (nI_pos (by omega))
    · have hlt : fx_m F i < 2 ^ 31 := by
        by_cases hc : fx_m F i < 2 ^ 31
        · exact hc
        · exact absurd (nI_neg (by omega) e2) q
      rw [hF.1, show (12 : Int32) = nI 12 from rfl, pk_sub h12, pk_sub (by omega), nI_leI hlt (by omega)] at q2
      rw [show (12 : Int32) = nI 12 from rfl, nI_add, nI_add]
      refine hy i _ rfl ?_
      unfold fx_end
      rw [if_pos ⟨by omega, by omega⟩]
    · have ej : i = j := (nI_eq hi (by omega)).mp e
      subst ej
      have hlt : fx_m F i < 2 ^ 31 := by
        by_cases hc : fx_m F i < 2 ^ 31
        · exact hc
        · exact absurd (nI_neg (by omega) e2) q
      rw [hF.1, show (12 : Int32) = nI 12 from rfl, pk_sub h12, pk_sub (by omega), nI_leI hlt (by omega)] at q2
      unfold fx_end
      rw [if_neg (fun w => by omega)]
  · subst e
    unfold fx_end
    rw [if_neg]
    intro w
    apply z2
    rw [hF.1, show (12 : Int32) = nI 12 from rfl, pk_sub (by omega)]
    exact nI_le (by omega) (by omega)
theorem fx_end_ok {F : List Int32} {k e : Nat} (h : fx_end F k = some e) : k + 12 ≤ e ∧ e ≤ F.length ∧ e = k + 12 + fx_m F k := by
  unfold fx_end at h
  split at h
  · rename_i hc
    simp only [Option.some.injEq] at h
    omega
  · cases h
/-- a chunk is sealed -/
def fx_seal (F : List Int32) (k : Nat) : Option (List Int32) := match fx_end F k with
  | none => none
  | some e => some (by_put4 F (e - 4) (cr_l (by_sl F (k + 4) (e - 4 - (k + 4)))))
theorem w_File_putCheck {S d : Nat} {Q : pm_Q} {M : pm_M} {F : List Int32} {k : Int32} (hF : by_is M 2 F) (hb : fx_b F) (hy : ∀ (i : Nat) (F' : List Int32), k = nI i → fx_seal F i = some F' → ∀ M', by_is M' 2 F' → pm_ag [2, 2 + 1] M M' → Q (some (.inl 1)) M') (hn : (∀ i : Nat, i < 1000 → k = nI i → fx_seal F i = none) → Q (some (.inl 0)) M) : pm_PC S (d + 4) 70 [.inr (.inr 1), .inl k] M Q := by
  have h2 : by_b 2 := Or.inl rfl
  have h700 := hF.lt h2
  refine e_File_putCheck (k_File_putCheck_0 (w_File_chunkEnd hF hb (fun i e ek he => ?_) (fun hno => k_File_putCheck_5 (fun z => absurd rfl z) (fun _ => k_File_putCheck_11 (hn (fun i hi ek => ?_))))))
  · obtain ⟨o1, o2, o3⟩ := fx_end_ok he
    subst ek
    refine k_File_putCheck_5 (fun _ => k_File_putCheck_13 ?_) (fun z => ?_)
    · rw [show (4 : Int32) = nI 4 from rfl, nI_add, pk_sub (by omega)]
      refine w_Bytes_checkOf h2 hF (by omega) (by omega) (k_File_putCheck_33 (w_Bytes_changeNumber h2 hF (by omega) (fun M' g1 g2 => k_File_putCheck_36 (hy i _ rfl ?_ M' g1 g2))))
      unfold fx_seal
      rw [he]
    · exfalso
      have z2 := congrArg Int32.toInt (Classical.not_not.mp z)
      rw [nI_toInt (by omega)] at z2
      have : (-1 : Int32).toInt = -1 := by decide
      omega
  · unfold fx_seal
    rw [hno i hi ek]
abbrev fa_sg (F : List Int32) (i : Nat) : Prop := ∀ j, j < i → (F[j]?).getD (-1) = nI (ps_sg j)
theorem w_br_loop {S d : Nat} {Q : pm_Q} {M : pm_M} {F : List Int32} (hF : by_is M 2 F) (hst : ps_is M) (hy : fa_sg F 8 → Q (some (.inl 1)) M) (hn : ¬ fa_sg F 8 → Q (some (.inl 0)) M) : ∀ (k i : Nat), i + k = 8 → fa_sg F i → pm_R S (pm_PC S (d + 1)) Q 72 2 [some (.inr (.inr 1)), some (.inl (nI i))] [] M := by
  intro k
  induction k with
  | zero =>
    intro i hi hs
    have e : i = 8 := by omega
    subst e
    exact k_File_beginsRight_2 (fun _ => k_File_beginsRight_34 (hy hs)) (fun z => absurd (by decide) z)
  | succ k ih =>
    intro i hi hs
    refine k_File_beginsRight_2 (fun z => absurd z (nI_ge (b := 8) (by omega) (by decide))) (fun _ => k_File_beginsRight_10 (w_Bytes_at (Or.inl rfl) hF ?_))
    rw [by_at_nI (by omega)]
    have e30 : M 30 (nI i).toNatClampNeg = nI (ps_sg i) := by rw [nI_clamp (by omega)]; exact (hst i (by omega)).2.2.2.2
    refine k_File_beginsRight_18 (vp_in_nI (by omega) (by decide)) (fun z => k_File_beginsRight_28 ?_) (fun z => k_File_beginsRight_26 (hn (fun s => z ?_)))
    · rw [nI_1]
      refine ih (i + 1) (by omega) (fun j hj => ?_)
      by_cases e : j = i
      · subst e; rw [z, e30]
      · exact hs j (by omega)
    · rw [e30]; exact s i (by omega)
theorem w_File_beginsRight {S d : Nat} {Q : pm_Q} {M : pm_M} {F : List Int32} (hF : by_is M 2 F) (hst : ps_is M) (hy : fa_sg F 8 → Q (some (.inl 1)) M) (hn : ¬ fa_sg F 8 → Q (some (.inl 0)) M) : pm_PC S (d + 2) 72 [.inr (.inr 1)] M Q :=
  e_File_beginsRight (k_File_beginsRight_0 (w_br_loop hF hst hy hn 8 0 (by decide) (fun j hj => absurd hj (Nat.not_lt_zero j))))
abbrev fa_ck (F : List Int32) (k e : Nat) : Prop := by_num F (e - 4) = cr_l (by_sl F (k + 4) (e - 4 - (k + 4)))
theorem w_File_checkIsRight {S d : Nat} {Q : pm_Q} {M : pm_M} {F : List Int32} {k e : Nat} (hF : by_is M 2 F) (he : k + 12 ≤ e ∧ e ≤ F.length) (hy : fa_ck F k e → Q (some (.inl 1)) M) (hn : ¬ fa_ck F k e → Q (some (.inl 0)) M) : pm_PC S (d + 3) 73 [.inr (.inr 1), .inl (nI k), .inl (nI e)] M Q := by
  have h2 : by_b 2 := Or.inl rfl
  have h700 := hF.lt h2
  refine e_File_checkIsRight (k_File_checkIsRight_0 ?_)
  rw [show (4 : Int32) = nI 4 from rfl, pk_sub (by omega)]
  refine w_Bytes_numberAt h2 hF (by omega) (k_File_checkIsRight_12 ?_)
  rw [show (4 : Int32) = nI 4 from rfl, nI_add]
  exact w_Bytes_checkOf h2 hF (by omega) (by omega) (k_File_checkIsRight_23 (fun z => k_File_checkIsRight_30 (k_File_checkIsRight_31 (by decide) (hn z))) (fun z => k_File_checkIsRight_26 (k_File_checkIsRight_31 (by decide) (hy (Classical.not_not.mp z)))))
/-- which chunk may stand where -/
abbrev fa_ms (F : List Int32) (k e : Nat) : Prop :=
  ((k = 8 ∨ by_num F (k + 4) = 1229472850) ∧ k = 8 ∧ by_num F (k + 4) = 1229472850 ∧ ¬ e = F.length) ∨
  (¬ (k = 8 ∨ by_num F (k + 4) = 1229472850) ∧ (e = F.length ∨ by_num F (k + 4) = 1229278788) ∧ e = F.length ∧ by_num F (k + 4) = 1229278788) ∨
  (¬ (k = 8 ∨ by_num F (k + 4) = 1229472850) ∧ ¬ (e = F.length ∨ by_num F (k + 4) = 1229278788) ∧ (by_num F (k + 4) = 1229209940 ∨ ¬ (un_p F (k + 4) &&& 32) = 0))
theorem w_ms_end {S d : Nat} {Q : pm_Q} {M : pm_M} {F : List Int32} {k e : Nat} {x4 x5 : Int32} (hF : by_is M 2 F) (hk : k < 1000) (h4 : (x4 = 1 ∧ k = 8) ∨ (x4 = 0 ∧ ¬ k = 8)) (h5 : (x5 = 1 ∧ e = F.length) ∨ (x5 = 0 ∧ ¬ e = F.length)) (hy : fa_ms F k e → Q (some (.inl 1)) M) (hn : ¬ fa_ms F k e → Q (some (.inl 0)) M) {l5 : Option pm_V} {x2 : Int32} : pm_R S (pm_PC S (d + 1)) Q 74 42 [some (.inr (.inr 1)), some (.inl (nI k)), some (.inl x2), some (.inl (by_num F (k + 4))), some (.inl x4), l5] [.inl x5] M := by
  unfold fa_ms at hy hn
  generalize hT : by_num F (k + 4) = T at hy hn ⊢
  have f1 : (x4 = 0) = (¬ k = 8) := by
    rcases h4 with ⟨rfl, h⟩ | ⟨rfl, h⟩
    · simp [h]
    · simp [h]
  have f2 : (x5 = 0) = (¬ e = F.length) := by
    rcases h5 with ⟨rfl, h⟩ | ⟨rfl, h⟩
    · simp [h]
    · simp [h]
  have p55 : (k = 8 ∨ T = 1229472850) → pm_R S (pm_PC S (d + 1)) Q 74 55 [some (.inr (.inr 1)), some (.inl (nI k)), some (.inl x2), some (.inl T), some (.inl x4), some (.inl x5)] [] M := by
    intro hc
    refine k_File_mayStand_55 (fun z => k_File_mayStand_75 (k_File_mayStand_76 (by decide) (hn ?_))) (fun z => k_File_mayStand_60 (fun z2 => k_File_mayStand_75 (k_File_mayStand_76 (by decide) (hn ?_))) (fun z2 => k_File_mayStand_66 (fun z3 => k_File_mayStand_75 (k_File_mayStand_76 (by decide) (hn ?_))) (fun z3 => k_File_mayStand_71 (k_File_mayStand_76 (by decide) (hy (Or.inl ⟨hc, ?_, Classical.not_not.mp z2, ?_⟩))))))
    · rw [f1] at z
      rintro (q | q | q)
      · exact z q.2.1
      · exact q.1 hc
      · exact q.1 hc
    · rintro (q | q | q)
      · exact z2 q.2.2.1
      · exact q.1 hc
      · exact q.1 hc
    · rw [f2] at z3
      rintro (q | q | q)
      · exact z3 q.2.2.2
      · exact q.1 hc
      · exact q.1 hc
    · rw [f1] at z
      exact Classical.not_not.mp z
    · rw [f2] at z3
      exact Classical.not_not.mp z3
  have p88 : ¬ (k = 8 ∨ T = 1229472850) → (e = F.length ∨ T = 1229278788) → pm_R S (pm_PC S (d + 1)) Q 74 88 [some (.inr (.inr 1)), some (.inl (nI k)), some (.inl x2), some (.inl T), some (.inl x4), some (.inl x5)] [] M := by
    intro hc hc2
    refine k_File_mayStand_88 (fun z => k_File_mayStand_103 (k_File_mayStand_104 (by decide) (hn ?_))) (fun z => k_File_mayStand_93 (fun z2 => k_File_mayStand_103 (k_File_mayStand_104 (by decide) (hn ?_))) (fun z2 => k_File_mayStand_99 (k_File_mayStand_104 (by decide) (hy (Or.inr (Or.inl ⟨hc, hc2, ?_, Classical.not_not.mp z2⟩))))))
    · rw [f2] at z
      rintro (q | q | q)
      · exact hc q.1
      · exact z q.2.2.1
      · exact q.2.1 hc2
    · rintro (q | q | q)
      · exact hc q.1
      · exact z2 q.2.2.2
      · exact q.2.1 hc2
    · rw [f2] at z
      exact Classical.not_not.mp z
  refine k_File_mayStand_42 (fun z => p55 ?_) (fun z => k_File_mayStand_49 (fun z2 => k_File_mayStand_77 (fun z3 => p88 ?_ ?_) (fun z3 => k_File_mayStand_82 (fun z4 => k_File_mayStand_105 (fun z5 => k_File_mayStand_127 (k_File_mayStand_132 (by decide) (hy ?_))) (fun z5 => k_File_mayStand_111 ?_)) (fun z4 => p88 ?_ ?_))) (fun z2 => p55 (Or.inr (Classical.not_not.mp z2))))
  · rw [f1] at z
    exact Or.inl (Classical.not_not.mp z)
  · rw [f1] at z
    exact fun q => q.elim (Classical.not_not.mp z) z2
  · rw [f2] at z3
    exact Or.inl (Classical.not_not.mp z3)
  · rw [f1] at z
    rw [f2] at z3
    exact Or.inr (Or.inr ⟨fun q => q.elim (Classical.not_not.mp z) z2, fun q => q.elim (Classical.not_not.mp z3) z4, Or.inl z5⟩)
  · rw [f1] at z
    rw [f2] at z3
    rw [show (4 : Int32) = nI 4 from rfl, nI_add]
    refine w_Bytes_at (Or.inl rfl) hF ?_
    rw [by_at_nI (by omega)]
    refine k_File_mayStand_121 (fun q => k_File_mayStand_131 (k_File_mayStand_132 (by decide) (hn ?_))) (fun q => k_File_mayStand_127 (k_File_mayStand_132 (by decide) (hy (Or.inr (Or.inr ⟨fun q => q.elim (Classical.not_not.mp z) z2, fun q => q.elim (Classical.not_not.mp z3) z4, Or.inr q⟩)))))
    rintro (r | r | r)
    · exact r.1.elim (Classical.not_not.mp z) z2
    · exact r.2.1.elim (Classical.not_not.mp z3) z4
    · exact r.2.2.elim z5 (fun s => s q)
  · rw [f1] at z
    exact fun q => q.elim (Classical.not_not.mp z) z2
  · exact Or.inr (Classical.not_not.mp z4)
theorem w_File_mayStand {S d : Nat} {Q : pm_Q} {M : pm_M} {F : List Int32} {k e : Nat} (hF : by_is M 2 F) (hk : k < 900) (he : e < 1000) (hy : fa_ms F k e → Q (some (.inl 1)) M) (hn : ¬ fa_ms F k e → Q (some (.inl 0)) M) : pm_PC S (d + 3) 74 [.inr (.inr 1), .inl (nI k), .inl (nI e)] M Q := by
  have h700 := hF.lt (Or.inl rfl)
  refine e_File_mayStand (k_File_mayStand_0 ?_)
  rw [show (4 : Int32) = nI 4 from rfl, nI_add]
  refine w_Bytes_numberAt (Or.inl rfl) hF (by omega) ?_
  have key : ∀ x4, ((x4 = 1 ∧ k = 8) ∨ (x4 = 0 ∧ ¬ k = 8)) → ∀ l4 l5, pm_R S (pm_PC S (d + 2)) Q 74 24 [some (.inr (.inr 1)), some (.inl (nI k)), some (.inl (nI e)), some (.inl (by_num F (k + 4))), l4, l5] [.inl x4] M := by
    intro x4 h4 l4 l5
    refine k_File_mayStand_24 (fun z => k_File_mayStand_41 (w_ms_end hF (by omega) h4 (Or.inr ⟨rfl, ?_⟩) hy hn)) (fun z => k_File_mayStand_37 (w_ms_end hF (by omega) h4 (Or.inl ⟨rfl, ?_⟩) hy hn))
    · intro q
      exact z (by rw [hF.1, q])
    · have z := Classical.not_not.mp z
      rw [hF.1] at z
      exact (nI_eq (by omega) (by omega)).mp z
  refine k_File_mayStand_10 (fun z => k_File_mayStand_23 (key 0 (Or.inr ⟨rfl, fun q => z (by rw [q]; rfl)⟩) _ _)) (fun z => k_File_mayStand_19 (key 1 (Or.inl ⟨rfl, (nI_eq (b := 8) (by omega) (by decide)).mp (Classical.not_not.mp z)⟩) _ _))
