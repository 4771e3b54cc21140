/-! SevenPassImageModel: numbers of four bytes, ends of chunks, types, seal. -/
theorem nI_eq32 {a b : Nat} (ha : a < 2 ^ 32) (hb : b < 2 ^ 32) : nI a = nI b ↔ a = b := by
  constructor
  · intro h
    have := congrArg (fun x : Int32 => x.toBitVec.toNat) h
    rw [pk_tn ha, pk_tn hb] at this
    exact this
  · intro h
    rw [h]
theorem i64_eq {a b : Nat} (ha : a < 2 ^ 62) (hb : b < 2 ^ 62) : Int64.ofNat a = Int64.ofNat b ↔ a = b := by
  constructor
  · intro h
    have := congrArg Int64.toInt h
    rw [lg_ofNat_toInt (by omega), lg_ofNat_toInt (by omega)] at this
    omega
  · intro h
    rw [h]
theorem i64_le {a b : Nat} (ha : a < 2 ^ 62) (hb : b < 2 ^ 62) : Int64.ofNat a ≤ Int64.ofNat b ↔ a ≤ b := by
  rw [Int64.le_iff_toInt_le, lg_ofNat_toInt (by omega), lg_ofNat_toInt (by omega)]
  omega
theorem bm_64 : ∀ i, i < 64 → (4294967295#64).getLsbD i = decide (i < 32) := by decide +kernel
theorem i64_mask (x : Int32) : x.toInt64 &&& 4294967295 = Int64.ofNat x.toBitVec.toNat := by
  apply Int64.toBitVec_inj.mp
  rw [Int64.toBitVec_and, Int32.toBitVec_toInt64]
  apply BitVec.eq_of_getLsbD_eq
  intro i hi
  show (x.toBitVec.signExtend 64 &&& 4294967295#64).getLsbD i = (BitVec.ofNat 64 x.toBitVec.toNat).getLsbD i
  rw [BitVec.getLsbD_and, bm_64 i hi, BitVec.getLsbD_signExtend, BitVec.getLsbD_ofNat]
  by_cases h : i < 32
  · rw [decide_eq_true h, if_pos h, decide_eq_true hi]
    simp [BitVec.getLsbD]
  · rw [decide_eq_false h, decide_eq_true hi]
    simp
    exact BitVec.getLsbD_of_ge x.toBitVec i (by omega)
section MOD
variable {S d : Nat} {Q : pm_Q} {M : pm_M} {F : List Int32}
theorem mo_n (hF : mo_f M F) (hb : fx_b F) {i : Nat} (hi : i < F.length) : M 22 i = nI (fx_n F i) ∧ fx_n F i < 256 := by
  obtain ⟨h1, h2⟩ := hb.at hi
  exact ⟨hF.2.2 i _ h1, h2⟩
theorem w_Mod_number {i : Nat} (hF : mo_f M F) (hb : fx_b F) (hi : i + 4 ≤ F.length) (hq : Q (some (.inr (.inl (Int64.ofNat (fx_m F i))))) M) : pm_PC S (d + 1) 134 [.inr (.inr 19), .inl (nI i)] M Q := by
  have h700 := hF.2.1
  have e1 : nI i + 1 = nI (i + 1) := nI_1 _
  have e2 : nI i + 2 = nI (i + 2) := by rw [show (2 : Int32) = nI 2 from rfl, nI_add]
  have e3 : nI i + 3 = nI (i + 3) := by rw [show (3 : Int32) = nI 3 from rfl, nI_add]
  obtain ⟨a1, a2⟩ := mo_n hF hb (show i < F.length by omega)
  obtain ⟨b1, b2⟩ := mo_n hF hb (show i + 1 < F.length by omega)
  obtain ⟨c1, c2⟩ := mo_n hF hb (show i + 2 < F.length by omega)
  obtain ⟨d1, d2⟩ := mo_n hF hb (show i + 3 < F.length by omega)
  refine e_Mod_number (k_Mod_number_0 (vp_in_nI (by omega) (by decide)) (by rw [e1]; exact vp_in_nI (by omega) (by decide)) (by rw [e2]; exact vp_in_nI (by omega) (by decide)) (by rw [e3]; exact vp_in_nI (by omega) (by decide)) ?_)
  rw [e1, e2, e3, nI_clamp (by omega), nI_clamp (by omega), nI_clamp (by omega), nI_clamp (by omega), a1, b1, c1, d1, i64_of (by omega), i64_of (by omega), i64_of (by omega), i64_of (by omega), show (16777216 : Int64) = Int64.ofNat 16777216 from rfl, show (65536 : Int64) = Int64.ofNat 65536 from rfl, show (256 : Int64) = Int64.ofNat 256 from rfl, ← Int64.ofNat_mul, ← Int64.ofNat_mul, ← Int64.ofNat_mul, ← Int64.ofNat_add, ← Int64.ofNat_add, ← Int64.ofNat_add]
  have e : fx_n F i * 16777216 + fx_n F (i + 1) * 65536 + fx_n F (i + 2) * 256 + fx_n F (i + 3) = fx_m F i := by
    unfold fx_m
    omega
  rw [e]
  exact hq
theorem fx_m_lt (hb : fx_b F) {i : Nat} (hi : i + 4 ≤ F.length) : fx_m F i < 2 ^ 32 := (fx_num hb hi).2
theorem w_Mod_chunkEnd {k : Int32} (hF : mo_f M F) (hb : fx_b F) (hy : ∀ i e : Nat, k = nI i → fx_end F i = some e → Q (some (.inl (nI e))) M) (hn : (∀ i : Nat, i < 1000 → k = nI i → fx_end F i = none) → Q (some (.inl (-1))) M) : pm_PC S (d + 2) 135 [.inr (.inr 19), .inl k] M Q := by
  have h700 := hF.2.1
  refine e_Mod_chunkEnd (k_Mod_chunkEnd_0 (fun z => k_Mod_chunkEnd_34 (k_Mod_chunkEnd_49 (hn (fun i hi e => absurd (e ▸ z) (nI_pos (by omega)))))) (fun z => k_Mod_chunkEnd_4 (fun z2 => k_Mod_chunkEnd_34 (k_Mod_chunkEnd_49 (hn (fun i hi e => ?_)))) (fun z2 => k_Mod_chunkEnd_15 ?_)))
  · subst e
    unfold fx_end
    rw [if_neg]
    intro w
    rw [hF.1, show (12 : Int32) = nI 12 from rfl, pk_sub (by omega)] at z2
    rw [nI_ltI (by omega) (by omega)] at z2
    omega
  · obtain ⟨i, hi, rfl⟩ := nI_of z
    have z2 := Int32.not_lt.mp z2
    rw [hF.1, show (12 : Int32) = nI 12 from rfl] at z2
    have h12 := sub_lt0 (by omega) (by decide) z z2
    rw [pk_sub h12, nI_leI hi (by omega)] at z2
    have hm := fx_m_lt hb (i := i) (by omega)
    refine w_Mod_number hF hb (by omega) ?_
    have ecmp : (M 19 6 - 12 - nI i).toInt64 = Int64.ofNat (F.length - 12 - i) := by
      rw [hF.1, show (12 : Int32) = nI 12 from rfl, pk_sub h12, pk_sub (by omega), i64_of (by omega)]
    refine k_Mod_chunkEnd_20 (fun q => k_Mod_chunkEnd_38 (w_Mod_number hF hb (by omega) (k_Mod_chunkEnd_47 (k_Mod_chunkEnd_49 ?_)))) (fun q => k_Mod_chunkEnd_34 (k_Mod_chunkEnd_49 (hn (fun j hj e => ?_))))
    · rw [ecmp, lg_cmp_le, i64_le (by omega) (by omega)] at q
      rw [Int64.toInt32_ofNat', show (12 : Int32) = nI 12 from rfl, nI_add]
      show Q (some (.inl (nI (i + 12) + nI (fx_m F i)))) M
      rw [nI_add]
      refine hy i _ rfl ?_
      unfold fx_end
      rw [if_pos ⟨by omega, by omega⟩]
    · rw [ecmp, lg_cmp_le, i64_le (by omega) (by omega)] at q
      have ej : i = j := (nI_eq hi (by omega)).mp e
      subst ej
      unfold fx_end
      rw [if_neg (fun w => by omega)]
theorem fx_ty (hb : fx_b F) {j a b c e : Nat} (hj : j + 4 ≤ F.length) (ha : a < 256) (hb2 : b < 256) (hc : c < 256) (he : e < 256) : by_num F j = nI (((a * 256 + b) * 256 + c) * 256 + e) ↔ fx_n F j = a ∧ fx_n F (j + 1) = b ∧ fx_n F (j + 2) = c ∧ fx_n F (j + 3) = e := by
  obtain ⟨e1, e2⟩ := fx_num hb hj
  have h0 := (hb.at (show j < F.length by omega)).2
  have h1 := (hb.at (show j + 1 < F.length by omega)).2
  have h2 := (hb.at (show j + 2 < F.length by omega)).2
  have h3 := (hb.at (show j + 3 < F.length by omega)).2
  rw [e1, nI_eq32 e2 (by omega)]
  unfold fx_m
  omega
theorem w_Mod_typed {k a b c e : Nat} {T : Int32} (hF : mo_f M F) (hb : fx_b F) (hk : k + 8 ≤ F.length) (ha : a < 256) (hb2 : b < 256) (hc : c < 256) (he : e < 256) (hT : T = nI (((a * 256 + b) * 256 + c) * 256 + e)) (hy : by_num F (k + 4) = T → Q (some (.inl 1)) M) (hn : ¬ by_num F (k + 4) = T → Q (some (.inl 0)) M) : pm_PC S (d + 1) 137 [.inr (.inr 19), .inl (nI k), .inl (nI a), .inl (nI b), .inl (nI c), .inl (nI e)] M Q := by
  have h700 := hF.2.1
  rw [hT, fx_ty hb (show k + 4 + 4 ≤ F.length by omega) ha hb2 hc he] at hy hn
  have e4 : nI k + 4 = nI (k + 4) := by rw [show (4 : Int32) = nI 4 from rfl, nI_add]
  have e5 : nI k + 5 = nI (k + 4 + 1) := by rw [show (5 : Int32) = nI 5 from rfl, nI_add]
  have e6 : nI k + 6 = nI (k + 4 + 2) := by rw [show (6 : Int32) = nI 6 from rfl, nI_add]
  have e7 : nI k + 7 = nI (k + 4 + 3) := by rw [show (7 : Int32) = nI 7 from rfl, nI_add]
  obtain ⟨a1, a2⟩ := mo_n hF hb (show k + 4 < F.length by omega)
  obtain ⟨b1, b2⟩ := mo_n hF hb (show k + 4 + 1 < F.length by omega)
  obtain ⟨c1, c2⟩ := mo_n hF hb (show k + 4 + 2 < F.length by omega)
  obtain ⟨d1, d2⟩ := mo_n hF hb (show k + 4 + 3 < F.length by omega)
  have v4 : M 22 (nI k + 4).toNatClampNeg = nI (fx_n F (k + 4)) := by rw [e4, nI_clamp (by omega)]; exact a1
  have v5 : M 22 (nI k + 5).toNatClampNeg = nI (fx_n F (k + 4 + 1)) := by rw [e5, nI_clamp (by omega)]; exact b1
  have v6 : M 22 (nI k + 6).toNatClampNeg = nI (fx_n F (k + 4 + 2)) := by rw [e6, nI_clamp (by omega)]; exact c1
  have v7 : M 22 (nI k + 7).toNatClampNeg = nI (fx_n F (k + 4 + 3)) := by rw [e7, nI_clamp (by omega)]; exact d1
  have inj : ∀ {x y : Nat}, x < 256 → y < 256 → nI x = nI y → x = y := fun hx hy h => (nI_eq (by omega) (by omega)).mp h
  refine e_Mod_typed (k_Mod_typed_0 (by rw [e4]; exact vp_in_nI (by omega) (by decide)) (fun z => k_Mod_typed_56 (k_Mod_typed_57 (by decide) (hn (fun w => z (by rw [v4, w.1]))))) (fun z1 => k_Mod_typed_12 (by rw [e5]; exact vp_in_nI (by omega) (by decide)) (fun z => k_Mod_typed_56 (k_Mod_typed_57 (by decide) (hn (fun w => z (by rw [v5, w.2.1]))))) (fun z2 => k_Mod_typed_24 (by rw [e6]; exact vp_in_nI (by omega) (by decide)) (fun z => k_Mod_typed_56 (k_Mod_typed_57 (by decide) (hn (fun w => z (by rw [v6, w.2.2.1]))))) (fun z3 => k_Mod_typed_38 (by rw [e7]; exact vp_in_nI (by omega) (by decide)) (fun z => k_Mod_typed_56 (k_Mod_typed_57 (by decide) (hn (fun w => z (by rw [v7, w.2.2.2]))))) (fun z4 => k_Mod_typed_52 (k_Mod_typed_57 (by decide) (hy ⟨?_, ?_, ?_, ?_⟩)))))))
  · have z := Classical.not_not.mp z1
    rw [v4] at z
    exact inj a2 ha z
  · have z := Classical.not_not.mp z2
    rw [v5] at z
    exact inj b2 hb2 z
  · have z := Classical.not_not.mp z3
    rw [v6] at z
    exact inj c2 hc z
  · have z := Classical.not_not.mp z4
    rw [v7] at z
    exact inj d2 he z
theorem w_Mod_isData {k : Nat} (hF : mo_f M F) (hb : fx_b F) (hk : k + 8 ≤ F.length) (hy : by_num F (k + 4) = 1229209940 → Q (some (.inl 1)) M) (hn : ¬ by_num F (k + 4) = 1229209940 → Q (some (.inl 0)) M) : pm_PC S (d + 2) 138 [.inr (.inr 19), .inl (nI k)] M Q :=
  e_Mod_isData (k_Mod_isData_0 (w_Mod_typed (a := 73) (b := 68) (c := 65) (e := 84) (T := 1229209940) hF hb hk (by decide) (by decide) (by decide) (by decide) (by decide) (fun h => k_Mod_isData_13 (by decide) (hy h)) (fun h => k_Mod_isData_13 (by decide) (hn h))))
theorem w_Mod_seal {kd dp w h : Nat} {f : Nat → Nat → Nat → Int32} {cc : Int32} {rc : Nat → Int32} {k : Int32} (hfb : fx_b F) (hi : mo_is M kd dp w h f F cc rc) (hy : ∀ (i : Nat) (F' : List Int32), k = nI i → fx_seal F i = some F' → ∀ M', mo_is M' kd dp w h f F' cc rc → pm_ag mo_ks M M' → Q (some (.inl 1)) M') (hn : (∀ i : Nat, i < 1000 → k = nI i → fx_seal F i = none) → Q (some (.inl 0)) M) : pm_PC S (d + 3) 136 [.inr (.inr 19), .inl k] M Q := by
  have hi0 := hi
  obtain ⟨i1, i2, i3, i4, i5⟩ := hi
  have h700 := i3.2.1
  refine e_Mod_seal (k_Mod_seal_0 (w_Mod_chunkEnd i3 hfb (fun i e ek he => ?_) (fun hno => k_Mod_seal_5 (fun z => absurd z (by decide)) (fun _ => k_Mod_seal_10 (hn (fun i hi ek => by unfold fx_seal; rw [hno i hi ek]))))))
  obtain ⟨o1, o2, o3⟩ := fx_end_ok he
  subst ek
  refine k_Mod_seal_5 (fun _ => k_Mod_seal_12 ?_) (fun z => absurd (nI_le (a := 0) (by omega) (by omega)) z)
  rw [show (4 : Int32) = nI 4 from rfl, nI_add, pk_sub (by omega)]
  refine w_Mod_check i3 hfb (by omega) (by omega) (k_Mod_seal_22 ?_)
  generalize hv : cr_l (by_sl F (i + 4) (e - 4 - (i + 4))) = v
  have e0 : nI e - 4 + 0 = nI (e - 4) := by rw [show (4 : Int32) = nI 4 from rfl, pk_sub (by omega), show (0 : Int32) = nI 0 from rfl, nI_add, Nat.add_zero]
  have e1 : nI e - 4 + (0 + 1) = nI (e - 4 + 1) := by rw [show (4 : Int32) = nI 4 from rfl, pk_sub (by omega), show (0 + 1 : Int32) = nI 1 from rfl, nI_add]
  have e2 : nI e - 4 + (0 + 1 + 1) = nI (e - 4 + 2) := by rw [show (4 : Int32) = nI 4 from rfl, pk_sub (by omega), show (0 + 1 + 1 : Int32) = nI 2 from rfl, nI_add]
  have e3 : nI e - 4 + (0 + 1 + 1 + 1) = nI (e - 4 + 3) := by rw [show (4 : Int32) = nI 4 from rfl, pk_sub (by omega), show (0 + 1 + 1 + 1 : Int32) = nI 3 from rfl, nI_add]
  refine k_Mod_seal_26 (fun z => absurd z (by decide)) (fun _ => k_Mod_seal_32 (by rw [e0]; exact vp_in_nI (by omega) (by decide)) ?_)
  refine k_Mod_seal_26 (fun z => absurd z (by decide)) (fun _ => k_Mod_seal_32 (by rw [e1]; exact vp_in_nI (by omega) (by decide)) ?_)
  refine k_Mod_seal_26 (fun z => absurd z (by decide)) (fun _ => k_Mod_seal_32 (by rw [e2]; exact vp_in_nI (by omega) (by decide)) ?_)
  refine k_Mod_seal_26 (fun z => absurd z (by decide)) (fun _ => k_Mod_seal_32 (by rw [e3]; exact vp_in_nI (by omega) (by decide)) ?_)
  refine k_Mod_seal_26 (fun _ => k_Mod_seal_63 ?_) (fun z => absurd (by decide) z)
  rw [e0, e1, e2, e3, nI_clamp (by omega), nI_clamp (by omega), nI_clamp (by omega), nI_clamp (by omega)]
  have hF' := (((i3.set (i := e - 4) (v := pm_iushr v (24 - 8 * 0) &&& 255)).set (i := e - 4 + 1) (v := pm_iushr v (24 - 8 * (0 + 1)) &&& 255)).set (i := e - 4 + 2) (v := pm_iushr v (24 - 8 * (0 + 1 + 1)) &&& 255)).set (i := e - 4 + 3) (v := pm_iushr v (24 - 8 * (0 + 1 + 1 + 1)) &&& 255)
  have s0 : (24 : Int32) - 8 * 0 = 24 := by decide
  have s1 : (24 : Int32) - 8 * (0 + 1) = 16 := by decide
  have s2 : (24 : Int32) - 8 * (0 + 1 + 1) = 8 := by decide
  have s3 : (24 : Int32) - 8 * (0 + 1 + 1 + 1) = 0 := by decide
  have hp : ∀ (N : pm_M) (a b c g : Nat) (p q r t : Int32) (j : Nat), (pm_up (pm_up (pm_up (pm_up N 22 a p) 22 b q) 22 c r) 22 g t) 19 j = N 19 j := by
    intro N a b c g p q r t j
    rw [pm_up_off (Or.inl (by decide)), pm_up_off (Or.inl (by decide)), pm_up_off (Or.inl (by decide)), pm_up_off (Or.inl (by decide))]
  obtain ⟨q1, q2⟩ := mo_file hi0 hF' (fun j hj => hp _ _ _ _ _ _ _ _ _ j) ((((pm_ag.up (by decide)).tr (pm_ag.up (by decide))).tr (pm_ag.up (by decide))).tr (pm_ag.up (by decide)))
  rw [s0, s1, s2, s3] at q1 q2 ⊢
  refine hy i _ rfl ?_ _ q1 q2
  unfold fx_seal by_put4
  rw [he, ← hv]
end MOD
