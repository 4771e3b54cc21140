/-! Packing: a copy is taken. -/
def un_cp (dist : Nat) : Nat → List Int32 → List Int32
  | 0, D => D
  | k + 1, D => un_cp dist k (D ++ [(D[D.length - dist]?).getD (-1)])
def un_copy (P : List Int32) (c t : Nat) (D : List Int32) : Option (Nat × List Int32) :=
  if t + ux_lb c ≤ 8 * P.length ∧ t + ux_lb c + 5 ≤ 8 * P.length ∧ rd_hi P (t + ux_lb c) 5 ≤ 29 ∧ t + ux_lb c + 5 + ux_db (rd_hi P (t + ux_lb c) 5) ≤ 8 * P.length ∧ ux_ld (rd_hi P (t + ux_lb c) 5) + rd_lo P (t + ux_lb c + 5) (ux_db (rd_hi P (t + ux_lb c) 5)) ≤ D.length ∧ D.length + (ux_ll c + rd_lo P t (ux_lb c)) ≤ 300 then
    some (t + ux_lb c + 5 + ux_db (rd_hi P (t + ux_lb c) 5), un_cp (ux_ld (rd_hi P (t + ux_lb c) 5) + rd_lo P (t + ux_lb c + 5) (ux_db (rd_hi P (t + ux_lb c) 5))) (ux_ll c + rd_lo P t (ux_lb c)) D)
  else none
theorem un_cp_len (dist : Nat) : ∀ k D, (un_cp dist k D).length = D.length + k
  | 0, D => rfl
  | k + 1, D => by
    unfold un_cp
    rw [un_cp_len dist k]
    simp
    omega
theorem w_cp_x {S d : Nat} {Q : pm_Q} {P : List Int32} {len : Nat} {l1 l2 : Option pm_V} {x2 : Int32} (hlen : len < 1000) : ∀ (k i : Nat) (M : pm_M), i + k = len → uk_x M P → M 4 4 = nI len → (∀ M', uk_x M' P → pm_ag uk_ks M M' → Q none M') → pm_R S (pm_PC S (d + 2)) Q 65 96 [some (.inr (.inr 4)), l1, some (.inl x2), some (.inl (nI i))] [] M := by
  have hb : by_b 5 := Or.inr (Or.inl rfl)
  intro k
  induction k with
  | zero =>
    intro i M hi hx h44 hq
    have e : i = len := by omega
    subst e
    exact k_Pack_takeCopy_96 (fun _ => k_Pack_takeCopy_133 (hq _ (hx.up4 (by decide)) (pm_ag.up (by decide)))) (fun z => absurd (by rw [h44]; exact nI_le (Nat.le_refl _) (by omega)) z)
  | succ k ih =>
    intro i M hi hx h44 hq
    have hx0 := hx
    obtain ⟨t, o, D, h1, h2, h3, h4, h5⟩ := hx
    refine k_Pack_takeCopy_96 (fun z => absurd (by rw [h44] at z; exact z) (nI_ge (by omega) (by omega))) (fun _ => k_Pack_takeCopy_104 (w_Bytes_at hb h2 (k_Pack_takeCopy_124 (w_Pack_addToData_x hx0 (fun M1 g1 g2 g3 => k_Pack_takeCopy_127 ?_)))))
    rw [nI_1]
    exact ih (i + 1) M1 (by omega) g1 (by rw [g3 4 (by decide)]; exact h44) (fun M' q1 q2 => hq M' q1 (g2.tr q2))
theorem w_cp_g {S d : Nat} {Q : pm_Q} {P : List Int32} {t n len dist : Nat} {l1 : Option pm_V} {x2 : Int32} (hlen : len < 1000) (hdist : 1 ≤ dist) : ∀ (k i : Nat) (M : pm_M) (D : List Int32), i + k = len → dist ≤ D.length → uk_g M P t D n → M 4 4 = nI len → M 4 5 = nI dist → (D.length + k ≤ 300 → ∀ M', uk_g M' P t (un_cp dist k D) (n + 1) → pm_ag uk_ks M M' → Q none M') → (300 < D.length + k → ∀ M', uk_x M' P → pm_ag uk_ks M M' → Q none M') → pm_R S (pm_PC S (d + 2)) Q 65 96 [some (.inr (.inr 4)), l1, some (.inl x2), some (.inl (nI i))] [] M := by
  have hb : by_b 5 := Or.inr (Or.inl rfl)
  intro k
  induction k with
  | zero =>
    intro i M D hi hd hg h44 h45 hy hq
    have hD : D.length ≤ 300 := hg.2.2.1.2.1
    have e : i = len := by omega
    subst e
    refine k_Pack_takeCopy_96 (fun _ => k_Pack_takeCopy_133 (hy (by omega) _ ⟨hg.1.keep (pm_ag.up (ks := [4]) (by simp)) (by decide) (by decide) (by decide), ?_, hg.2.2.1.keep (pm_ag.up (ks := [4]) (by simp)) (by decide) (by decide), ?_⟩ (pm_ag.up (by decide)))) (fun z => absurd (by rw [h44]; exact nI_le (Nat.le_refl _) (by omega)) z)
    · rw [pm_up_off (Or.inr (by decide))]; exact hg.2.1
    · rw [pm_up_hit, hg.2.2.2, nI_1]
  | succ k ih =>
    intro i M D hi hd hg h44 h45 hy hq
    have hD : D.length ≤ 300 := hg.2.2.1.2.1
    refine k_Pack_takeCopy_96 (fun z => absurd (by rw [h44] at z; exact z) (nI_ge (by omega) (by omega))) (fun _ => k_Pack_takeCopy_104 ?_)
    rw [hg.2.2.1.1, h45, pk_sub hd]
    refine w_Bytes_at hb hg.2.2.1 (k_Pack_takeCopy_124 ?_)
    rw [by_at_nI (by omega)]
    refine w_Pack_addToData_g hg (fun hl M1 g1 g2 g3 => k_Pack_takeCopy_127 ?_) (fun hl M1 g1 g2 g3 => k_Pack_takeCopy_127 ?_)
    · rw [nI_1]
      exact ih (i + 1) M1 _ (by omega) (by simp; omega) g1 (by rw [g3]; exact h44) (by rw [g3]; exact h45) (fun hc M' q1 q2 => hy (by simp at hc; omega) M' q1 (g2.tr q2)) (fun hc M' q1 q2 => hq (by simp at hc; omega) M' q1 (g2.tr q2))
    · rw [nI_1]
      exact w_cp_x (l2 := none) hlen k (i + 1) M1 (by omega) g1 (by rw [g3 4 (by decide)]; exact h44) (fun M' q1 q2 => hq (by omega) M' q1 (g2.tr q2))
/-- from a bad state, any code of a length -/
theorem w_tc_x3 {S d : Nat} {Q : pm_Q} {M : pm_M} {P : List Int32} {a b : Nat} {len : Nat} {l1 l3 : Option pm_V} {x2 : Int32} (ha : a < 100000) (hb : b < 100000) (hx : uk_x M P) (h44 : M 4 4 = nI len) (hlen : len < 1000) (hq : ∀ M', uk_x M' P → pm_ag uk_ks M M' → Q none M') : pm_R S (pm_PC S (d + 2)) Q 65 70 [some (.inr (.inr 4)), l1, some (.inl x2), l3] [.inl (nI b), .inl (nI a), .inr (.inr 4)] M := by
  have hx5 := hx.up4 (j := 5) (x := nI a + nI b) (by decide)
  refine k_Pack_takeCopy_70 (fun z => k_Pack_takeCopy_94 ?_) (fun z => k_Pack_takeCopy_88 (hq _ hx5.x ((pm_ag.up (by decide)).tr (pm_ag.up (by decide)))))
  exact w_cp_x (l2 := none) hlen len 0 _ (by omega) hx5 (by rw [pm_up_off (Or.inr (by decide))]; exact h44) (fun M' q1 q2 => hq M' q1 ((pm_ag.up (by decide)).tr q2))
theorem rd_x {M : pm_M} {P : List Int32} {D : List Int32} {t : Nat} (hr : rd_is M P t 1) (h5 : by_is M 5 D) (h3 : M 4 3 = 0 ∨ M 4 3 = 1) : uk_x M P := ⟨t, 1, D, hr, h5, Or.inr rfl, h3, Or.inl rfl⟩
theorem uk_x.tk {M M' : pm_M} {P : List Int32} {t : Nat} (hx : uk_x M P) (ha : pm_ag [7] M M') (hr : rd_is M' P t 1) : uk_x M' P := by
  obtain ⟨t0, o, D, h1, h2, h3, h4, h5⟩ := hx
  exact rd_x hr (h2.keep ha (by decide) (by decide)) (by rw [ha 4 (by decide)]; exact h4)
theorem uk_x.tk0 {M M' : pm_M} {P : List Int32} {t t' : Nat} {o : Int32} (hx : uk_x M P) (hr0 : rd_is M P t o) (ha : pm_ag [7] M M') (hr : rd_is M' P t' o) : uk_x M' P := by
  obtain ⟨t0, o', D, h1, h2, h3, h4, h5⟩ := hx
  have e : o = o' := hr0.2.2.2.symm.trans h1.2.2.2
  subst e
  exact ⟨t', o, D, hr, h2.keep ha (by decide) (by decide), h3, by rw [ha 4 (by decide)]; exact h4, by rw [ha 4 (by decide)]; exact h5⟩
theorem uk_x.rd {M : pm_M} {P : List Int32} (hx : uk_x M P) : ∃ t o, rd_is M P t o := by
  obtain ⟨t0, o', D, h1, -⟩ := hx
  exact ⟨t0, o', h1⟩
theorem w_tc_x2 {S d : Nat} {Q : pm_Q} {M : pm_M} {P : List Int32} {v : Nat} {len : Nat} {l2 l3 : Option pm_V} {x1 : Int32} (hv : v < 32) (hx : uk_x M P) (h44 : M 4 4 = nI len) (hlen : len < 1000) (hq : ∀ M', uk_x M' P → pm_ag uk_ks M M' → Q none M') : pm_R S (pm_PC S (d + 2)) Q 65 41 [some (.inr (.inr 4)), some (.inl x1), l2, l3] [.inl (nI v)] M := by
  refine k_Pack_takeCopy_41 (fun z => k_Pack_takeCopy_54 ?_) (fun z => k_Pack_takeCopy_48 (hq _ hx.x (pm_ag.up (by decide))))
  rw [show (29 : Int32) = nI 29 from rfl, nI_leI (by omega) (by decide)] at z
  obtain ⟨d1, d2, d3, d4, d5⟩ := ux_dis v (by omega)
  refine w_Codes_leastDistance (k_Pack_takeCopy_59 (w_Codes_distanceBits (k_Pack_takeCopy_67 ?_)))
  rw [d1, d3]
  obtain ⟨t, o, hr⟩ := hx.rd
  have hp : ∀ n, n ≤ 13 → 2 ^ n ≤ 8192 := fun n hn => Nat.le_trans (Nat.pow_le_pow_right (by decide) hn) (by decide)
  refine w_Bits_takeLowestFirst (by omega) hr (fun _ M1 g1 g2 => ?_) (fun _ M1 u hu g1 g2 => ?_)
  · have hlt := rd_lo_lt P t (ux_db v)
    have := hp _ d2
    exact w_tc_x3 (by omega) (by omega) (hx.tk0 hr g2 g1) (by rw [g2 4 (by decide)]; exact h44) hlen (fun M' q1 q2 => hq M' q1 ((g2.wd (by decide)).tr q2))
  · have := hp _ d2
    exact w_tc_x3 (by omega) (by omega) (hx.tk g2 g1) (by rw [g2 4 (by decide)]; exact h44) hlen (fun M' q1 q2 => hq M' q1 ((g2.wd (by decide)).tr q2))
theorem w_tc_x1 {S d : Nat} {Q : pm_Q} {M : pm_M} {P : List Int32} {v a : Nat} {l2 l3 : Option pm_V} {x1 : Int32} (hv : v < 32) (ha : a ≤ 258) (hx : uk_x M P) (hq : ∀ M', uk_x M' P → pm_ag uk_ks M M' → Q none M') : pm_R S (pm_PC S (d + 2)) Q 65 29 [some (.inr (.inr 4)), some (.inl x1), l2, l3] [.inl (nI v), .inl (nI a), .inr (.inr 4)] M := by
  refine k_Pack_takeCopy_29 ?_
  rw [nI_add]
  have hx4 := hx.up4 (j := 4) (x := nI (a + v)) (by decide)
  obtain ⟨t, o, hr⟩ := hx4.rd
  refine w_Bits_takeHighestFirst (n := 5) (by decide) hr (fun _ M1 g1 g2 => ?_) (fun _ M1 u hu g1 g2 => ?_)
  · have hlt := rd_hi_lt P t 5
    exact w_tc_x2 hlt (hx4.tk0 hr g2 g1) (by rw [g2 4 (by decide), pm_up_hit]) (by omega) (fun M' q1 q2 => hq M' q1 (((pm_ag.up (by decide)).of g2 (by decide)).tr q2))
  · exact w_tc_x2 hu (hx4.tk g2 g1) (by rw [g2 4 (by decide), pm_up_hit]) (by omega) (fun M' q1 q2 => hq M' q1 (((pm_ag.up (by decide)).of g2 (by decide)).tr q2))
theorem w_Pack_takeCopy_x {S d : Nat} {Q : pm_Q} {M : pm_M} {P : List Int32} {c : Nat} (hc : 257 ≤ c) (hc2 : c ≤ 287) (hx : uk_x M P) (hq : ∀ M', uk_x M' P → pm_ag uk_ks M M' → Q none M') : pm_PC S (d + 3) 65 [.inr (.inr 4), .inl (nI c)] M Q := by
  refine e_Pack_takeCopy (k_Pack_takeCopy_0 (fun z => k_Pack_takeCopy_13 ?_) (fun z => k_Pack_takeCopy_7 (hq _ hx.x (pm_ag.up (by decide)))))
  rw [show (285 : Int32) = nI 285 from rfl, nI_leI (by omega) (by decide)] at z
  obtain ⟨d1, d2, d3, d4, d5⟩ := ux_len c (by omega) hc
  refine w_Codes_leastLength (k_Pack_takeCopy_18 (w_Codes_lengthBits (k_Pack_takeCopy_26 ?_)))
  rw [d1, d3]
  obtain ⟨t, o, hr⟩ := hx.rd
  have hp : 2 ^ ux_lb c ≤ 32 := Nat.le_trans (Nat.pow_le_pow_right (by decide) d2) (by decide)
  refine w_Bits_takeLowestFirst (by omega) hr (fun _ M1 g1 g2 => ?_) (fun _ M1 u hu g1 g2 => ?_)
  · have hlt := rd_lo_lt P t (ux_lb c)
    exact w_tc_x1 (by omega) d4 (hx.tk0 hr g2 g1) (fun M' q1 q2 => hq M' q1 ((g2.wd (by decide)).tr q2))
  · exact w_tc_x1 (by omega) d4 (hx.tk g2 g1) (fun M' q1 q2 => hq M' q1 ((g2.wd (by decide)).tr q2))
theorem w_Pack_takeCopy_g {S d : Nat} {Q : pm_Q} {M : pm_M} {P : List Int32} {c t n : Nat} {D : List Int32} (hc : 257 ≤ c) (hc2 : c ≤ 285) (hg : uk_g M P t D n) (hy : ∀ t' D', un_copy P c t D = some (t', D') → ∀ M', uk_g M' P t' D' (n + 1) → pm_ag uk_ks M M' → Q none M') (hq : un_copy P c t D = none → ∀ M', uk_x M' P → pm_ag uk_ks M M' → Q none M') : pm_PC S (d + 3) 65 [.inr (.inr 4), .inl (nI c)] M Q := by
  obtain ⟨d1, d2, d3, d4, d5⟩ := ux_len c (by omega) hc
  obtain ⟨g1, g2, g3, g4⟩ := hg
  have hD : D.length ≤ 300 := g3.2.1
  have hp5 : 2 ^ ux_lb c ≤ 32 := Nat.le_trans (Nat.pow_le_pow_right (by decide) d2) (by decide)
  have hlo := rd_lo_lt P t (ux_lb c)
  have hhi := rd_hi_lt P (t + ux_lb c) 5
  refine e_Pack_takeCopy (k_Pack_takeCopy_0 (fun _ => k_Pack_takeCopy_13 ?_) (fun z => absurd (nI_le hc2 (by decide)) z))
  refine w_Codes_leastLength (k_Pack_takeCopy_18 (w_Codes_lengthBits (k_Pack_takeCopy_26 ?_)))
  rw [d1, d3]
  refine w_Bits_takeLowestFirst (by omega) g1 (fun h1 M1 r1 a1 => ?_) (fun h1 M1 u hu r1 a1 => ?_)
  · refine k_Pack_takeCopy_29 ?_
    rw [nI_add]
    have a4 := pm_ag.up (ks := [4]) (M := M1) (k := 4) (j := 4) (x := nI (ux_ll c + rd_lo P t (ux_lb c))) (by simp)
    have r4 := r1.keep a4 (by decide) (by decide) (by decide)
    refine w_Bits_takeHighestFirst (n := 5) (by decide) r4 (fun h2 M2 r2 a2 => ?_) (fun h2 M2 u hu r2 a2 => ?_)
    · generalize htt : rd_hi P (t + ux_lb c) 5 = tt at hhi
      have A2 : pm_ag uk_ks M M2 := ((a1.wd (ks' := uk_ks) (by decide)).of a4 (by decide)).of a2 (by decide)
      have e43 : M2 4 3 = 0 := by rw [a2 4 (by decide), pm_up_off (Or.inr (by decide)), a1 4 (by decide)]; exact g2
      have e42 : M2 4 2 = nI n := by rw [a2 4 (by decide), pm_up_off (Or.inr (by decide)), a1 4 (by decide)]; exact g4
      have e44 : M2 4 4 = nI (ux_ll c + rd_lo P t (ux_lb c)) := by rw [a2 4 (by decide), pm_up_hit]
      have h52 : by_is M2 5 D := ((g3.keep a1 (by decide) (by decide)).keep a4 (by decide) (by decide)).keep a2 (by decide) (by decide)
      have G2 : uk_g M2 P (t + ux_lb c + 5) D n := ⟨r2, e43, h52, e42⟩
      refine k_Pack_takeCopy_41 (fun z => k_Pack_takeCopy_54 ?_) (fun z => k_Pack_takeCopy_48 (hq ?_ _ G2.x (A2.tr (pm_ag.up (by decide)))))
      · rw [show (29 : Int32) = nI 29 from rfl, nI_leI (by omega) (by decide)] at z
        obtain ⟨f1, f2, f3, f4, f5⟩ := ux_dis tt (by omega)
        have hp13 : 2 ^ ux_db tt ≤ 8192 := Nat.le_trans (Nat.pow_le_pow_right (by decide) f2) (by decide)
        have hlo2 := rd_lo_lt P (t + ux_lb c + 5) (ux_db tt)
        refine w_Codes_leastDistance (k_Pack_takeCopy_59 (w_Codes_distanceBits (k_Pack_takeCopy_67 ?_)))
        rw [f1, f3]
        refine w_Bits_takeLowestFirst (by omega) r2 (fun h3 M3 r3 a3 => ?_) (fun h3 M3 u hu r3 a3 => ?_)
        · have A3 : pm_ag uk_ks M M3 := A2.of a3 (by decide)
          have h53 := h52.keep a3 (by decide) (by decide)
          have a5 := pm_ag.up (ks := [4]) (M := M3) (k := 4) (j := 5) (x := nI (ux_ld tt + rd_lo P (t + ux_lb c + 5) (ux_db tt))) (by simp)
          have G3 : uk_g (pm_up M3 4 5 (nI (ux_ld tt + rd_lo P (t + ux_lb c + 5) (ux_db tt)))) P (t + ux_lb c + 5 + ux_db tt) D n := ⟨r3.keep a5 (by decide) (by decide) (by decide), by rw [pm_up_off (Or.inr (by decide)), a3 4 (by decide)]; exact e43, h53.keep a5 (by decide) (by decide), by rw [pm_up_off (Or.inr (by decide)), a3 4 (by decide)]; exact e42⟩
          refine k_Pack_takeCopy_70 (fun z2 => k_Pack_takeCopy_94 ?_) (fun z2 => k_Pack_takeCopy_88 ?_)
          · rw [nI_add] at z2 ⊢
            rw [h53.1, nI_leI (by omega) (by omega)] at z2
            refine w_cp_g (len := ux_ll c + rd_lo P t (ux_lb c)) (by omega) (by omega) (ux_ll c + rd_lo P t (ux_lb c)) 0 _ D (by omega) z2 G3 (by rw [pm_up_off (Or.inr (by decide)), a3 4 (by decide)]; exact e44) pm_up_hit (fun hl M4 q1 q2 => hy _ _ ?_ M4 q1 ((A3.of a5 (by decide)).tr q2)) (fun hl M4 q1 q2 => hq ?_ M4 q1 ((A3.of a5 (by decide)).tr q2))
            · unfold un_copy
              rw [htt, if_pos ⟨h1, h2, z, h3, z2, hl⟩]
            · unfold un_copy
              rw [htt, if_neg (fun q => by omega)]
          · rw [nI_add] at z2 ⊢
            rw [h53.1, nI_leI (by omega) (by omega)] at z2
            refine hq ?_ _ G3.x ((A3.of a5 (by decide)).tr (pm_ag.up (by decide)))
            unfold un_copy
            rw [htt, if_neg (fun q => z2 q.2.2.2.2.1)]
        · have X3 : uk_x M3 P := rd_x r3 (h52.keep a3 (by decide) (by decide)) (Or.inl (by rw [a3 4 (by decide)]; exact e43))
          refine w_tc_x3 (by omega) (by omega) X3 (by rw [a3 4 (by decide)]; exact e44) (by omega) (fun M' q1 q2 => hq ?_ M' q1 ((A2.of a3 (by decide)).tr q2))
          unfold un_copy
          rw [htt, if_neg (fun q => by omega)]
      · rw [show (29 : Int32) = nI 29 from rfl, nI_leI (by omega) (by decide)] at z
        unfold un_copy
        rw [htt, if_neg (fun q => z q.2.2.1)]
    · have A2 : pm_ag uk_ks M M2 := ((a1.wd (ks' := uk_ks) (by decide)).of a4 (by decide)).of a2 (by decide)
      have X2 : uk_x M2 P := rd_x r2 (((g3.keep a1 (by decide) (by decide)).keep a4 (by decide) (by decide)).keep a2 (by decide) (by decide)) (Or.inl (by rw [a2 4 (by decide), pm_up_off (Or.inr (by decide)), a1 4 (by decide)]; exact g2))
      refine w_tc_x2 hu X2 (by rw [a2 4 (by decide), pm_up_hit]) (by omega) (fun M' q1 q2 => hq ?_ M' q1 (A2.tr q2))
      unfold un_copy
      rw [if_neg (fun q => by omega)]
  · have X1 : uk_x M1 P := rd_x r1 (g3.keep a1 (by decide) (by decide)) (Or.inl (by rw [a1 4 (by decide)]; exact g2))
    refine w_tc_x1 (by omega) d4 X1 (fun M' q1 q2 => hq ?_ M' q1 ((a1.wd (by decide)).tr q2))
    unfold un_copy
    rw [if_neg (fun q => by omega)]
