def pk_n1 (n : Nat) : Nat := (cd_lb (cd_co (nI n))).toNatClampNeg
def pk_n2 (d : Nat) : Nat := (cd_db (cd_no (nI d))).toNatClampNeg
def pk_cp (n d : Nat) : List Int32 := pk_cb (cd_co (nI n)) ++ (bi_lo (nI n - cd_ll (cd_co (nI n))) (pk_n1 n) ++ (bi_hi (cd_no (nI d)) 5 ++ bi_lo (nI d - cd_ld (cd_no (nI d))) (pk_n2 d)))
theorem pk_n1_ok : ∀ n, n < 259 → 3 ≤ n → cd_lb (cd_co (nI n)) = nI (pk_n1 n) ∧ pk_n1 n ≤ 5 ∧ (pk_cb (cd_co (nI n))).length ≤ 8 := by decide +kernel
theorem pk_n2_ok : ∀ d, d < 301 → 1 ≤ d → cd_db (cd_no (nI d)) = nI (pk_n2 d) ∧ pk_n2 d ≤ 7 := by decide +kernel
theorem pk_cp_len {n d : Nat} (hn : 3 ≤ n) (hn2 : n < 259) (hd : 1 ≤ d) (hd2 : d < 301) : (pk_cp n d).length ≤ 25 := by
  have h1 := pk_n1_ok n hn2 hn
  have h2 := pk_n2_ok d hd2 hd
  unfold pk_cp
  rw [List.length_append, List.length_append, List.length_append, bi_lo_len, bi_lo_len, bi_hi_len]
  omega
theorem w_Pack_putCopy {S d : Nat} {Q : pm_Q} {M : pm_M} {n ds t : Nat} {l : List Int32} (hn : 3 ≤ n) (hn2 : n < 259) (hd : 1 ≤ ds) (hd2 : ds < 301) (h44 : M 4 4 = nI n) (h45 : M 4 5 = nI ds) (hl : bi_is M l t) (hc : t + 27 ≤ 5600) (hq : ∀ M', bi_is M' (bi_ps l t (pk_cp n ds)) (t + (pk_cp n ds).length) → pm_ag [4, 7, 8, 9] M M' → M' 4 2 = M 4 2 + 1 → M' 4 4 = nI n → Q none M') : pm_PC S (d + 5) 54 [.inr (.inr 4)] M Q := by
  obtain ⟨a1, a2, a3⟩ := pk_n1_ok n hn2 hn
  obtain ⟨b1, b2⟩ := pk_n2_ok ds hd2 hd
  refine e_Pack_putCopy (k_Pack_putCopy_0 ?_)
  rw [h44]
  refine w_Codes_codeOfLength (k_Pack_putCopy_7 (w_Pack_putCode hl (by omega) (fun M1 g1 g2 => k_Pack_putCopy_13 (w_Codes_leastLength (k_Pack_putCopy_25 (w_Codes_lengthBits (k_Pack_putCopy_30 ?_)))))))
  rw [a1, show M1 4 4 = nI n by rw [g2 4 (by decide)]; exact h44]
  refine w_Bits_putLowestFirst (by omega) g1 (by omega) (fun M2 q1 q2 => k_Pack_putCopy_33 ?_)
  rw [show M2 4 5 = nI ds by rw [q2 4 (by decide), g2 4 (by decide)]; exact h45]
  refine w_Codes_numberOfDistance (k_Pack_putCopy_40 (w_Bits_putHighestFirst (n := 5) (by decide) q1 (by omega) (fun M3 r1 r2 => k_Pack_putCopy_50 (w_Codes_leastDistance (k_Pack_putCopy_62 (w_Codes_distanceBits (k_Pack_putCopy_67 ?_)))))))
  rw [b1, show M3 4 5 = nI ds by rw [r2 4 (by decide), q2 4 (by decide), g2 4 (by decide)]; exact h45]
  refine w_Bits_putLowestFirst (by omega) r1 (by omega) (fun M4 s1 s2 => k_Pack_putCopy_70 ?_)
  have e4 : M4 4 = M 4 := by rw [s2 4 (by decide), r2 4 (by decide), q2 4 (by decide), g2 4 (by decide)]
  have ha : pm_ag [4, 7, 8, 9] M M4 := (((g2.tr q2).tr r2).tr s2).wd (by decide)
  refine hq _ ?_ (ha.of (pm_ag.up (ks := [4]) (by simp)) (by decide)) ?_ ?_
  · have e : bi_ps l t (pk_cp n ds) = bi_ps (bi_ps (bi_ps (bi_ps l t (pk_cb (cd_co (nI n)))) (t + (pk_cb (cd_co (nI n))).length) (bi_lo (nI n - cd_ll (cd_co (nI n))) (pk_n1 n))) (t + (pk_cb (cd_co (nI n))).length + pk_n1 n) (bi_hi (cd_no (nI ds)) 5)) (t + (pk_cb (cd_co (nI n))).length + pk_n1 n + 5) (bi_lo (nI ds - cd_ld (cd_no (nI ds))) (pk_n2 ds)) := by
      unfold pk_cp
      rw [bi_ps_app, bi_ps_app, bi_ps_app, bi_lo_len, bi_hi_len]
    have e2 : t + (pk_cp n ds).length = t + (pk_cb (cd_co (nI n))).length + pk_n1 n + 5 + pk_n2 ds := by
      unfold pk_cp
      rw [List.length_append, List.length_append, List.length_append, bi_lo_len, bi_lo_len, bi_hi_len]
      omega
    rw [e, e2]
    exact s1.keep (ks := [4]) (pm_ag.up (by simp)) (by decide) (by decide) (by decide)
  · rw [pm_up_hit, e4]
  · rw [pm_up_off (Or.inr (by decide)), e4]
    exact h44
/-- the bits of the data from q on, and the copies among them; k is fuel -/
def pk_bs (D : List Int32) : Nat → Nat → List Int32
  | 0, _ => []
  | k + 1, q => if q < D.length then (if 3 ≤ (pk_fi D q).1 then pk_cp (pk_fi D q).1 (pk_fi D q).2 ++ pk_bs D k (q + (pk_fi D q).1) else pk_cb ((D[q]?).getD (-1)) ++ pk_bs D k (q + 1)) else []
def pk_cc (D : List Int32) : Nat → Nat → Nat
  | 0, _ => 0
  | k + 1, q => if q < D.length then (if 3 ≤ (pk_fi D q).1 then pk_cc D k (q + (pk_fi D q).1) + 1 else pk_cc D k (q + 1)) else 0
theorem pk_fi_ok {D : List Int32} {q : Nat} (hq : q < D.length) (h3 : 3 ≤ (pk_fi D q).1) : (pk_fi D q).1 ≤ D.length - q ∧ (pk_fi D q).1 < 259 ∧ 1 ≤ (pk_fi D q).2 ∧ (pk_fi D q).2 ≤ q := by
  have h1 : (pk_fi D q).1 ≤ pk_mo D q := pk_sr_le D q _ q 1 (0, 0) (Nat.zero_le _)
  have h2 : (pk_fi D q).2 < 1 + q := pk_sr_d D q _ q 1 (0, 0) (by decide)
  have h4 := pk_sr_p D q (pk_mo D q) q 1 (0, 0) (fun h => absurd h (Nat.lt_irrefl 0)) (by decide) (show 0 < (pk_fi D q).1 by omega)
  have h4' : 0 < (pk_fi D q).2 := h4
  have hmo : pk_mo D q = min 258 (D.length - q) := rfl
  omega
theorem pk_bs_len {D : List Int32} (hD : D.length ≤ 300) : ∀ k q, q ≤ D.length → (pk_bs D k q).length ≤ 9 * (D.length - q)
  | 0, _, _ => Nat.zero_le _
  | k + 1, q, hq => by
    unfold pk_bs
    split
    · rename_i hlt
      split
      · rename_i h3
        obtain ⟨a, b, c, e⟩ := pk_fi_ok hlt h3
        have h1 := pk_cp_len h3 b c (by omega)
        have h2 := pk_bs_len hD k (q + (pk_fi D q).1) (by omega)
        rw [List.length_append]
        omega
      · have h1 := pk_cb_len ((D[q]?).getD (-1))
        have h2 := pk_bs_len hD k (q + 1) (by omega)
        rw [List.length_append]
        omega
    · exact Nat.zero_le _
theorem w_pack_loop {S d : Nat} {Q : pm_Q} {D : List Int32} (hD : D.length ≤ 300) : ∀ (k q : Nat) (M : pm_M) (l : List Int32) (t m : Nat), D.length - q < k → q ≤ D.length → by_is M 5 D → bi_is M l t → t + 9 * (D.length - q) + 9 ≤ 4000 → M 4 2 = nI m → (∀ M', by_is M' 5 D → bi_is M' (bi_ps l t (pk_bs D k q)) (t + (pk_bs D k q).length) → M' 4 2 = nI (m + pk_cc D k q) → pm_ag [4, 7, 8, 9] M M' → ∀ x1, pm_R S (pm_PC S (d + 5)) Q 52 123 [some (.inr (.inr 4)), some (.inl x1)] [] M') → pm_R S (pm_PC S (d + 5)) Q 52 67 [some (.inr (.inr 4)), some (.inl (nI q))] [] M := by
  have hb : by_b 5 := Or.inr (Or.inl rfl)
  intro k
  induction k with
  | zero => intro q M l t m hk; omega
  | succ k ih =>
    intro q M l t m hk hq0 h5 hl hc hm hq
    unfold pk_bs pk_cc at hq
    refine k_Pack_pack_67 (fun h => ?_) (fun h => k_Pack_pack_78 ?_)
    · rw [h5.1, nI_leI (by omega) (by omega)] at h
      rw [if_neg (by omega), if_neg (by omega)] at hq
      exact hq M h5 hl hm pm_ag.rf _
    · rw [h5.1, nI_leI (by omega) (by omega)] at h
      have hlt : q < D.length := by omega
      rw [if_pos hlt, if_pos hlt] at hq
      refine w_Pack_findCopy h5 hq0 (fun M1 g1 g2 g3 g4 g5 => ?_)
      have hmo : pk_mo D q = min 258 (D.length - q) := rfl
      have hle : (pk_fi D q).1 ≤ pk_mo D q := pk_sr_le D q _ q 1 (0, 0) (Nat.zero_le _)
      have h51 := h5.keep g3 (by decide) (by decide)
      have hl1 := hl.keep g3 (by decide) (by decide) (by decide)
      refine k_Pack_pack_83 (fun h2 => k_Pack_pack_105 ?_) (fun h2 => k_Pack_pack_91 ?_)
      · rw [g1, show (3 : Int32) = nI 3 from rfl, nI_ltI (by omega) (by decide)] at h2
        rw [if_neg (by omega), if_neg (by omega)] at hq
        refine w_Bytes_at hb h51 (k_Pack_pack_114 ?_)
        rw [by_at_nI (by omega)]
        refine w_Pack_putCode hl1 (by omega) (fun M2 q1 q2 => k_Pack_pack_117 ?_)
        rw [nI_1]
        have hcb := pk_cb_len ((D[q]?).getD (-1))
        refine ih (q + 1) M2 _ _ m (by omega) (by omega) (h51.keep q2 (by decide) (by decide)) q1 (by omega) (by rw [q2 4 (by decide), g4]; exact hm) (fun M3 r1 r2 r3 r4 x1 => hq M3 r1 ?_ r3 ((g3.wd (by decide)).tr ((q2.wd (by decide)).tr r4)) x1)
        rw [bi_ps_app, List.length_append, ← Nat.add_assoc]
        exact r2
      · rw [g1, show (3 : Int32) = nI 3 from rfl, nI_ltI (by omega) (by decide)] at h2
        have h3 : 3 ≤ (pk_fi D q).1 := by omega
        rw [if_pos h3, if_pos h3] at hq
        obtain ⟨a, b, c, e⟩ := pk_fi_ok hlt h3
        refine w_Pack_putCopy h3 b c (by omega) g1 g2 hl1 (by omega) (fun M2 q1 q2 q3 q4 => k_Pack_pack_95 ?_)
        rw [q4, nI_add]
        have hcb := pk_cp_len h3 b c (show (pk_fi D q).2 < 301 by omega)
        refine ih (q + (pk_fi D q).1) M2 _ _ (m + 1) (by omega) (by omega) (h51.keep q2 (by decide) (by decide)) q1 (by omega) (by rw [q3, g4, hm, nI_1]) (fun M3 r1 r2 r3 r4 x1 => hq M3 r1 ?_ ?_ ((g3.wd (by decide)).tr (q2.tr r4)) x1)
        · rw [bi_ps_app, List.length_append, ← Nat.add_assoc]
          exact r2
        · rw [r3]
          congr 1
          omega
def pk_bits (D : List Int32) : List Int32 := [1] ++ (bi_lo 1 2 ++ (pk_bs D (D.length + 1) 0 ++ pk_cb 256))
def pk_of (D : List Int32) : List Int32 := bi_ps [120, 1] 16 (pk_bits D) ++ by_be (su_l D)
theorem pk_bits_len {D : List Int32} (hD : D.length ≤ 300) : (pk_bits D).length ≤ 12 + 9 * D.length := by
  have h1 := pk_bs_len hD (D.length + 1) 0 (Nat.zero_le _)
  have h2 := pk_cb_len 256
  unfold pk_bits
  rw [List.length_append, List.length_append, List.length_append, bi_lo_len]
  simp only [List.length_cons, List.length_nil]
  omega
theorem pk_of_len {D : List Int32} (hD : D.length ≤ 300) : (pk_of D).length ≤ 350 := by
  have h1 := pk_bits_len hD
  unfold pk_of
  rw [List.length_append, bi_ps_len (pk_bits D) (l := [120, 1]) (t := 16) rfl, by_be_len]
  omega
theorem w_Pack_pack {S d : Nat} {Q : pm_Q} {M : pm_M} {D : List Int32} (h5 : by_is M 5 D) (hq : ∀ M', by_is M' 8 (pk_of D) → by_is M' 5 D → M' 4 2 = nI (pk_cc D (D.length + 1) 0) → pm_ag [4, 7, 8, 9] M M' → Q none M') : pm_PC S (d + 6) 52 [.inr (.inr 4)] M Q := by
  have hD : D.length ≤ 300 := h5.2.1
  have hb8 : by_b 8 := Or.inr (Or.inr rfl)
  have hb5 : by_b 5 := Or.inr (Or.inl rfl)
  have hc8 : by_c 8 = 700 := rfl
  refine e_Pack_pack (k_Pack_pack_0 (w_Bytes_clear hb8 (fun M1 g1 g2 => k_Pack_pack_15 (w_Bytes_add hb8 g1 (by rw [hc8]; simp) (fun M2 g3 g4 => k_Pack_pack_27 (w_Bytes_add hb8 g3 (by rw [hc8]; simp) (fun M3 g5 g6 => k_Pack_pack_39 (w_Bits_startAtByte (k := 2) (fun M4 g7 g8 g9 => k_Pack_pack_48 ?_)))))))))
  have ha : pm_ag [4, 7, 8, 9] M M4 := (((pm_ag.up (ks := [4, 7, 8, 9]) (by simp)).of g2 (by decide)).of g4 (by decide)).of g6 (by decide) |>.of g9 (by decide)
  have e42 : M4 4 2 = nI 0 := by rw [g9 4 (by decide), g6 4 (by decide), g4 4 (by decide), g2 4 (by decide), pm_up_hit]; rfl
  have b0 : bi_is M4 [120, 1] 16 := ⟨g5.keep g9 (by decide) (by decide), g7, rfl⟩
  have h54 : by_is M4 5 D := h5.keep ha (by decide) (by decide)
  refine w_Bits_put b0 (by decide) (fun M5 q1 q2 => k_Pack_pack_56 (w_Bits_putLowestFirst (n := 2) (by decide) q1 (by decide) (fun M6 q3 q4 => k_Pack_pack_65 ?_)))
  refine w_pack_loop hD (D.length + 1) 0 M6 _ 19 0 (by omega) (Nat.zero_le _) ((h54.keep q2 (by decide) (by decide)).keep q4 (by decide) (by decide)) q3 (by omega) (by rw [q4 4 (by decide), q2 4 (by decide)]; exact e42) (fun M7 r1 r2 r3 r4 x1 => k_Pack_pack_123 ?_)
  have hbl := pk_bs_len hD (D.length + 1) 0 (Nat.zero_le _)
  refine w_Pack_putCode r2 (by omega) (fun M8 s1 s2 => k_Pack_pack_130 (w_Bytes_sum hb5 (r1.keep s2 (by decide) (by decide)) (k_Pack_pack_144 ?_)))
  have el : bi_ps (bi_ps (bi_ps (bi_put [120, 1] 16 1) (16 + 1) (bi_lo 1 2)) 19 (pk_bs D (D.length + 1) 0)) (19 + (pk_bs D (D.length + 1) 0).length) (pk_cb 256) = bi_ps [120, 1] 16 (pk_bits D) := by
    unfold pk_bits
    rw [bi_ps_app, bi_ps_app, bi_ps_app, bi_lo_len]
    rfl
  have hs1 := s1.1
  rw [el] at hs1
  have hlen := bi_ps_len (pk_bits D) (l := [120, 1]) (t := 16) rfl
  have hbits := pk_bits_len hD
  refine w_Bytes_addNumber hb8 hs1 (by rw [hc8, hlen]; omega) (fun M9 t1 t2 => k_Pack_pack_147 (hq M9 t1 ?_ ?_ ?_))
  · exact (r1.keep s2 (by decide) (by decide)).keep t2 (by decide) (by decide)
  · rw [t2 4 (by decide), s2 4 (by decide), r3, Nat.zero_add]
  · exact ((((ha.of q2 (by decide)).of q4 (by decide)).tr r4).of s2 (by decide)).of t2 (by decide)
