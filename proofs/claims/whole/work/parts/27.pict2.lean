theorem pc_kd {kd dp w h : Nat} (hok : pc_ok kd dp w h) : kd = 0 ∨ kd = 2 ∨ kd = 4 ∨ kd = 6 := by
  rcases hok.1 with ⟨z, -⟩ | ⟨z, -⟩
  · exact Or.inl z
  · exact Or.inr z
theorem pc_dp {kd dp w h : Nat} (hok : pc_ok kd dp w h) : dp = 1 ∨ dp = 2 ∨ dp = 4 ∨ dp = 8 := by
  rcases hok.1 with ⟨-, z⟩ | ⟨-, z⟩
  · exact z
  · exact Or.inr (Or.inr (Or.inr z))
theorem pc_pp_le (kd : Nat) : 1 ≤ pc_pp kd ∧ pc_pp kd ≤ 4 := by
  unfold pc_pp
  split
  · omega
  · split
    · omega
    · split <;> omega
theorem w_Pict_samplesAPoint {S d b : Nat} {Q : pm_Q} {M : pm_M} {kd : Nat} (hb : pc_b b) (hk : kd = 0 ∨ kd = 2 ∨ kd = 4 ∨ kd = 6) (hM : M b 1 = nI kd) (hq : Q (some (.inl (nI (pc_pp kd)))) M) : pm_PC S (d + 1) 29 [.inr (.inr b)] M Q := by
  rcases hk with rfl | rfl | rfl | rfl
  · exact e_Pict_samplesAPoint (k_Pict_samplesAPoint_0 hb (fun _ => k_Pict_samplesAPoint_46 hq) (fun n o h e => absurd (by rw [hM] at e; exact e) (by show ¬ (0 : Int) = 2 + n; omega)))
  · exact e_Pict_samplesAPoint (k_Pict_samplesAPoint_0 hb (fun h => absurd (by rw [hM] at h; exact h) (by decide)) (sw_at 0 36 (by rw [hM]; rfl) rfl (k_Pict_samplesAPoint_40 hq)))
  · exact e_Pict_samplesAPoint (k_Pict_samplesAPoint_0 hb (fun h => absurd (by rw [hM] at h; exact h) (by decide)) (sw_at 2 38 (by rw [hM]; rfl) rfl (k_Pict_samplesAPoint_42 hq)))
  · exact e_Pict_samplesAPoint (k_Pict_samplesAPoint_0 hb (fun h => absurd (by rw [hM] at h; exact h) (by decide)) (sw_at 4 40 (by rw [hM]; rfl) rfl (k_Pict_samplesAPoint_44 hq)))
theorem pc_pl {x y c w h p : Nat} (hx : x < w) (hy : y < h) (hc : c < p) (hw : w ≤ 8) (hh : h ≤ 8) (hp : p ≤ 4) : (y * w + x) * p + c < 256 := by
  have h1 : y * w + x ≤ 63 := by
    have : y * w ≤ 7 * w := Nat.mul_le_mul_right w (by omega)
    omega
  have h2 : (y * w + x) * p ≤ 63 * p := Nat.mul_le_mul_right _ h1
  omega
/-- inside: three naturals below the shape's -/
theorem w_Pict_placeOf {S d b : Nat} {Q : pm_Q} {M : pm_M} {kd dp w h : Nat} {X Y C : Int32} (hb : pc_b b) (hok : pc_ok kd dp w h) (hs : pc_sh M b kd dp w h) (hy : ∀ x y c : Nat, x < w → y < h → c < pc_pp kd → X = nI x → Y = nI y → C = nI c → Q (some (.inl (nI ((y * w + x) * pc_pp kd + c)))) M) (hn : (X < 0 ∨ nI w ≤ X ∨ Y < 0 ∨ nI h ≤ Y ∨ C < 0 ∨ nI (pc_pp kd) ≤ C) → Q (some (.inl (-1))) M) : pm_PC S (d + 2) 30 [.inr (.inr b), .inl X, .inl Y, .inl C] M Q := by
  obtain ⟨s1, s2, s3, s4⟩ := hs
  have hkd := pc_kd hok
  obtain ⟨-, hw, hh⟩ := hok
  have hpp := pc_pp_le kd
  refine e_Pict_placeOf (k_Pict_placeOf_0 hb (w_Pict_samplesAPoint hb hkd s1 ?_))
  refine k_Pict_placeOf_4 (fun z => k_Pict_placeOf_40 (hn (Or.inl z))) (fun h1 => k_Pict_placeOf_10 hb (fun z => k_Pict_placeOf_40 (hn (Or.inr (Or.inl (by rw [← s3]; exact z))))) (fun h2 => k_Pict_placeOf_18 (fun z => k_Pict_placeOf_40 (hn (Or.inr (Or.inr (Or.inl z))))) (fun h3 => k_Pict_placeOf_22 hb (fun z => k_Pict_placeOf_40 (hn (Or.inr (Or.inr (Or.inr (Or.inl (by rw [← s4]; exact z))))))) (fun h4 => k_Pict_placeOf_30 (fun z => k_Pict_placeOf_40 (hn (Or.inr (Or.inr (Or.inr (Or.inr (Or.inl z))))))) (fun h5 => k_Pict_placeOf_34 (fun h6 => k_Pict_placeOf_42 hb ?_) (fun z => k_Pict_placeOf_40 (hn (Or.inr (Or.inr (Or.inr (Or.inr (Or.inr (Int32.not_lt.mp z)))))))))))))
  obtain ⟨x, hx, rfl⟩ := nI_of h1
  obtain ⟨y, hy', rfl⟩ := nI_of h3
  obtain ⟨c, hc, rfl⟩ := nI_of h5
  rw [s3, nI_leI (by omega) hx] at h2
  rw [s4, nI_leI (by omega) hy'] at h4
  rw [nI_ltI hc (by omega)] at h6
  rw [s3, pk_mul, nI_add, pk_mul, nI_add]
  exact hy x y c (by omega) (by omega) h6 rfl rfl rfl
theorem w_Pict_sampleAt {S d b : Nat} {Q : pm_Q} {M : pm_M} {kd dp w h : Nat} {X Y C : Int32} (hb : pc_b b) (hok : pc_ok kd dp w h) (hs : pc_sh M b kd dp w h) (hy : ∀ x y c : Nat, x < w → y < h → c < pc_pp kd → X = nI x → Y = nI y → C = nI c → Q (some (.inl (M (b + 1) ((y * w + x) * pc_pp kd + c)))) M) (hn : (X < 0 ∨ nI w ≤ X ∨ Y < 0 ∨ nI h ≤ Y ∨ C < 0 ∨ nI (pc_pp kd) ≤ C) → Q (some (.inl (-1))) M) : pm_PC S (d + 3) 31 [.inr (.inr b), .inl X, .inl Y, .inl C] M Q := by
  refine e_Pict_sampleAt (k_Pict_sampleAt_0 hb (w_Pict_placeOf hb hok hs (fun x y c hx hy' hc ex ey ec => ?_) (fun hz => ?_)))
  · have hlt := pc_pl hx hy' hc hok.2.1.2 hok.2.2.2 (pc_pp_le kd).2
    refine k_Pict_sampleAt_7 (fun _ => k_Pict_sampleAt_19 hb ?_ (k_Pict_sampleAt_26 ?_)) (fun z => ?_)
    · rw [pc_rf hb, pc_ln hb]
      exact vp_in_nI hlt (by decide)
    · rw [pc_rf hb, nI_clamp (by omega)]
      exact hy x y c hx hy' hc ex ey ec
    · exfalso
      have z := Classical.not_not.mp z
      have z2 := congrArg Int32.toInt z
      rw [nI_toInt (by omega)] at z2
      have : (-1 : Int32).toInt = -1 := by decide
      omega
  · exact k_Pict_sampleAt_7 (fun z => absurd rfl z) (fun _ => k_Pict_sampleAt_15 (k_Pict_sampleAt_26 (hn hz)))
theorem w_Pict_putSample {S d b : Nat} {Q : pm_Q} {M : pm_M} {kd dp w h : Nat} {X Y C V : Int32} (hb : pc_b b) (hok : pc_ok kd dp w h) (hs : pc_sh M b kd dp w h) (hy : ∀ x y c v : Nat, x < w → y < h → c < pc_pp kd → v < 2 ^ dp → X = nI x → Y = nI y → C = nI c → V = nI v → Q (some (.inl 1)) (pm_up M (b + 1) ((y * w + x) * pc_pp kd + c) V)) (hn : (X < 0 ∨ nI w ≤ X ∨ Y < 0 ∨ nI h ≤ Y ∨ C < 0 ∨ nI (pc_pp kd) ≤ C ∨ V < 0 ∨ nI (2 ^ dp) ≤ V) → Q (some (.inl 0)) M) : pm_PC S (d + 3) 32 [.inr (.inr b), .inl X, .inl Y, .inl C, .inl V] M Q := by
  have e2 : pm_ishl 1 (M b 2) = nI (2 ^ dp) := by
    rw [hs.2.1]
    rcases pc_dp hok with rfl | rfl | rfl | rfl <;> decide
  have h2d : 2 ^ dp ≤ 256 := by rcases pc_dp hok with rfl | rfl | rfl | rfl <;> decide
  refine e_Pict_putSample (k_Pict_putSample_0 hb (w_Pict_placeOf hb hok hs (fun x y c hx hy' hc ex ey ec => ?_) (fun hz => ?_)))
  · have hlt := pc_pl hx hy' hc hok.2.1.2 hok.2.2.2 (pc_pp_le kd).2
    refine k_Pict_putSample_7 (fun z => ?_) (fun _ => k_Pict_putSample_15 (fun z => k_Pict_putSample_31 (hn ?_)) (fun h1 => k_Pict_putSample_20 hb (fun h2 => k_Pict_putSample_33 hb ?_ ?_) (fun z => k_Pict_putSample_31 (hn ?_))))
    · exfalso
      have z2 := congrArg Int32.toInt z
      rw [nI_toInt (by omega)] at z2
      have : (-1 : Int32).toInt = -1 := by decide
      omega
    · exact Or.inr (Or.inr (Or.inr (Or.inr (Or.inr (Or.inr (Or.inl z))))))
    · rw [pc_rf hb, pc_wl hb]
      exact vp_in_nI hlt (by decide)
    · rw [pc_rf hb, nI_clamp (by omega)]
      obtain ⟨v, hv, rfl⟩ := nI_of h1
      rw [e2, nI_ltI hv (by omega)] at h2
      exact hy x y c v hx hy' hc h2 ex ey ec rfl
    · rw [e2] at z
      exact Or.inr (Or.inr (Or.inr (Or.inr (Or.inr (Or.inr (Or.inr (Int32.not_lt.mp z)))))))
  · refine k_Pict_putSample_7 (fun _ => k_Pict_putSample_31 (hn ?_)) (fun z => absurd rfl z)
    rcases hz with z | z | z | z | z | z
    · exact Or.inl z
    · exact Or.inr (Or.inl z)
    · exact Or.inr (Or.inr (Or.inl z))
    · exact Or.inr (Or.inr (Or.inr (Or.inl z)))
    · exact Or.inr (Or.inr (Or.inr (Or.inr (Or.inl z))))
    · exact Or.inr (Or.inr (Or.inr (Or.inr (Or.inr (Or.inl z)))))
theorem w_Pict_firstPass {S d : Nat} {Q : pm_Q} {M : pm_M} {s : Int32} (hq : Q (some (.inl (if s = 0 then 7 else 0))) M) : pm_PC S (d + 1) 33 [.inl s] M Q := by
  refine e_Pict_firstPass (k_Pict_firstPass_0 (fun h => k_Pict_firstPass_8 (k_Pict_firstPass_10 ?_)) (fun h => k_Pict_firstPass_4 (k_Pict_firstPass_10 ?_)))
  · rw [if_pos h] at hq; exact hq
  · rw [if_neg h] at hq; exact hq
theorem w_Pict_lastPass {S d : Nat} {Q : pm_Q} {M : pm_M} {s : Int32} (hq : Q (some (.inl (if s = 0 then 7 else 6))) M) : pm_PC S (d + 1) 34 [.inl s] M Q := by
  refine e_Pict_lastPass (k_Pict_lastPass_0 (fun h => k_Pict_lastPass_9 (k_Pict_lastPass_11 ?_)) (fun h => k_Pict_lastPass_4 (k_Pict_lastPass_11 ?_)))
  · rw [if_pos h] at hq; exact hq
  · rw [if_neg h] at hq; exact hq
def ps_x0 (p : Nat) : Nat := ([0, 4, 0, 2, 0, 1, 0, 0] : List Nat).getD p 0
def ps_y0 (p : Nat) : Nat := ([0, 0, 4, 0, 2, 0, 1, 0] : List Nat).getD p 0
def ps_dx (p : Nat) : Nat := ([8, 8, 4, 4, 2, 2, 1, 1] : List Nat).getD p 1
def ps_dy (p : Nat) : Nat := ([8, 8, 8, 4, 4, 2, 2, 1] : List Nat).getD p 1
def ps_sg (p : Nat) : Nat := ([137, 80, 78, 71, 13, 10, 26, 10] : List Nat).getD p 0
def ps_is (M : pm_M) : Prop := ∀ i, i < 8 → M 26 i = nI (ps_x0 i) ∧ M 27 i = nI (ps_y0 i) ∧ M 28 i = nI (ps_dx i) ∧ M 29 i = nI (ps_dy i) ∧ M 30 i = nI (ps_sg i)
theorem ps_is.keep {M M' : pm_M} {ks : List Nat} (h : ps_is M) (ha : pm_ag ks M M') (hk : ∀ k ∈ ks, k < 26) : ps_is M' := by
  intro i hi
  rw [ha 26 (fun z => absurd (hk _ z) (by decide)), ha 27 (fun z => absurd (hk _ z) (by decide)), ha 28 (fun z => absurd (hk _ z) (by decide)), ha 29 (fun z => absurd (hk _ z) (by decide)), ha 30 (fun z => absurd (hk _ z) (by decide))]
  exact h i hi
/-- points in a row, rows, bytes of a row of a pass; how far back the filters look -/
def ps_pt (p w : Nat) : Nat := (w + (ps_dx p - 1 - ps_x0 p)) / ps_dx p
def ps_rw (p w h : Nat) : Nat := if ps_pt p w = 0 then 0 else (h + (ps_dy p - 1 - ps_y0 p)) / ps_dy p
def ps_sz (p w pp dp : Nat) : Nat := (ps_pt p w * pp * dp + 7) / 8
def ps_un (pp dp : Nat) : Nat := max 1 (pp * dp / 8)
theorem ps_pt_e : ∀ p, p < 8 → ∀ w, w < 9 → ((nI w - nI (ps_x0 p)) + nI (ps_dx p)) - 1 = nI (w + (ps_dx p - 1 - ps_x0 p)) ∧ ((nI w - nI (ps_y0 p)) + nI (ps_dy p)) - 1 = nI (w + (ps_dy p - 1 - ps_y0 p)) ∧ ¬ nI (ps_dx p) = 0 ∧ ¬ nI (ps_dy p) = 0 ∧ ps_dx p ≤ 8 ∧ ps_dy p ≤ 8 ∧ 0 < ps_dx p ∧ 0 < ps_dy p ∧ ps_pt p w ≤ 8 ∧ ps_rw p w 8 ≤ 8 := by decide +kernel
theorem w_Pict_pointsInRow {S d b : Nat} {Q : pm_Q} {M : pm_M} {p w : Nat} (hb : pc_b b) (hw : w < 9) (hp : p < 8) (hs : M b 3 = nI w) (hst : ps_is M) (hq : Q (some (.inl (nI (ps_pt p w)))) M) : pm_PC S (d + 1) 35 [.inr (.inr b), .inl (nI p)] M Q := by
  obtain ⟨e1, e2, e3, e4, e5, e6, e7, e8, -⟩ := ps_pt_e p hp w hw
  obtain ⟨t1, t2, t3, t4, -⟩ := hst p hp
  have hc : (nI p).toNatClampNeg = p := nI_clamp (by omega)
  refine e_Pict_pointsInRow (k_Pict_pointsInRow_0 hb (vp_in_nI hp (by decide)) (vp_in_nI hp (by decide)) (vp_in_nI hp (by decide)) (by rw [hc, t3]; exact e3) ?_)
  rw [hc, t1, t3, hs, e1, pk_div (by omega) e7 (by omega)]
  exact hq
theorem w_Pict_rowsInPass {S d b : Nat} {Q : pm_Q} {M : pm_M} {p w h : Nat} (hb : pc_b b) (hw : w < 9) (hh : h < 9) (hp : p < 8) (hs : M b 3 = nI w) (hs2 : M b 4 = nI h) (hst : ps_is M) (hq : Q (some (.inl (nI (ps_rw p w h)))) M) : pm_PC S (d + 2) 36 [.inr (.inr b), .inl (nI p)] M Q := by
  obtain ⟨e1, e2, e3, e4, e5, e6, e7, e8, e9, -⟩ := ps_pt_e p hp w hw
  obtain ⟨f1, f2, -⟩ := ps_pt_e p hp h hh
  obtain ⟨t1, t2, t3, t4, -⟩ := hst p hp
  have hc : (nI p).toNatClampNeg = p := nI_clamp (by omega)
  refine e_Pict_rowsInPass (k_Pict_rowsInPass_0 hb (w_Pict_pointsInRow hb hw hp hs hst (k_Pict_rowsInPass_5 (fun z => k_Pict_rowsInPass_10 hb (vp_in_nI hp (by decide)) (vp_in_nI hp (by decide)) (vp_in_nI hp (by decide)) (by rw [hc, t4]; exact e4) ?_) (fun z => k_Pict_rowsInPass_8 ?_))))
  · have hz : ¬ ps_pt p w = 0 := fun q => z (by rw [q]; rfl)
    rw [ps_rw, if_neg hz] at hq
    rw [hc, t2, t4, hs2, f2, pk_div (by omega) e8 (by omega)]
    exact hq
  · have hz : ps_pt p w = 0 := (nI_eq (a := ps_pt p w) (b := 0) (by omega) (by decide)).mp (Classical.not_not.mp z)
    rw [ps_rw, if_pos hz] at hq
    exact hq
theorem w_Pict_rowSize {S d b : Nat} {Q : pm_Q} {M : pm_M} {p kd dp w h : Nat} (hb : pc_b b) (hok : pc_ok kd dp w h) (hs : pc_sh M b kd dp w h) (hp : p < 8) (hst : ps_is M) (hq : Q (some (.inl (nI (ps_sz p w (pc_pp kd) dp)))) M) : pm_PC S (d + 2) 37 [.inr (.inr b), .inl (nI p)] M Q := by
  have hw : w < 9 := by have := hok.2.1; omega
  obtain ⟨-, -, -, -, -, -, -, -, e9, -⟩ := ps_pt_e p hp w hw
  have hpp := pc_pp_le kd
  have hdp : dp ≤ 8 := by rcases pc_dp hok with rfl | rfl | rfl | rfl <;> decide
  have hb1 : ps_pt p w * pc_pp kd * dp ≤ 8 * 4 * 8 := Nat.mul_le_mul (Nat.mul_le_mul e9 hpp.2) hdp
  refine e_Pict_rowSize (k_Pict_rowSize_0 hb (w_Pict_pointsInRow hb hw hp hs.2.2.1 hst (k_Pict_rowSize_5 hb (w_Pict_samplesAPoint hb (pc_kd hok) hs.1 (k_Pict_rowSize_9 hb ?_)))))
  rw [hs.2.1, pk_mul, pk_mul, show (7 : Int32) = nI 7 from rfl, nI_add, show (8 : Int32) = nI 8 from rfl, pk_div (by omega) (by decide) (by decide)]
  exact hq
theorem w_Pict_unit {S d b : Nat} {Q : pm_Q} {M : pm_M} {kd dp w h : Nat} (hb : pc_b b) (hok : pc_ok kd dp w h) (hs : pc_sh M b kd dp w h) (hq : Q (some (.inl (nI (ps_un (pc_pp kd) dp)))) M) : pm_PC S (d + 2) 38 [.inr (.inr b)] M Q := by
  refine e_Pict_unit (k_Pict_unit_0 hb (w_Pict_samplesAPoint hb (pc_kd hok) hs.1 (k_Pict_unit_5 hb ?_)))
  rw [hs.2.1]
  have e : pm_max 1 (nI (pc_pp kd) * nI dp / 8) = nI (ps_un (pc_pp kd) dp) := by
    rcases pc_kd hok with rfl | rfl | rfl | rfl <;> rcases pc_dp hok with rfl | rfl | rfl | rfl <;> decide
  rw [e]
  exact hq
