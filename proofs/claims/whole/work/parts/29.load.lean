/-! Row.load: a row's bytes out of its samples. -/
def rb_f (dp : Nat) (s : Nat → Int32) : Nat → Nat → Int32
  | 0, _ => 0
  | m + 1, k => if k = m * dp / 8 then rb_f dp s m k ||| pm_ishl (s m) (nI (8 - dp - m * dp % 8)) else rb_f dp s m k
def rb_s (kd : Nat) (f : Nat → Nat → Nat → Int32) (p r m : Nat) : Int32 := f (ps_x0 p + m / pc_pp kd * ps_dx p) (ps_y0 p + r * ps_dy p) (m % pc_pp kd)
def rw_b (kd dp w : Nat) (f : Nat → Nat → Nat → Int32) (p r : Nat) : Nat → Int32 := rb_f dp (rb_s kd f p r) (ps_pt p w * pc_pp kd)
theorem ps_in_x : ∀ p, p < 8 → ∀ w, w < 9 → ∀ i, i < 9 → i < ps_pt p w → ps_x0 p + i * ps_dx p < w := by decide +kernel
theorem ps_in_y : ∀ p, p < 8 → ∀ h, h < 9 → ∀ i, i < 9 → i < (h + (ps_dy p - 1 - ps_y0 p)) / ps_dy p → ps_y0 p + i * ps_dy p < h := by decide +kernel
theorem ps_rw_le : ∀ p, p < 8 → ∀ h, h < 9 → (h + (ps_dy p - 1 - ps_y0 p)) / ps_dy p ≤ 8 := by decide +kernel
theorem ps_y_in {p w h r : Nat} (hp : p < 8) (hh : h < 9) (hr : r < ps_rw p w h) : ps_y0 p + r * ps_dy p < h ∧ r < 9 := by
  unfold ps_rw at hr
  split at hr
  · omega
  · have := ps_rw_le p hp h hh
    exact ⟨ps_in_y p hp h hh r (by omega) hr, by omega⟩
theorem w_sampleAt_in {S d b : Nat} {Q : pm_Q} {M : pm_M} {kd dp w h : Nat} {f : Nat → Nat → Nat → Int32} {x y c : Nat} (hb : pc_b b) (hok : pc_ok kd dp w h) (hs : pc_is M b kd dp w h f) (hx : x < w) (hy : y < h) (hc : c < pc_pp kd) (hq : Q (some (.inl (f x y c))) M) : pm_PC S (d + 3) 31 [.inr (.inr b), .inl (nI x), .inl (nI y), .inl (nI c)] M Q := by
  have hw := hok.2.1
  have hh := hok.2.2
  have hpp := pc_pp_le kd
  refine w_Pict_sampleAt hb hok hs.1 (fun x' y' c' hx' hy' hc' ex ey ec => ?_) (fun z => ?_)
  · have e1 := (nI_eq (by omega) (by omega)).mp ex
    have e2 := (nI_eq (by omega) (by omega)).mp ey
    have e3 := (nI_eq (by omega) (by omega)).mp ec
    subst e1 e2 e3
    rw [hs.2 _ _ _ hx hy hc]
    exact hq
  · exfalso
    rcases z with z | z | z | z | z | z
    · exact nI_pos (by omega) z
    · exact nI_ge hx (by omega) z
    · exact nI_pos (by omega) z
    · exact nI_ge hy (by omega) z
    · exact nI_pos (by omega) z
    · exact nI_ge hc (by omega) z
theorem w_load_in {S d b : Nat} {Q : pm_Q} {kd dp w h p r i : Nat} {f : Nat → Nat → Nat → Int32} {x2 x3 x4 : Option pm_V} (hb : pc_b b) (hok : pc_ok kd dp w h) (hp : p < 8) (hi : i < ps_pt p w) (hr : r < ps_rw p w h) : ∀ (k c : Nat) (M : pm_M), c + k = pc_pp kd → pc_is M b kd dp w h f → (∀ j, j < 32 → M 13 j = rb_f dp (rb_s kd f p r) (i * pc_pp kd + c) j) → (∀ M' x10, pc_is M' b kd dp w h f → (∀ j, j < 32 → M' 13 j = rb_f dp (rb_s kd f p r) ((i + 1) * pc_pp kd) j) → pm_ag [13] M M' → pm_R S (pm_PC S (d + 3)) Q 41 127 [some (.inr (.inr 12)), some (.inr (.inr b)), x2, x3, x4, some (.inl (nI (pc_pp kd))), some (.inl (nI (ps_y0 p + r * ps_dy p))), some (.inl (nI ((i + 1) * pc_pp kd * dp))), some (.inl (nI i)), some (.inl (nI (ps_x0 p + i * ps_dx p))), x10] [] M') → pm_R S (pm_PC S (d + 3)) Q 41 68 [some (.inr (.inr 12)), some (.inr (.inr b)), x2, x3, x4, some (.inl (nI (pc_pp kd))), some (.inl (nI (ps_y0 p + r * ps_dy p))), some (.inl (nI ((i * pc_pp kd + c) * dp))), some (.inl (nI i)), some (.inl (nI (ps_x0 p + i * ps_dx p))), some (.inl (nI c))] [] M := by
  have hw := hok.2.1
  have hh := hok.2.2
  have hpp := pc_pp_le kd
  have hpt : ps_pt p w ≤ 8 := (ps_pt_e p hp w (by omega)).2.2.2.2.2.2.2.2.1
  have hdp := pc_dp hok
  have hx := ps_in_x p hp w (by omega) i (by omega) hi
  have hy := (ps_y_in hp (by omega) hr).1
  intro k
  induction k with
  | zero =>
    intro c M hc hpc hM hq
    have e : c = pc_pp kd := by omega
    subst e
    rw [show i * pc_pp kd + pc_pp kd = (i + 1) * pc_pp kd by rw [Nat.add_mul, Nat.one_mul]] at hM ⊢
    exact k_Row_load_68 (fun _ => hq M _ hpc hM pm_ag.rf) (fun z => absurd (nI_le (Nat.le_refl _) (by omega)) z)
  | succ k ih =>
    intro c M hc hpc hM hq
    have hm : i * pc_pp kd + c < 32 := by
      have h1 : (i + 1) * pc_pp kd ≤ 8 * 4 := Nat.mul_le_mul (by omega) hpp.2
      rw [Nat.add_mul, Nat.one_mul] at h1
      omega
    generalize hmm : i * pc_pp kd + c = m at hM hm ⊢
    have hmd : m * dp < 256 := by rcases hdp with rfl | rfl | rfl | rfl <;> omega
    have hs : rb_s kd f p r m = f (ps_x0 p + i * ps_dx p) (ps_y0 p + r * ps_dy p) c := by
      have e1 : m / pc_pp kd = i := by rw [← hmm, Nat.mul_comm, Nat.mul_add_div (by omega), Nat.div_eq_of_lt (by omega), Nat.add_zero]
      have e2 : m % pc_pp kd = c := by rw [← hmm, Nat.mul_comm, Nat.mul_add_mod, Nat.mod_eq_of_lt (by omega)]
      unfold rb_s
      rw [e1, e2]
    have e8 : nI (m * dp) / 8 = nI (m * dp / 8) := nm_div8 (by omega)
    have hc8 : (nI (m * dp) / 8).toNatClampNeg = m * dp / 8 := by rw [e8]; exact nI_clamp (by omega)
    have hin : vp_in (nI (m * dp) / 8) 32 := by rw [e8]; exact vp_in_nI (by omega) (by decide)
    refine k_Row_load_68 (fun z => absurd z (nI_ge (by omega) (by omega))) (fun _ => k_Row_load_75 hb hin (w_sampleAt_in hb hok hpc hx hy (by omega) (k_Row_load_96 hb hin ?_)))
    have esh : 8 - M b 2 - pm_irem (nI (m * dp)) 8 = nI (8 - dp - m * dp % 8) := by
      rw [hpc.1.2.1, nm_rem8 (by omega), show (8 : Int32) = nI 8 from rfl, pk_sub (by rcases hdp with rfl | rfl | rfl | rfl <;> omega), pk_sub (by rcases hdp with rfl | rfl | rfl | rfl <;> omega)]
    rw [esh, hc8, hM _ (by omega), hpc.1.2.1, nI_add, nI_1, ← hs, show m * dp + dp = (i * pc_pp kd + (c + 1)) * dp by rw [← Nat.add_assoc, hmm, Nat.add_mul, Nat.one_mul]]
    have hb13 : b ∉ [13] := by rcases hb with rfl | rfl <;> decide
    have hb14 : b + 1 ∉ [13] := by rcases hb with rfl | rfl <;> decide
    refine ih (c + 1) _ (by omega) (hpc.keep (pm_ag.up (ks := [13]) (by simp)) hb13 hb14) (fun j hj => ?_) (fun M' x10 g1 g2 g3 => hq M' x10 g1 g2 ((pm_ag.up (by simp)).tr g3))
    rw [← Nat.add_assoc, hmm]
    show _ = if j = m * dp / 8 then _ else _
    by_cases e : j = m * dp / 8
    · subst e
      rw [if_pos rfl, pm_up_hit]
    · rw [if_neg e, pm_up_off (Or.inr e)]
      exact hM j hj
theorem w_load_out {S d b : Nat} {Q : pm_Q} {kd dp w h p r : Nat} {f : Nat → Nat → Nat → Int32} {x3 : Option pm_V} (hb : pc_b b) (hok : pc_ok kd dp w h) (hp : p < 8) (hr : r < ps_rw p w h) : ∀ (k i : Nat) (M : pm_M) (l9 l10 : Option pm_V), i + k = ps_pt p w → pc_is M b kd dp w h f → ps_is M → (∀ j, j < 32 → M 13 j = rb_f dp (rb_s kd f p r) (i * pc_pp kd) j) → (∀ M', (∀ j, j < 32 → M' 13 j = rw_b kd dp w f p r j) → pm_ag [13] M M' → Q none M') → pm_R S (pm_PC S (d + 3)) Q 41 42 [some (.inr (.inr 12)), some (.inr (.inr b)), some (.inl (nI p)), x3, some (.inl (nI (ps_pt p w))), some (.inl (nI (pc_pp kd))), some (.inl (nI (ps_y0 p + r * ps_dy p))), some (.inl (nI (i * pc_pp kd * dp))), some (.inl (nI i)), l9, l10] [] M := by
  have hw := hok.2.1
  have hpt : ps_pt p w ≤ 8 := (ps_pt_e p hp w (by omega)).2.2.2.2.2.2.2.2.1
  intro k
  induction k with
  | zero =>
    intro i M l9 l10 hi hpc hst hM hq
    have e : i = ps_pt p w := by omega
    subst e
    exact k_Row_load_42 (fun _ => k_Row_load_133 (hq M hM pm_ag.rf)) (fun z => absurd (nI_le (Nat.le_refl _) (by omega)) z)
  | succ k ih =>
    intro i M l9 l10 hi hpc hst hM hq
    have hc : (nI p).toNatClampNeg = p := nI_clamp (by omega)
    obtain ⟨t1, t2, t3, t4, -⟩ := hst p hp
    refine k_Row_load_42 (fun z => absurd z (nI_ge (by omega) (by omega))) (fun _ => k_Row_load_49 (vp_in_nI hp (by decide)) (vp_in_nI hp (by decide)) ?_)
    rw [hc, t1, t3, pk_mul, nI_add]
    refine w_load_in hb hok hp (by omega) hr (pc_pp kd) 0 M (by omega) hpc hM (fun M' x10 g1 g2 g3 => k_Row_load_127 ?_)
    rw [nI_1]
    exact ih (i + 1) M' _ _ (by omega) g1 (hst.keep g3 (by decide)) g2 (fun M2 q1 q2 => hq M2 q1 (g3.tr q2))
theorem w_Row_load {S d b : Nat} {Q : pm_Q} {M : pm_M} {kd dp w h p r sz un : Nat} {f : Nat → Nat → Nat → Int32} {g u : Nat → Int32} (hb : pc_b b) (hok : pc_ok kd dp w h) (hpc : pc_is M b kd dp w h f) (hst : ps_is M) (hp : p < 8) (hr : r < ps_rw p w h) (hro : ro_is M sz un g u) (hq : ∀ M', ro_is M' sz un (rw_b kd dp w f p r) u → pm_ag [13] M M' → Q none M') : pm_PC S (d + 4) 41 [.inr (.inr 12), .inr (.inr b), .inl (nI p), .inl (nI r)] M Q := by
  have hb13 : b ∉ [13] := by rcases hb with rfl | rfl <;> decide
  have hb14 : b + 1 ∉ [13] := by rcases hb with rfl | rfl <;> decide
  have hw := hok.2.1
  have hh := hok.2.2
  have hc : (nI p).toNatClampNeg = p := nI_clamp (by omega)
  refine e_Row_load (k_Row_load_0 (w_Arr_fill (Or.inr (Or.inl rfl)) (fun M1 g1 g2 => k_Row_load_8 hb ?_)))
  have hpc1 := hpc.keep g2 hb13 hb14
  have hst1 := hst.keep g2 (by decide)
  obtain ⟨t1, t2, t3, t4, -⟩ := hst1 p hp
  refine w_Pict_pointsInRow hb (by omega) hp hpc1.1.2.2.1 hst1 (k_Row_load_13 hb (w_Pict_samplesAPoint hb (pc_kd hok) hpc1.1.1 (k_Row_load_19 (vp_in_nI hp (by decide)) (vp_in_nI hp (by decide)) ?_)))
  rw [hc, t2, t4, pk_mul, nI_add]
  have e0 : (0 : Int32) = nI (0 * pc_pp kd * dp) := by rw [Nat.zero_mul, Nat.zero_mul]; rfl
  have key := w_load_out (S := S) (d := d) (Q := Q) (x3 := some (.inl (nI r))) (f := f) hb hok hp hr (ps_pt p w) 0 M1
  rw [← e0] at key
  refine key _ _ (by omega) hpc1 hst1 (fun j hj => ?_) (fun M' q1 q2 => hq M' ⟨?_, ?_, q1, ?_⟩ (g2.tr q2))
  · rw [Nat.zero_mul]
    exact g1 j hj
  · rw [q2 12 (by decide), g2 12 (by decide)]; exact hro.1
  · rw [q2 12 (by decide), g2 12 (by decide)]; exact hro.2.1
  · rw [q2 14 (by decide), g2 14 (by decide)]; exact hro.2.2.2
