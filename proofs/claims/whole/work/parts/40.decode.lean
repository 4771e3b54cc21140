/-! Row.takeFiltered, Row.store, RowCoder.fits, RowCoder.decode. -/
def de_r (f un : Nat) (x u : Nat → Int32) : Nat → (Nat → Int32)
  | 0 => fun _ => 0
  | n + 1 => upd (de_r f un x u n) n ((x n + ro_gs f un n (de_r f un x u n) u) &&& 255)
theorem ro_gs_cong {f un n : Nat} {g g2 u u2 : Nat → Int32} (hun : 1 ≤ un) (hg : ∀ k, k < n → g k = g2 k) (hu : ∀ k, k ≤ n → u k = u2 k) : ro_gs f un n g u = ro_gs f un n g2 u2 := by
  unfold ro_gs
  by_cases h : n < un
  · rw [if_pos h, if_pos h, if_pos h, if_pos h, hu n (Nat.le_refl _)]
  · rw [if_neg h, if_neg h, if_neg h, if_neg h, hu n (Nat.le_refl _), hg _ (by omega), hu _ (by omega)]
theorem w_tf_loop {S d : Nat} {Q : pm_Q} {sz un f q : Nat} {u u' : Nat → Int32} {D : List Int32} (hun : 1 ≤ un ∧ un < 32) (hsz : sz ≤ 32) (hf : f < 5) (hq1 : q < 900) (hu : ∀ k, k < sz → u' k = u k) : ∀ (k n : Nat) (M : pm_M) (g : Nat → Int32), n + k = sz → ro_is M sz un g u' → by_is M 5 D → (∀ j, j < n → g j = de_r f un (fun k => un_p D (q + k)) u n j) → (∀ M' g', ro_is M' sz un g' u' → (∀ j, j < sz → g' j = de_r f un (fun k => un_p D (q + k)) u sz j) → pm_ag [13] M M' → Q none M') → pm_R S (pm_PC S (d + 2)) Q 48 3 [some (.inr (.inr 12)), some (.inl (nI f)), some (.inr (.inr 5)), some (.inl (nI q)), some (.inl (nI n))] [] M := by
  intro k
  induction k with
  | zero =>
    intro n M g hn hr h5 hg hq
    have e : n = sz := by omega
    subst e
    exact k_Row_takeFiltered_3 (fun _ => k_Row_takeFiltered_45 (hq M g hr hg pm_ag.rf)) (fun z => absurd (by rw [hr.1]; exact nI_le (Nat.le_refl _) (by omega)) z)
  | succ k ih =>
    intro n M g hn hr h5 hg hq
    refine k_Row_takeFiltered_3 (fun z => absurd (by rw [hr.1] at z; exact z) (nI_ge (by omega) (by omega))) (fun _ => k_Row_takeFiltered_12 (w_Bytes_at (Or.inr (Or.inl rfl)) h5 (k_Row_takeFiltered_26 (w_Row_guess hr hun.2 hf (by omega) (k_Row_takeFiltered_33 (vp_in_nI (by omega) (by decide)) ?_)))))
    rw [nI_clamp (by omega), nI_add, by_at_nI (by omega), nI_1, ro_gs_cong hun.1 hg (fun k hk => hu k (by omega))]
    refine ih (n + 1) _ (fun j => if j = n then (un_p D (q + n) + ro_gs f un n (de_r f un (fun k => un_p D (q + k)) u n) u) &&& 255 else g j) (by omega) ⟨?_, ?_, fun j hj => ?_, fun j hj => ?_⟩ (h5.keep (ks := [13]) (pm_ag.up (by simp)) (by decide) (by decide)) (fun j hj => ?_) (fun M' g' r1 r2 r3 => hq M' g' r1 r2 ((pm_ag.up (by simp)).tr r3))
    · rw [pm_up_off (Or.inl (by decide))]; exact hr.1
    · rw [pm_up_off (Or.inl (by decide))]; exact hr.2.1
    · by_cases e : j = n
      · subst e
        rw [pm_up_hit]
        exact (if_pos rfl).symm
      · rw [pm_up_off (Or.inr e), hr.2.2.1 j hj]
        exact (if_neg e).symm
    · rw [pm_up_off (Or.inl (by decide))]; exact hr.2.2.2 j hj
    · show _ = upd _ n _ j
      by_cases e : j = n
      · subst e
        rw [pk_us]
        exact if_pos rfl
      · rw [pk_un e]
        exact (if_neg e).trans (hg j (by omega))
theorem w_Row_takeFiltered {S d : Nat} {Q : pm_Q} {M : pm_M} {sz un f q : Nat} {g u u' : Nat → Int32} {D : List Int32} (hr : ro_is M sz un g u') (hu : ∀ k, k < sz → u' k = u k) (hun : 1 ≤ un ∧ un < 32) (hsz : sz ≤ 32) (hf : f < 5) (hq1 : q < 900) (h5 : by_is M 5 D) (hq : ∀ M' g', ro_is M' sz un g' u' → (∀ j, j < sz → g' j = de_r f un (fun k => un_p D (q + k)) u sz j) → pm_ag [13] M M' → Q none M') : pm_PC S (d + 3) 48 [.inr (.inr 12), .inl (nI f), .inr (.inr 5), .inl (nI q)] M Q :=
  e_Row_takeFiltered (k_Row_takeFiltered_0 (w_tf_loop hun hsz hf hq1 hu sz 0 M g (by omega) hr h5 (fun j hj => absurd hj (Nat.not_lt_zero j)) hq))
/-- a sample out of a row's bytes -/
def de_sv (dp : Nat) (g : Nat → Int32) (m : Nat) : Int32 := pm_ishr (g (m * dp / 8)) (nI (8 - dp - m * dp % 8)) &&& nI (2 ^ dp - 1)
def de_ss (kd dp : Nat) (g : Nat → Int32) (p r : Nat) : Nat → Nat → (Nat → Nat → Nat → Int32) → (Nat → Nat → Nat → Int32)
  | 0, _, f => f
  | k + 1, m, f => de_ss kd dp g p r k (m + 1) (im_up f (ps_x0 p + m / pc_pp kd * ps_dx p) (ps_y0 p + r * ps_dy p) (m % pc_pp kd) (de_sv dp g m))
theorem nI_self (x : Int32) : nI x.toBitVec.toNat = x := by
  apply Int32.toBitVec_inj.mp
  show BitVec.ofNat 32 x.toBitVec.toNat = x.toBitVec
  simp
theorem de_and {dp : Nat} (hdp : dp = 1 ∨ dp = 2 ∨ dp = 4 ∨ dp = 8) (x : Int32) : ∃ v : Nat, v < 2 ^ dp ∧ x &&& nI (2 ^ dp - 1) = nI v := by
  refine ⟨(x &&& nI (2 ^ dp - 1)).toBitVec.toNat, ?_, (nI_self _).symm⟩
  have h1 : (x &&& nI (2 ^ dp - 1)).toBitVec.toNat = x.toBitVec.toNat &&& (nI (2 ^ dp - 1)).toBitVec.toNat := by
    rw [Int32.toBitVec_and, BitVec.toNat_and]
  have h2 : (nI (2 ^ dp - 1)).toBitVec.toNat = 2 ^ dp - 1 := by rcases hdp with rfl | rfl | rfl | rfl <;> rfl
  rw [h1, h2]
  have := Nat.and_le_right (n := x.toBitVec.toNat) (m := 2 ^ dp - 1)
  have := Nat.two_pow_pos dp
  omega
theorem pc_is.put {M : pm_M} {b kd dp w h : Nat} {f : Nat → Nat → Nat → Int32} {x y c : Nat} {V : Int32} (hs : pc_is M b kd dp w h f) (hx : x < w) (hc : c < pc_pp kd) : pc_is (pm_up M (b + 1) ((y * w + x) * pc_pp kd + c) V) b kd dp w h (im_up f x y c V) := by
  refine ⟨hs.1.keep (pm_ag.up (ks := [b + 1]) (by simp)) (by simp), fun x' y' c' hx2 hy2 hc2 => ?_⟩
  unfold im_up
  by_cases e : x' = x ∧ y' = y ∧ c' = c
  · obtain ⟨rfl, rfl, rfl⟩ := e
    rw [if_pos ⟨rfl, rfl, rfl⟩, pm_up_hit]
  · rw [if_neg e, pm_up_off (Or.inr (fun q => e (pc_inj hx2 hx hc2 hc q)))]
    exact hs.2 x' y' c' hx2 hy2 hc2
theorem w_putSample_in {S d b : Nat} {Q : pm_Q} {M : pm_M} {kd dp w h : Nat} {f : Nat → Nat → Nat → Int32} {x y c v : Nat} {V : Int32} (hb : pc_b b) (hok : pc_ok kd dp w h) (hs : pc_is M b kd dp w h f) (hx : x < w) (hy : y < h) (hc : c < pc_pp kd) (hv : v < 2 ^ dp) (eV : V = nI v) (hq : ∀ M', pc_is M' b kd dp w h (im_up f x y c V) → pm_ag [b + 1] M M' → Q (some (.inl 1)) M') : pm_PC S (d + 3) 32 [.inr (.inr b), .inl (nI x), .inl (nI y), .inl (nI c), .inl V] M Q := by
  have hw := hok.2.1
  have hh := hok.2.2
  have hpp := pc_pp_le kd
  have hdp : 2 ^ dp < 2 ^ 31 := by rcases pc_dp hok with rfl | rfl | rfl | rfl <;> decide
  refine w_Pict_putSample hb hok hs.1 (fun x' y' c' v' hx' hy' hc' hv' ex ey ec ev => ?_) (fun z => ?_)
  · have e1 := (nI_eq (by omega) (by omega)).mp ex
    have e2 := (nI_eq (by omega) (by omega)).mp ey
    have e3 := (nI_eq (by omega) (by omega)).mp ec
    subst e1 e2 e3
    exact hq _ (hs.put hx hc) (pm_ag.up (by simp))
  · exfalso
    rw [eV] at z
    rcases z with z | z | z | z | z | z | z | z
    · exact nI_pos (by omega) z
    · exact nI_ge hx (by omega) z
    · exact nI_pos (by omega) z
    · exact nI_ge hy (by omega) z
    · exact nI_pos (by omega) z
    · exact nI_ge hc (by omega) z
    · exact nI_pos (by omega) z
    · exact nI_ge hv hdp z
theorem w_st_in {S d b : Nat} {Q : pm_Q} {kd dp w h p r i : Nat} {g : Nat → Int32} {R : Nat → Nat → Nat → Int32} {x2 x3 x4 : Option pm_V} (hb : pc_b b) (hok : pc_ok kd dp w h) (hp : p < 8) (hi : i < ps_pt p w) (hr : r < ps_rw p w h) : ∀ (k c : Nat) (M : pm_M) (f : Nat → Nat → Nat → Int32) (l12 : Option pm_V), c + k = pc_pp kd → pc_is M b kd dp w h f → (∀ j, j < ps_sz p w (pc_pp kd) dp → M 13 j = g j) → de_ss kd dp g p r (ps_pt p w * pc_pp kd - (i * pc_pp kd + c)) (i * pc_pp kd + c) f = R → (∀ M' f' l11 l12, pc_is M' b kd dp w h f' → de_ss kd dp g p r (ps_pt p w * pc_pp kd - (i + 1) * pc_pp kd) ((i + 1) * pc_pp kd) f' = R → pm_ag [b + 1] M M' → pm_R S (pm_PC S (d + 3)) Q 42 134 [some (.inr (.inr 12)), some (.inr (.inr b)), x2, x3, x4, some (.inl (nI (pc_pp kd))), some (.inl (nI (ps_y0 p + r * ps_dy p))), some (.inl (nI (2 ^ dp - 1))), some (.inl (nI ((i + 1) * pc_pp kd * dp))), some (.inl (nI i)), some (.inl (nI (ps_x0 p + i * ps_dx p))), l11, l12] [] M') → pm_R S (pm_PC S (d + 3)) Q 42 70 [some (.inr (.inr 12)), some (.inr (.inr b)), x2, x3, x4, some (.inl (nI (pc_pp kd))), some (.inl (nI (ps_y0 p + r * ps_dy p))), some (.inl (nI (2 ^ dp - 1))), some (.inl (nI ((i * pc_pp kd + c) * dp))), some (.inl (nI i)), some (.inl (nI (ps_x0 p + i * ps_dx p))), some (.inl (nI c)), l12] [] M := by
  have hw := hok.2.1
  have hh := hok.2.2
  have hpp := pc_pp_le kd
  have hpt : ps_pt p w ≤ 8 := (ps_pt_e p hp w (by omega)).2.2.2.2.2.2.2.2.1
  have hdp := pc_dp hok
  have hx := ps_in_x p hp w (by omega) i (by omega) hi
  have hy := (ps_y_in hp (by omega) hr).1
  have hb13 : 13 ∉ [b + 1] := by rcases hb with rfl | rfl <;> decide
  intro k
  induction k with
  | zero =>
    intro c M f l12 hc hpc hM hR hq
    have e : c = pc_pp kd := by omega
    subst e
    rw [show i * pc_pp kd + pc_pp kd = (i + 1) * pc_pp kd by rw [Nat.add_mul, Nat.one_mul]] at hR ⊢
    exact k_Row_store_70 (fun _ => hq M f _ _ hpc hR pm_ag.rf) (fun z => absurd (nI_le (Nat.le_refl _) (by omega)) z)
  | succ k ih =>
    intro c M f l12 hc hpc hM hR hq
    have h0 : (i + 1) * pc_pp kd ≤ ps_pt p w * pc_pp kd := Nat.mul_le_mul_right _ hi
    have h1 : (i + 1) * pc_pp kd ≤ 8 * 4 := Nat.mul_le_mul (by omega) hpp.2
    rw [Nat.add_mul, Nat.one_mul] at h0 h1
    have hm : i * pc_pp kd + c < 32 := by omega
    have hmN : i * pc_pp kd + c < ps_pt p w * pc_pp kd := by omega
    generalize hmm : i * pc_pp kd + c = m at hR hm hmN ⊢
    have hmd : m * dp < 256 := by rcases hdp with rfl | rfl | rfl | rfl <;> omega
    have e1 : m / pc_pp kd = i := by rw [← hmm, Nat.mul_comm, Nat.mul_add_div (by omega), Nat.div_eq_of_lt (by omega), Nat.add_zero]
    have e2 : m % pc_pp kd = c := by rw [← hmm, Nat.mul_comm, Nat.mul_add_mod, Nat.mod_eq_of_lt (by omega)]
    have e8 : nI (m * dp) / 8 = nI (m * dp / 8) := nm_div8 (by omega)
    have hc8 : (nI (m * dp) / 8).toNatClampNeg = m * dp / 8 := by rw [e8]; exact nI_clamp (by omega)
    have hin : vp_in (nI (m * dp) / 8) 32 := by rw [e8]; exact vp_in_nI (by omega) (by decide)
    have hj : m * dp / 8 < ps_sz p w (pc_pp kd) dp := by
      have h3 : (m + 1) * dp ≤ ps_pt p w * pc_pp kd * dp := Nat.mul_le_mul_right _ hmN
      rw [Nat.add_mul] at h3
      unfold ps_sz
      rcases hdp with rfl | rfl | rfl | rfl <;> omega
    have esh : 8 - M b 2 - pm_irem (nI (m * dp)) 8 = nI (8 - dp - m * dp % 8) := by
      rw [hpc.1.2.1, nm_rem8 (by omega), show (8 : Int32) = nI 8 from rfl, pk_sub (by rcases hdp with rfl | rfl | rfl | rfl <;> omega), pk_sub (by rcases hdp with rfl | rfl | rfl | rfl <;> omega)]
    refine k_Row_store_70 (fun z => absurd z (nI_ge (by omega) (by omega))) (fun _ => k_Row_store_77 hb hin ?_)
    rw [esh, hc8, hM _ hj]
    obtain ⟨v, hv, eV⟩ := de_and hdp (pm_ishr (g (m * dp / 8)) (nI (8 - dp - m * dp % 8)))
    refine w_putSample_in hb hok hpc hx hy (show c < _ by omega) hv eV (fun M1 g1 a1 => k_Row_store_118 hb ?_)
    rw [g1.1.2.1, nI_add, nI_1, show m * dp + dp = (i * pc_pp kd + (c + 1)) * dp by rw [← Nat.add_assoc, hmm, Nat.add_mul, Nat.one_mul]]
    refine ih (c + 1) M1 _ _ (by omega) g1 (fun j hj => by rw [a1 13 hb13]; exact hM j hj) ?_ (fun M' f' l11 l12 q1 q2 q3 => hq M' f' l11 l12 q1 q2 (a1.tr q3))
    rw [← hR, ← Nat.add_assoc, hmm, show ps_pt p w * pc_pp kd - m = (ps_pt p w * pc_pp kd - (m + 1)) + 1 by omega]
    show _ = de_ss kd dp g p r _ (m + 1) (im_up f _ _ _ (de_sv dp g m))
    rw [e1, e2]
    rfl
theorem w_st_out {S d b : Nat} {Q : pm_Q} {kd dp w h p r : Nat} {g : Nat → Int32} {R : Nat → Nat → Nat → Int32} {x3 : Option pm_V} (hb : pc_b b) (hok : pc_ok kd dp w h) (hp : p < 8) (hr : r < ps_rw p w h) : ∀ (k i : Nat) (M : pm_M) (f : Nat → Nat → Nat → Int32) (l10 l11 l12 : Option pm_V), i + k = ps_pt p w → pc_is M b kd dp w h f → ps_is M → (∀ j, j < ps_sz p w (pc_pp kd) dp → M 13 j = g j) → de_ss kd dp g p r (ps_pt p w * pc_pp kd - i * pc_pp kd) (i * pc_pp kd) f = R → (∀ M', pc_is M' b kd dp w h R → pm_ag [b + 1] M M' → Q none M') → pm_R S (pm_PC S (d + 3)) Q 42 44 [some (.inr (.inr 12)), some (.inr (.inr b)), some (.inl (nI p)), x3, some (.inl (nI (ps_pt p w))), some (.inl (nI (pc_pp kd))), some (.inl (nI (ps_y0 p + r * ps_dy p))), some (.inl (nI (2 ^ dp - 1))), some (.inl (nI (i * pc_pp kd * dp))), some (.inl (nI i)), l10, l11, l12] [] M := by
  have hw := hok.2.1
  have hpt : ps_pt p w ≤ 8 := (ps_pt_e p hp w (by omega)).2.2.2.2.2.2.2.2.1
  have hb13 : 13 ∉ [b + 1] := by rcases hb with rfl | rfl <;> decide
  have hb26 : ∀ k ∈ [b + 1], k < 26 := by rcases hb with rfl | rfl <;> decide
  intro k
  induction k with
  | zero =>
    intro i M f l10 l11 l12 hi hpc hst hM hR hq
    have e : i = ps_pt p w := by omega
    subst e
    rw [Nat.sub_self] at hR
    refine k_Row_store_44 (fun _ => k_Row_store_140 (hq M ?_ pm_ag.rf)) (fun z => absurd (nI_le (Nat.le_refl _) (by omega)) z)
    rw [← hR]
    exact hpc
  | succ k ih =>
    intro i M f l10 l11 l12 hi hpc hst hM hR hq
    have hc : (nI p).toNatClampNeg = p := nI_clamp (by omega)
    obtain ⟨t1, t2, t3, t4, -⟩ := hst p hp
    refine k_Row_store_44 (fun z => absurd z (nI_ge (by omega) (by omega))) (fun _ => k_Row_store_51 (vp_in_nI hp (by decide)) (vp_in_nI hp (by decide)) ?_)
    rw [hc, t1, t3, pk_mul, nI_add]
    refine w_st_in hb hok hp (by omega) hr (pc_pp kd) 0 M f _ (by omega) hpc hM hR (fun M' f' l11 l12 g1 g2 g3 => k_Row_store_134 ?_)
    rw [nI_1]
    exact ih (i + 1) M' f' _ _ _ (by omega) g1 (hst.keep g3 hb26) (fun j hj => by rw [g3 13 hb13]; exact hM j hj) g2 (fun M2 q1 q2 => hq M2 q1 (g3.tr q2))
theorem w_Row_store {S d b : Nat} {Q : pm_Q} {M : pm_M} {kd dp w h p r : Nat} {f : Nat → Nat → Nat → Int32} {g : Nat → Int32} (hb : pc_b b) (hok : pc_ok kd dp w h) (hpc : pc_is M b kd dp w h f) (hst : ps_is M) (hp : p < 8) (hr : r < ps_rw p w h) (hM : ∀ j, j < ps_sz p w (pc_pp kd) dp → M 13 j = g j) (hq : ∀ M', pc_is M' b kd dp w h (de_ss kd dp g p r (ps_pt p w * pc_pp kd) 0 f) → pm_ag [b + 1] M M' → Q none M') : pm_PC S (d + 4) 42 [.inr (.inr 12), .inr (.inr b), .inl (nI p), .inl (nI r)] M Q := by
  have hw := hok.2.1
  have hh := hok.2.2
  have hc : (nI p).toNatClampNeg = p := nI_clamp (by omega)
  obtain ⟨t1, t2, t3, t4, -⟩ := hst p hp
  refine e_Row_store (k_Row_store_0 hb (w_Pict_pointsInRow hb (by omega) hp hpc.1.2.2.1 hst (k_Row_store_5 hb (w_Pict_samplesAPoint hb (pc_kd hok) hpc.1.1 (k_Row_store_11 hb (vp_in_nI hp (by decide)) (vp_in_nI hp (by decide)) ?_)))))
  have emask : pm_ishl 1 (M b 2) - 1 = nI (2 ^ dp - 1) := by
    rw [hpc.1.2.1]
    rcases pc_dp hok with rfl | rfl | rfl | rfl <;> decide
  rw [hc, t2, t4, pk_mul, nI_add, emask]
  have e0 : (0 : Int32) = nI (0 * pc_pp kd * dp) := by rw [Nat.zero_mul, Nat.zero_mul]; rfl
  have key := w_st_out (S := S) (d := d) (Q := Q) (x3 := some (.inl (nI r))) (g := g) (R := de_ss kd dp g p r (ps_pt p w * pc_pp kd) 0 f) hb hok hp hr (ps_pt p w) 0 M f
  rw [← e0] at key
  exact key _ _ _ (by omega) hpc hst hM (by rw [Nat.zero_mul, Nat.sub_zero]) hq
