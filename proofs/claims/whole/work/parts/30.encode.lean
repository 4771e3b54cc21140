/-! RowCoder.encode: the data out of the picture. -/
def en_q (kd dp w : Nat) (f : Nat → Nat → Nat → Int32) (flt p r : Nat) (u : Nat → Int32) : Nat := if flt = 5 then ro_bf (ps_sz p w (pc_pp kd) dp) (ps_un (pc_pp kd) dp) (rw_b kd dp w f p r) u else flt
def en_rows (kd dp w : Nat) (f : Nat → Nat → Nat → Int32) (flt p : Nat) : Nat → Nat → (Nat → Int32) → List Int32 × (Nat → Int32) → List Int32 × (Nat → Int32)
  | 0, _, _, s => s
  | k + 1, r, u, s => en_rows kd dp w f flt p k (r + 1) (rw_b kd dp w f p r) (s.1 ++ ro_ou (en_q kd dp w f flt p r u) (ps_sz p w (pc_pp kd) dp) (ps_un (pc_pp kd) dp) (rw_b kd dp w f p r) u, upd s.2 (en_q kd dp w f flt p r u) (s.2 (en_q kd dp w f flt p r u) + 1))
def en_all (kd dp w h : Nat) (f : Nat → Nat → Nat → Int32) (flt : Nat) : Nat → Nat → List Int32 × (Nat → Int32) → List Int32 × (Nat → Int32)
  | 0, _, s => s
  | k + 1, p, s => en_all kd dp w h f flt k (p + 1) (en_rows kd dp w f flt p (ps_rw p w h) 0 (fun _ => 0) s)
def en_of (kd dp w h : Nat) (f : Nat → Nat → Nat → Int32) (flt : Nat) (s : Int32) : List Int32 × (Nat → Int32) := if s = 0 then en_all kd dp w h f flt 1 7 ([], fun _ => 0) else en_all kd dp w h f flt 7 0 ([], fun _ => 0)
def en_tl (kd dp w h : Nat) : Nat → Nat → Nat
  | 0, _ => 0
  | k + 1, p => ps_rw p w h * (1 + ps_sz p w (pc_pp kd) dp) + en_tl kd dp w h k (p + 1)
theorem ro_ou_len (f sz un : Nat) (g u : Nat → Int32) : (ro_ou f sz un g u).length = 1 + sz := by
  unfold ro_ou
  rw [List.length_cons, ro_fs_len]
  omega
theorem en_rows_len (kd dp w : Nat) (f : Nat → Nat → Nat → Int32) (flt p : Nat) : ∀ k r u (s : List Int32 × (Nat → Int32)), (en_rows kd dp w f flt p k r u s).1.length = s.1.length + k * (1 + ps_sz p w (pc_pp kd) dp)
  | 0, _, _, s => by simp [en_rows]
  | k + 1, r, u, s => by
    unfold en_rows
    rw [en_rows_len kd dp w f flt p k]
    rw [List.length_append, ro_ou_len, Nat.add_mul]
    omega
def en_tb (q : Nat × Nat) : Bool := (List.range 9).all fun w => (List.range 9).all fun h => Nat.ble (en_tl q.1 q.2 w h 7 0) 271 && Nat.ble (en_tl q.1 q.2 w h 1 7) 271
theorem en_tb_ok : ([(0, 1), (0, 2), (0, 4), (0, 8), (2, 8), (4, 8), (6, 8)] : List (Nat × Nat)).all en_tb = true := by decide +kernel
theorem pc_ok_mem {kd dp w h : Nat} (hok : pc_ok kd dp w h) : (kd, dp) ∈ ([(0, 1), (0, 2), (0, 4), (0, 8), (2, 8), (4, 8), (6, 8)] : List (Nat × Nat)) := by
  rcases hok.1 with ⟨rfl, rfl | rfl | rfl | rfl⟩ | ⟨rfl | rfl | rfl, rfl⟩ <;> simp
theorem en_tl_ok {kd dp w h : Nat} (hok : pc_ok kd dp w h) : en_tl kd dp w h 7 0 ≤ 271 ∧ en_tl kd dp w h 1 7 ≤ 271 := by
  have h1 := List.all_eq_true.mp en_tb_ok _ (pc_ok_mem hok)
  have hw := hok.2.1
  have hh := hok.2.2
  have h2 := List.all_eq_true.mp (List.all_eq_true.mp h1 w (List.mem_range.mpr (by omega))) h (List.mem_range.mpr (by omega))
  rw [Bool.and_eq_true] at h2
  exact ⟨Nat.le_of_ble_eq_true h2.1, Nat.le_of_ble_eq_true h2.2⟩
theorem ps_sz_le {kd dp w h : Nat} (hok : pc_ok kd dp w h) {p : Nat} (hp : p < 8) : ps_sz p w (pc_pp kd) dp ≤ 32 := by
  have hw := hok.2.1
  have hpt : ps_pt p w ≤ 8 := (ps_pt_e p hp w (by omega)).2.2.2.2.2.2.2.2.1
  have hdp : dp ≤ 8 := by rcases pc_dp hok with rfl | rfl | rfl | rfl <;> decide
  have := Nat.mul_le_mul (Nat.mul_le_mul hpt (pc_pp_le kd).2) hdp
  unfold ps_sz
  omega
theorem ps_un_le {kd dp w h : Nat} (hok : pc_ok kd dp w h) : 1 ≤ ps_un (pc_pp kd) dp ∧ ps_un (pc_pp kd) dp ≤ 4 := by
  rcases pc_kd hok with rfl | rfl | rfl | rfl <;> rcases pc_dp hok with rfl | rfl | rfl | rfl <;> decide
theorem en_q_lt (kd dp w : Nat) (f : Nat → Nat → Nat → Int32) {flt : Nat} (hf : flt ≤ 5) (p r : Nat) (u : Nat → Int32) : en_q kd dp w f flt p r u < 5 := by
  unfold en_q
  split
  · exact ro_bf_lt _ _ _ _
  · omega
def en_ks : List Nat := [5, 6, 11, 12, 13, 14]
theorem w_enc_rows {S d b : Nat} {Q : pm_Q} {kd dp w h p flt : Nat} {f : Nat → Nat → Nat → Int32} {x2 : Option pm_V} {x5 : Int32} (hb : pc_b b) (hok : pc_ok kd dp w h) (hp : p < 8) (hflt : flt ≤ 5) : ∀ (k r : Nat) (M : pm_M) (g u : Nat → Int32) (s : List Int32 × (Nat → Int32)) (l9 : Option pm_V), r + k = ps_rw p w h → pc_is M b kd dp w h f → ps_is M → ro_is M (ps_sz p w (pc_pp kd) dp) (ps_un (pc_pp kd) dp) g u → by_is M 5 s.1 → (∀ i, i < 5 → M 11 i = s.2 i) → s.1.length + k * (1 + ps_sz p w (pc_pp kd) dp) ≤ 300 → (∀ M' l8 l9, by_is M' 5 (en_rows kd dp w f flt p k r u s).1 → (∀ i, i < 5 → M' 11 i = (en_rows kd dp w f flt p k r u s).2 i) → pm_ag en_ks M M' → pm_R S (pm_PC S (d + 4)) Q 49 125 [some (.inr (.inr 10)), some (.inr (.inr b)), x2, some (.inl (nI flt)), some (.inr (.inr 5)), some (.inl x5), some (.inl (nI p)), some (.inl (nI (ps_rw p w h))), l8, l9] [] M') → pm_R S (pm_PC S (d + 4)) Q 49 53 [some (.inr (.inr 10)), some (.inr (.inr b)), x2, some (.inl (nI flt)), some (.inr (.inr 5)), some (.inl x5), some (.inl (nI p)), some (.inl (nI (ps_rw p w h))), some (.inl (nI r)), l9] [] M := by
  have hsz := ps_sz_le hok hp
  have hun := ps_un_le hok
  have hh := hok.2.2
  intro k
  induction k with
  | zero =>
    intro r M g u s l9 hr hpc hst hro h5 h11 hc hq
    have e : r = ps_rw p w h := by omega
    subst e
    have hrw : ps_rw p w h < 2 ^ 31 := by
      unfold ps_rw
      split
      · decide
      · have := ps_rw_le p hp h (by omega); omega
    exact k_Coder_encode_53 (fun _ => hq M _ _ h5 h11 pm_ag.rf) (fun z => absurd (nI_le (Nat.le_refl _) hrw) z)
  | succ k ih =>
    intro r M g u s l9 hr hpc hst hro h5 h11 hc hq
    have hr2 : r < ps_rw p w h := by omega
    have hr9 := (ps_y_in hp (by omega) hr2).2
    have hrw : ps_rw p w h < 2 ^ 31 := by
      unfold ps_rw
      split
      · decide
      · have := ps_rw_le p hp h (by omega); omega
    rw [Nat.add_mul] at hc
    unfold en_rows at hq
    have hql := en_q_lt kd dp w f hflt p r u
    generalize hqe : en_q kd dp w f flt p r u = qq at hq hql
    refine k_Coder_encode_53 (fun z => absurd z (nI_ge hr2 hrw)) (fun _ => k_Coder_encode_60 hb (w_Row_load hb hok hpc hst hp hr2 hro (fun M1 g1 g2 => ?_)))
    have h51 := h5.keep g2 (by decide) (by decide)
    have hb1 : b ∉ [13] := by rcases hb with rfl | rfl <;> decide
    have hb2 : b + 1 ∉ [13] := by rcases hb with rfl | rfl <;> decide
    have key : ∀ l9, pm_R S (pm_PC S (d + 4)) Q 49 88 [some (.inr (.inr 10)), some (.inr (.inr b)), x2, some (.inl (nI flt)), some (.inr (.inr 5)), some (.inl x5), some (.inl (nI p)), some (.inl (nI (ps_rw p w h))), some (.inl (nI r)), l9] [.inl (nI qq)] M1 := by
      intro l9
      refine k_Coder_encode_88 (w_Row_addFiltered g1 (by omega) hsz hql h51 (by omega) (fun M2 q1 q2 => k_Coder_encode_101 (vp_in_nI hql (by decide)) (vp_in_nI hql (by decide)) ?_))
      rw [nI_clamp (by omega)]
      have e11 : M2 11 qq = s.2 qq := by rw [q2 11 (by decide), g2 11 (by decide)]; exact h11 qq hql
      rw [e11]
      have hro2 := (g1.keep q2 (by decide) (by decide) (by decide)).keep (pm_ag.up (ks := [11]) (M := M2) (k := 11) (j := qq) (x := s.2 qq + 1) (by simp)) (by decide) (by decide) (by decide)
      refine w_Row_endRow hro2 (fun M3 r1 r2 => k_Coder_encode_119 ?_)
      rw [nI_1]
      have ha : pm_ag en_ks M M3 := (((g2.wd (ks' := en_ks) (by decide)).of q2 (by decide)).of (pm_ag.up (ks := [11]) (by simp)) (by decide)).of r2 (by decide)
      have hbk : b ∉ en_ks := by rcases hb with rfl | rfl <;> decide
      have hbk2 : b + 1 ∉ en_ks := by rcases hb with rfl | rfl <;> decide
      refine ih (r + 1) M3 _ _ _ _ (by omega) (hpc.keep ha hbk hbk2) (hst.keep ha (by decide)) r1 ((q1.keep (pm_ag.up (ks := [11]) (by simp)) (by decide) (by decide)).keep r2 (by decide) (by decide)) (fun i hi => ?_) (by rw [List.length_append, ro_ou_len]; omega) (fun M' l8 l9 t1 t2 t3 => hq M' l8 l9 t1 t2 (ha.tr t3))
      rw [r2 11 (by decide)]
      show _ = upd s.2 qq (s.2 qq + 1) i
      by_cases e : i = qq
      · subst e
        rw [pm_up_hit, pk_us]
      · rw [pm_up_off (Or.inr e), pk_un e, q2 11 (by decide), g2 11 (by decide)]
        exact h11 i hi
    refine k_Coder_encode_72 (fun z => k_Coder_encode_87 ?_) (fun z => k_Coder_encode_77 ?_)
    · have e5 : ¬ flt = 5 := fun e => z (by rw [e]; rfl)
      have eq : qq = flt := by rw [← hqe, en_q, if_neg e5]
      rw [← eq] at key ⊢
      exact key _
    · have e5 : flt = 5 := (nI_eq (a := flt) (b := 5) (by omega) (by decide)).mp (Classical.not_not.mp z)
      have eq : qq = ro_bf (ps_sz p w (pc_pp kd) dp) (ps_un (pc_pp kd) dp) (rw_b kd dp w f p r) u := by rw [← hqe, en_q, if_pos e5]
      refine w_Row_bestFilter g1 (by omega) hsz (k_Coder_encode_84 ?_)
      rw [← eq]
      exact key _
theorem w_enc_all {S d b : Nat} {Q : pm_Q} {kd dp w h flt z : Nat} {f : Nat → Nat → Nat → Int32} {x2 : Option pm_V} (hb : pc_b b) (hok : pc_ok kd dp w h) (hflt : flt ≤ 5) (hz : z < 8) : ∀ (k p : Nat) (M : pm_M) (s : List Int32 × (Nat → Int32)) (l7 l8 l9 : Option pm_V), p + k = z + 1 → pc_is M b kd dp w h f → ps_is M → by_is M 5 s.1 → (∀ i, i < 5 → M 11 i = s.2 i) → s.1.length + en_tl kd dp w h k p ≤ 300 → (∀ M', by_is M' 5 (en_all kd dp w h f flt k p s).1 → (∀ i, i < 5 → M' 11 i = (en_all kd dp w h f flt k p s).2 i) → pm_ag en_ks M M' → Q none M') → pm_R S (pm_PC S (d + 4)) Q 49 25 [some (.inr (.inr 10)), some (.inr (.inr b)), x2, some (.inl (nI flt)), some (.inr (.inr 5)), some (.inl (nI z)), some (.inl (nI p)), l7, l8, l9] [] M := by
  have hw := hok.2.1
  have hh := hok.2.2
  have hbk : b ∉ en_ks := by rcases hb with rfl | rfl <;> decide
  have hbk2 : b + 1 ∉ en_ks := by rcases hb with rfl | rfl <;> decide
  intro k
  induction k with
  | zero =>
    intro p M s l7 l8 l9 hp hpc hst h5 h11 hc hq
    exact k_Coder_encode_25 (fun _ => k_Coder_encode_131 (hq M h5 h11 pm_ag.rf)) (fun q => absurd (nI_lt (by omega) (by omega)) q)
  | succ k ih =>
    intro p M s l7 l8 l9 hp hpc hst h5 h11 hc hq
    unfold en_tl at hc
    unfold en_all at hq
    refine k_Coder_encode_25 (fun q => absurd q (nI_nlt (by omega) (by omega))) (fun _ => k_Coder_encode_32 hb (w_Pict_rowsInPass hb (by omega) (by omega) (by omega) hpc.1.2.2.1 hpc.1.2.2.2 hst (k_Coder_encode_38 hb (w_Row_startPass (g := M 13) hb hok hpc.1 (by omega) hst (fun _ _ => rfl) (fun M1 g1 g2 => k_Coder_encode_50 ?_)))))
    have ha : pm_ag en_ks M M1 := g2.wd (by decide)
    refine w_enc_rows hb hok (by omega) hflt (ps_rw p w h) 0 M1 _ _ s _ (by omega) (hpc.keep ha hbk hbk2) (hst.keep ha (by decide)) g1 (h5.keep g2 (by decide) (by decide)) (fun i hi => by rw [g2 11 (by decide)]; exact h11 i hi) (by omega) (fun M2 l8 l9 q1 q2 q3 => k_Coder_encode_125 ?_)
    rw [nI_1]
    have hl := en_rows_len kd dp w f flt p (ps_rw p w h) 0 (fun _ => 0) s
    exact ih (p + 1) M2 _ _ _ _ (by omega) (hpc.keep (ha.tr q3) hbk hbk2) (hst.keep (ha.tr q3) (by decide)) q1 q2 (by rw [hl]; omega) (fun M' t1 t2 t3 => hq M' t1 t2 ((ha.tr q3).tr t3))
theorem w_Coder_encode {S d b : Nat} {Q : pm_Q} {M : pm_M} {kd dp w h flt : Nat} {f : Nat → Nat → Nat → Int32} {s : Int32} (hb : pc_b b) (hok : pc_ok kd dp w h) (hflt : flt ≤ 5) (hpc : pc_is M b kd dp w h f) (hst : ps_is M) (hq : ∀ M', by_is M' 5 (en_of kd dp w h f flt s).1 → (∀ i, i < 5 → M' 11 i = (en_of kd dp w h f flt s).2 i) → pm_ag en_ks M M' → Q none M') : pm_PC S (d + 5) 49 [.inr (.inr 10), .inr (.inr b), .inl s, .inl (nI flt), .inr (.inr 5)] M Q := by
  have hbk : b ∉ en_ks := by rcases hb with rfl | rfl <;> decide
  have hbk2 : b + 1 ∉ en_ks := by rcases hb with rfl | rfl <;> decide
  have ht := en_tl_ok hok
  refine e_Coder_encode (k_Coder_encode_0 (w_Arr_fill (Or.inl rfl) (fun M1 g1 g2 => k_Coder_encode_8 (w_Bytes_clear (Or.inr (Or.inl rfl)) (fun M2 q1 q2 => k_Coder_encode_13 (w_Pict_lastPass (k_Coder_encode_17 (w_Pict_firstPass (k_Coder_encode_23 ?_)))))))))
  have ha : pm_ag en_ks M M2 := (g2.wd (ks' := en_ks) (by decide)).of q2 (by decide)
  have h11 : ∀ i, i < 5 → M2 11 i = 0 := fun i hi => by rw [q2 11 (by decide)]; exact g1 i hi
  unfold en_of at hq
  by_cases e : s = 0
  · rw [if_pos e] at hq
    rw [if_pos e, if_pos e]
    exact w_enc_all (z := 7) hb hok hflt (by decide) 1 7 M2 ([], fun _ => 0) _ _ _ (by decide) (hpc.keep ha hbk hbk2) (hst.keep ha (by decide)) q1 h11 (by simp; omega) (fun M' t1 t2 t3 => hq M' t1 t2 (ha.tr t3))
  · rw [if_neg e] at hq
    rw [if_neg e, if_neg e]
    exact w_enc_all (z := 6) hb hok hflt (by decide) 7 0 M2 ([], fun _ => 0) _ _ _ (by decide) (hpc.keep ha hbk hbk2) (hst.keep ha (by decide)) q1 h11 (by simp; omega) (fun M' t1 t2 t3 => hq M' t1 t2 (ha.tr t3))
