/-! RowCoder.fits, RowCoder.decode. -/
def fi_rows (D : List Int32) (sz : Nat) : Nat → Nat → Prop
  | 0, _ => True
  | k + 1, q => (¬ un_p D q < 0 ∧ un_p D q < 5) ∧ fi_rows D sz k (q + (1 + sz))
def fi_all (D : List Int32) (kd dp w h : Nat) : Nat → Nat → Nat → Prop
  | 0, _, _ => True
  | k + 1, p, q => fi_rows D (ps_sz p w (pc_pp kd) dp) (ps_rw p w h) q ∧ fi_all D kd dp w h k (p + 1) (q + ps_rw p w h * (1 + ps_sz p w (pc_pp kd) dp))
/-- the data are as many as the rows take, and each row has a filter's number -/
def fi_of (D : List Int32) (kd dp w h : Nat) (s : Int32) : Prop := if s = 0 then fi_all D kd dp w h 1 7 0 ∧ en_tl kd dp w h 1 7 = D.length else fi_all D kd dp w h 7 0 0 ∧ en_tl kd dp w h 7 0 = D.length
theorem ps_rw_lt {p w h : Nat} (hp : p < 8) (hh : h < 9) : ps_rw p w h < 9 := by
  unfold ps_rw
  split
  · decide
  · have := ps_rw_le p hp h hh; omega
theorem w_fit_rows {S d b p z rs sz : Nat} {Q : pm_Q} {M : pm_M} {D : List Int32} {x2 : Int32} (h5 : by_is M 5 D) (hrs : rs < 9) : ∀ (k r q : Nat), r + k = rs → q + k * (1 + sz) < 900 → (fi_rows D sz k q → ∀ l6 l7 l8, pm_R S (pm_PC S (d + 2)) Q 50 79 [some (.inr (.inr 5)), some (.inr (.inr b)), some (.inl x2), some (.inl (nI (q + k * (1 + sz)))), some (.inl (nI z)), some (.inl (nI p)), l6, l7, l8] [] M) → (¬ fi_rows D sz k q → Q (some (.inl 0)) M) → pm_R S (pm_PC S (d + 2)) Q 50 42 [some (.inr (.inr 5)), some (.inr (.inr b)), some (.inl x2), some (.inl (nI q)), some (.inl (nI z)), some (.inl (nI p)), some (.inl (nI rs)), some (.inl (nI (1 + sz))), some (.inl (nI r))] [] M := by
  have b5 : by_b 5 := Or.inr (Or.inl rfl)
  intro k
  induction k with
  | zero =>
    intro r q hr hb hy hq
    have e : r = rs := by omega
    subst e
    refine k_Coder_fits_42 (fun _ => ?_) (fun z => absurd (nI_le (Nat.le_refl _) (by omega)) z)
    have := hy trivial (some (.inl (nI r))) (some (.inl (nI (1 + sz)))) (some (.inl (nI r)))
    rw [Nat.zero_mul, Nat.add_zero] at this
    exact this
  | succ k ih =>
    intro r q hr hb hy hq
    rw [Nat.add_mul, Nat.one_mul] at hb
    refine k_Coder_fits_42 (fun z => absurd z (nI_ge (by omega) (by omega))) (fun _ => k_Coder_fits_49 (w_Bytes_at b5 h5 ?_))
    rw [by_at_nI (by omega)]
    refine k_Coder_fits_54 (fun z => k_Coder_fits_66 (hq (fun t => t.1.1 z))) (fun z1 => k_Coder_fits_57 (w_Bytes_at b5 h5 ?_))
    rw [by_at_nI (by omega)]
    refine k_Coder_fits_62 (fun z2 => k_Coder_fits_68 ?_) (fun z => k_Coder_fits_66 (hq (fun t => z t.1.2)))
    rw [nI_add, nI_1]
    refine ih (r + 1) (q + (1 + sz)) (by omega) (by omega) (fun t l6 l7 l8 => ?_) (fun t => hq (fun t2 => t t2.2))
    have := hy ⟨⟨z1, z2⟩, t⟩ l6 l7 l8
    rw [show q + (1 + sz) + k * (1 + sz) = q + (k + 1) * (1 + sz) by rw [Nat.add_mul, Nat.one_mul]; omega]
    exact this
theorem w_fit_all {S d b z : Nat} {Q : pm_Q} {M : pm_M} {kd dp w h : Nat} {D : List Int32} {x2 : Int32} (hpb : pc_b b) (hok : pc_ok kd dp w h) (hs : pc_sh M b kd dp w h) (hst : ps_is M) (h5 : by_is M 5 D) (hz : z < 8) : ∀ (k p q : Nat) (l6 l7 l8 : Option pm_V), p + k = z + 1 → q + en_tl kd dp w h k p < 900 → (fi_all D kd dp w h k p q → q + en_tl kd dp w h k p = D.length → Q (some (.inl 1)) M) → (¬ (fi_all D kd dp w h k p q ∧ q + en_tl kd dp w h k p = D.length) → Q (some (.inl 0)) M) → pm_R S (pm_PC S (d + 2)) Q 50 14 [some (.inr (.inr 5)), some (.inr (.inr b)), some (.inl x2), some (.inl (nI q)), some (.inl (nI z)), some (.inl (nI p)), l6, l7, l8] [] M := by
  have b5 : by_b 5 := Or.inr (Or.inl rfl)
  have hw := hok.2.1
  have hh := hok.2.2
  have h300 := h5.lt b5
  intro k
  induction k with
  | zero =>
    intro p q l6 l7 l8 hp hb hy hn
    have e0 : q + en_tl kd dp w h 0 p = q := rfl
    rw [e0] at hy hn hb
    refine k_Coder_fits_14 (fun _ => k_Coder_fits_85 (fun t => k_Coder_fits_97 (k_Coder_fits_98 (by decide) (hn (fun u => t ?_)))) (fun t => k_Coder_fits_93 (k_Coder_fits_98 (by decide) (hy trivial ?_)))) (fun t => absurd (nI_lt (by omega) (by omega)) t)
    · rw [h5.1, u.2]
    · have t := Classical.not_not.mp t
      rw [h5.1] at t
      exact (nI_eq (by omega) (by omega)).mp t
  | succ k ih =>
    intro p q l6 l7 l8 hp hb hy hn
    unfold en_tl at hb hy hn
    unfold fi_all at hy hn
    have hp8 : p < 8 := by omega
    refine k_Coder_fits_14 (fun t => absurd t (nI_nlt (by omega) (by omega))) (fun _ => k_Coder_fits_21 hpb (w_Pict_rowsInPass hpb (by omega) (by omega) hp8 hs.2.2.1 hs.2.2.2 hst (k_Coder_fits_27 hpb (w_Pict_rowSize hpb hok hs hp8 hst (k_Coder_fits_36 ?_)))))
    rw [show (1 : Int32) = nI 1 from rfl, nI_add]
    refine w_fit_rows h5 (ps_rw_lt hp8 (by omega)) (ps_rw p w h) 0 q (by omega) (by omega) (fun t l6 l7 l8 => k_Coder_fits_79 ?_) (fun t => hn (fun t2 => t t2.1.1))
    · rw [nI_1]
      refine ih (p + 1) _ _ _ _ (by omega) (by omega) (fun t1 t2 => hy ⟨t, t1⟩ (by omega)) (fun t1 => hn (fun t2 => t1 ⟨t2.1.2, by omega⟩))
theorem w_Coder_fits {S d b : Nat} {Q : pm_Q} {M : pm_M} {kd dp w h : Nat} {D : List Int32} {s : Int32} (hpb : pc_b b) (hok : pc_ok kd dp w h) (hs : pc_sh M b kd dp w h) (hst : ps_is M) (h5 : by_is M 5 D) (hy : fi_of D kd dp w h s → Q (some (.inl 1)) M) (hn : ¬ fi_of D kd dp w h s → Q (some (.inl 0)) M) : pm_PC S (d + 3) 50 [.inr (.inr 5), .inr (.inr b), .inl s] M Q := by
  have ht := en_tl_ok hok
  refine e_Coder_fits (k_Coder_fits_0 (w_Pict_lastPass (k_Coder_fits_6 (w_Pict_firstPass (k_Coder_fits_12 ?_)))))
  unfold fi_of at hy hn
  by_cases e : s = 0
  · rw [if_pos e] at hy hn
    rw [if_pos e, if_pos e]
    exact w_fit_all (z := 7) hpb hok hs hst h5 (by decide) 1 7 0 _ _ _ (by decide) (by omega) (fun t1 t2 => hy ⟨t1, by omega⟩) (fun t => hn (fun t2 => t ⟨t2.1, by omega⟩))
  · rw [if_neg e] at hy hn
    rw [if_neg e, if_neg e]
    exact w_fit_all (z := 6) hpb hok hs hst h5 (by decide) 7 0 0 _ _ _ (by decide) (by omega) (fun t1 t2 => hy ⟨t1, by omega⟩) (fun t => hn (fun t2 => t ⟨t2.1, by omega⟩))
def de_f (D : List Int32) (q : Nat) : Nat := (un_p D q).toNatClampNeg
def de_g (kd dp w : Nat) (D : List Int32) (p q : Nat) (u : Nat → Int32) : Nat → Int32 := de_r (de_f D q) (ps_un (pc_pp kd) dp) (fun k => un_p D (q + 1 + k)) u (ps_sz p w (pc_pp kd) dp)
def de_rows (kd dp w : Nat) (D : List Int32) (p : Nat) : Nat → Nat → Nat → (Nat → Int32) → (Nat → Nat → Nat → Int32) × (Nat → Int32) → (Nat → Nat → Nat → Int32) × (Nat → Int32)
  | 0, _, _, _, s => s
  | k + 1, r, q, u, s => de_rows kd dp w D p k (r + 1) (q + (1 + ps_sz p w (pc_pp kd) dp)) (de_g kd dp w D p q u) (de_ss kd dp (de_g kd dp w D p q u) p r (ps_pt p w * pc_pp kd) 0 s.1, upd s.2 (de_f D q) (s.2 (de_f D q) + 1))
def de_all (kd dp w h : Nat) (D : List Int32) : Nat → Nat → Nat → (Nat → Nat → Nat → Int32) × (Nat → Int32) → (Nat → Nat → Nat → Int32) × (Nat → Int32)
  | 0, _, _, s => s
  | k + 1, p, q, s => de_all kd dp w h D k (p + 1) (q + ps_rw p w h * (1 + ps_sz p w (pc_pp kd) dp)) (de_rows kd dp w D p (ps_rw p w h) 0 q (fun _ => 0) s)
/-- samples and rows of each filter out of data that fit -/
def de_of (kd dp w h : Nat) (D : List Int32) (s : Int32) : (Nat → Nat → Nat → Int32) × (Nat → Int32) := if s = 0 then de_all kd dp w h D 1 7 0 (fun _ _ _ => 0, fun _ => 0) else de_all kd dp w h D 7 0 0 (fun _ _ _ => 0, fun _ => 0)
def de_ks (b : Nat) : List Nat := [b + 1, 11, 12, 13, 14]
theorem de_fl {D : List Int32} {q : Nat} (h : ¬ un_p D q < 0 ∧ un_p D q < 5) : un_p D q = nI (de_f D q) ∧ de_f D q < 5 := by
  obtain ⟨n, hn, e⟩ := nI_of h.1
  have e2 : de_f D q = n := by
    unfold de_f
    rw [e]
    exact nI_clamp hn
  rw [e2]
  refine ⟨e, ?_⟩
  have h2 := h.2
  rw [e, show (5 : Int32) = nI 5 from rfl, nI_ltI hn (by decide)] at h2
  exact h2
theorem w_dec_rows {S d b z : Nat} {Q : pm_Q} {kd dp w h p : Nat} {D : List Int32} {x3 : Int32} (hb : pc_b b) (hok : pc_ok kd dp w h) (hp : p < 8) : ∀ (k r q : Nat) (M : pm_M) (g u u' : Nat → Int32) (s : (Nat → Nat → Nat → Int32) × (Nat → Int32)) (l9 : Option pm_V), r + k = ps_rw p w h → q + k * (1 + ps_sz p w (pc_pp kd) dp) < 800 → fi_rows D (ps_sz p w (pc_pp kd) dp) k q → pc_is M b kd dp w h s.1 → ps_is M → by_is M 5 D → (∀ i, i < 5 → M 11 i = s.2 i) → ro_is M (ps_sz p w (pc_pp kd) dp) (ps_un (pc_pp kd) dp) g u' → (∀ j, j < ps_sz p w (pc_pp kd) dp → u' j = u j) → (∀ M' l8 l9, pc_is M' b kd dp w h (de_rows kd dp w D p k r q u s).1 → (∀ i, i < 5 → M' 11 i = (de_rows kd dp w D p k r q u s).2 i) → pm_ag (de_ks b) M M' → pm_R S (pm_PC S (d + 4)) Q 51 141 [some (.inr (.inr 10)), some (.inr (.inr 5)), some (.inr (.inr b)), some (.inl x3), some (.inl (nI (q + k * (1 + ps_sz p w (pc_pp kd) dp)))), some (.inl (nI z)), some (.inl (nI p)), some (.inl (nI (ps_rw p w h))), l8, l9] [] M') → pm_R S (pm_PC S (d + 4)) Q 51 51 [some (.inr (.inr 10)), some (.inr (.inr 5)), some (.inr (.inr b)), some (.inl x3), some (.inl (nI q)), some (.inl (nI z)), some (.inl (nI p)), some (.inl (nI (ps_rw p w h))), some (.inl (nI r)), l9] [] M := by
  have hsz := ps_sz_le hok hp
  have hun := ps_un_le hok
  have hw := hok.2.1
  have hh := hok.2.2
  have hrw := ps_rw_lt (w := w) hp (show h < 9 by omega)
  have b5 : by_b 5 := Or.inr (Or.inl rfl)
  have k1 : ∀ k ∈ [11], k ∈ de_ks b := by simp [de_ks]
  have k2 : ∀ k ∈ [13], k ∈ de_ks b := by simp [de_ks]
  have k3 : ∀ k ∈ [b + 1], k ∈ de_ks b := by simp [de_ks]
  have k4 : ∀ k ∈ [14], k ∈ de_ks b := by simp [de_ks]
  have nb : b ∉ [11] ∧ b + 1 ∉ [11] ∧ b ∉ [13] ∧ b + 1 ∉ [13] ∧ b ∉ [14] ∧ b + 1 ∉ [14] := by rcases hb with rfl | rfl <;> decide
  have nn : 5 ∉ de_ks b ∧ 5 + 1 ∉ de_ks b ∧ (∀ k ∈ de_ks b, k < 26) ∧ 11 ∉ [b + 1] ∧ 12 ∉ [b + 1] ∧ 13 ∉ [b + 1] ∧ 14 ∉ [b + 1] := by rcases hb with rfl | rfl <;> decide
  intro k
  induction k with
  | zero =>
    intro r q M g u u' s l9 hr hq9 hfi hpc hst h5 h11 hro hu hq
    have e : r = ps_rw p w h := by omega
    rw [Nat.zero_mul, Nat.add_zero] at hq
    refine k_Coder_decode_51 (fun _ => hq M _ _ hpc h11 pm_ag.rf) (fun t => absurd (nI_le (by omega) (by omega)) t)
  | succ k ih =>
    intro r q M g u u' s l9 hr hq9 hfi hpc hst h5 h11 hro hu hq
    rw [Nat.add_mul, Nat.one_mul] at hq9
    obtain ⟨hf, hfi2⟩ := hfi
    obtain ⟨ef, hf5⟩ := de_fl hf
    unfold de_rows at hq
    refine k_Coder_decode_51 (fun t => absurd t (nI_ge (by omega) (by omega))) (fun _ => k_Coder_decode_58 (w_Bytes_at b5 h5 ?_))
    rw [by_at_nI (by omega), show (D[q]?).getD (-1) = nI (de_f D q) from ef]
    refine k_Coder_decode_64 (fun t => absurd t (nI_pos (by omega))) (fun _ => k_Coder_decode_71 (fun t => absurd t (nI_ge (b := 5) hf5 (by decide))) (fun _ => k_Coder_decode_77 (vp_in_nI hf5 (by decide)) (vp_in_nI hf5 (by decide)) (k_Coder_decode_88 ?_)))
    rw [nI_clamp (by omega), nI_1, h11 _ hf5]
    have a1 : pm_ag [11] M (pm_up M 11 (de_f D q) (s.2 (de_f D q) + 1)) := pm_ag.up (by simp)
    refine w_Row_takeFiltered (hro.keep a1 (by decide) (by decide) (by decide)) hu ⟨hun.1, by omega⟩ hsz hf5 (by omega) (h5.keep a1 (by decide) (by decide)) (fun M2 g2 r2 e2 a2 => k_Coder_decode_102 hb ?_)
    have hg2 : ∀ j, j < ps_sz p w (pc_pp kd) dp → M2 13 j = de_g kd dp w D p q u j := fun j hj => by
      rw [r2.2.2.1 j (by omega)]
      exact e2 j hj
    have hpc2 := (hpc.keep a1 nb.1 nb.2.1).keep a2 nb.2.2.1 nb.2.2.2.1
    have hst2 : ps_is M2 := (hst.keep a1 (by decide)).keep a2 (by decide)
    refine w_Row_store hb hok hpc2 hst2 hp (show r < _ by omega) hg2 (fun M3 p3 a3 => k_Coder_decode_114 ?_)
    have r3 : ro_is M3 _ _ g2 u' := r2.keep a3 nn.2.2.2.2.1 nn.2.2.2.2.2.1 nn.2.2.2.2.2.2
    refine w_Row_endRow r3 (fun M4 r4 a4 => k_Coder_decode_121 ?_)
    have A : pm_ag (de_ks b) M M4 := (((a1.wd k1).of a2 k2).of a3 k3).of a4 k4
    rw [r4.1, show (1 : Int32) = nI 1 from rfl, nI_add, nI_add, nI_add]
    refine ih (r + 1) (q + (1 + ps_sz p w (pc_pp kd) dp)) M4 g2 (de_g kd dp w D p q u) g2 (de_ss kd dp (de_g kd dp w D p q u) p r (ps_pt p w * pc_pp kd) 0 s.1, upd s.2 (de_f D q) (s.2 (de_f D q) + 1)) _ (by omega) (by omega) hfi2 (p3.keep a4 nb.2.2.2.2.1 nb.2.2.2.2.2) (hst.keep A nn.2.2.1) (h5.keep A nn.1 nn.2.1) (fun i hi => ?_) r4 (fun j hj => e2 j hj) (fun M' l8 l9 t1 t2 t3 => ?_)
    · rw [a4 11 (by decide), a3 11 nn.2.2.2.1, a2 11 (by decide)]
      show _ = upd s.2 (de_f D q) _ i
      by_cases e : i = de_f D q
      · subst e
        rw [pm_up_hit, pk_us]
      · rw [pm_up_off (Or.inr e), pk_un e]
        exact h11 i hi
    · have := hq M' l8 l9 t1 t2 (A.tr t3)
      rw [show q + (1 + ps_sz p w (pc_pp kd) dp) + k * (1 + ps_sz p w (pc_pp kd) dp) = q + (k + 1) * (1 + ps_sz p w (pc_pp kd) dp) by rw [Nat.add_mul, Nat.one_mul]; omega]
      exact this
theorem w_dec_all {S d b z : Nat} {Q : pm_Q} {kd dp w h : Nat} {D : List Int32} {x3 : Int32} (hb : pc_b b) (hok : pc_ok kd dp w h) (hz : z < 8) : ∀ (k p q : Nat) (M : pm_M) (s : (Nat → Nat → Nat → Int32) × (Nat → Int32)) (l7 l8 l9 : Option pm_V), p + k = z + 1 → q + en_tl kd dp w h k p < 800 → fi_all D kd dp w h k p q → pc_is M b kd dp w h s.1 → ps_is M → by_is M 5 D → (∀ i, i < 5 → M 11 i = s.2 i) → (∀ M', pc_is M' b kd dp w h (de_all kd dp w h D k p q s).1 → (∀ i, i < 5 → M' 11 i = (de_all kd dp w h D k p q s).2 i) → pm_ag (de_ks b) M M' → Q none M') → pm_R S (pm_PC S (d + 4)) Q 51 23 [some (.inr (.inr 10)), some (.inr (.inr 5)), some (.inr (.inr b)), some (.inl x3), some (.inl (nI q)), some (.inl (nI z)), some (.inl (nI p)), l7, l8, l9] [] M := by
  have hw := hok.2.1
  have hh := hok.2.2
  have nn : 5 ∉ de_ks b ∧ 5 + 1 ∉ de_ks b ∧ (∀ k ∈ de_ks b, k < 26) := by rcases hb with rfl | rfl <;> decide
  have nb : b ∉ [12, 14] ∧ b + 1 ∉ [12, 14] := by rcases hb with rfl | rfl <;> decide
  have kk : ∀ k ∈ [12, 14], k ∈ de_ks b := by rcases hb with rfl | rfl <;> decide
  intro k
  induction k with
  | zero =>
    intro p q M s l7 l8 l9 hp hq9 hfi hpc hst h5 h11 hq
    exact k_Coder_decode_23 (fun _ => k_Coder_decode_147 (hq M hpc h11 pm_ag.rf)) (fun t => absurd (nI_lt (by omega) (by omega)) t)
  | succ k ih =>
    intro p q M s l7 l8 l9 hp hq9 hfi hpc hst h5 h11 hq
    unfold en_tl at hq9
    unfold de_all at hq
    obtain ⟨f1, f2⟩ := hfi
    have hp8 : p < 8 := by omega
    refine k_Coder_decode_23 (fun t => absurd t (nI_nlt (by omega) (by omega))) (fun _ => k_Coder_decode_30 hb (w_Pict_rowsInPass hb (by omega) (by omega) hp8 hpc.1.2.2.1 hpc.1.2.2.2 hst (k_Coder_decode_36 hb (w_Row_startPass (g := M 13) hb hok hpc.1 hp8 hst (fun _ _ => rfl) (fun M1 g1 a1 => k_Coder_decode_48 ?_)))))
    have A1 : pm_ag (de_ks b) M M1 := a1.wd kk
    refine w_dec_rows hb hok hp8 (ps_rw p w h) 0 q M1 _ (fun _ => 0) _ s _ (by omega) (by omega) f1 (hpc.keep a1 nb.1 nb.2) (hst.keep A1 nn.2.2) (h5.keep A1 nn.1 nn.2.1) (fun i hi => by rw [a1 11 (by decide)]; exact h11 i hi) g1 (fun _ _ => rfl) (fun M2 l8 l9 q1 q2 a2 => k_Coder_decode_141 ?_)
    rw [nI_1]
    exact ih (p + 1) _ M2 _ _ _ _ (by omega) (by omega) f2 q1 ((hst.keep A1 nn.2.2).keep a2 nn.2.2) ((h5.keep A1 nn.1 nn.2.1).keep a2 nn.1 nn.2.1) q2 (fun M' t1 t2 t3 => hq M' t1 t2 ((A1.tr a2).tr t3))
theorem w_Coder_decode {S d b : Nat} {Q : pm_Q} {M : pm_M} {kd dp w h : Nat} {D : List Int32} {s : Int32} (hb : pc_b b) (hok : pc_ok kd dp w h) (hpc : pc_is M b kd dp w h (fun _ _ _ => 0)) (hst : ps_is M) (h5 : by_is M 5 D) (hfi : fi_of D kd dp w h s) (hq : ∀ M', pc_is M' b kd dp w h (de_of kd dp w h D s).1 → (∀ i, i < 5 → M' 11 i = (de_of kd dp w h D s).2 i) → pm_ag (de_ks b) M M' → Q none M') : pm_PC S (d + 5) 51 [.inr (.inr 10), .inr (.inr 5), .inr (.inr b), .inl s] M Q := by
  have ht := en_tl_ok hok
  have nn : 5 ∉ de_ks b ∧ 5 + 1 ∉ de_ks b ∧ (∀ k ∈ de_ks b, k < 26) ∧ b ∉ [11] ∧ b + 1 ∉ [11] := by rcases hb with rfl | rfl <;> decide
  refine e_Coder_decode (k_Coder_decode_0 (w_Arr_fill (Or.inl rfl) (fun M1 g1 a1 => k_Coder_decode_8 (w_Pict_lastPass (k_Coder_decode_15 (w_Pict_firstPass (k_Coder_decode_21 ?_)))))))
  have A1 : pm_ag (de_ks b) M M1 := a1.wd (by simp [de_ks])
  have h11 : ∀ i, i < 5 → M1 11 i = 0 := fun i hi => g1 i hi
  unfold fi_of at hfi
  unfold de_of at hq
  by_cases e : s = 0
  · rw [if_pos e] at hfi hq
    rw [if_pos e, if_pos e]
    exact w_dec_all (z := 7) hb hok (by decide) 1 7 0 M1 (fun _ _ _ => 0, fun _ => 0) _ _ _ (by decide) (by omega) hfi.1 (hpc.keep a1 nn.2.2.2.1 nn.2.2.2.2) (hst.keep A1 nn.2.2.1) (h5.keep A1 nn.1 nn.2.1) h11 (fun M' t1 t2 t3 => hq M' t1 t2 (A1.tr t3))
  · rw [if_neg e] at hfi hq
    rw [if_neg e, if_neg e]
    exact w_dec_all (z := 6) hb hok (by decide) 7 0 0 M1 (fun _ _ _ => 0, fun _ => 0) _ _ _ (by decide) (by omega) hfi.1 (hpc.keep a1 nn.2.2.2.1 nn.2.2.2.2) (hst.keep A1 nn.2.2.1) (h5.keep A1 nn.1 nn.2.1) h11 (fun M' t1 t2 t3 => hq M' t1 t2 (A1.tr t3))
