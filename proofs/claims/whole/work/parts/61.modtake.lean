/-! SevenPassImageModel: bits, codes, copies are taken. -/
def mk_g (M : pm_M) (F P : List Int32) (t : Nat) (D : List Int32) (n : Nat) : Prop := mo_f M F ∧ M 19 16 = 0 ∧ M 19 17 = nI t ∧ t ≤ 8 * P.length ∧ mo_d M D ∧ M 19 11 = nI n
def mk_x (M : pm_M) (F : List Int32) (B : Nat) : Prop := ∃ (t : Nat) (D : List Int32), mo_f M F ∧ M 19 16 = 1 ∧ M 19 17 = nI t ∧ t ≤ B ∧ mo_d M D
abbrev mk_a (M M' : pm_M) : Prop := mo_ag [11, 12, 16, 17] [25] M M'
theorem mk_x.le {M : pm_M} {F : List Int32} {B B' : Nat} (h : mk_x M F B) (hB : B ≤ B') : mk_x M F B' := by
  obtain ⟨t, D, h1, h2, h3, h4, h5⟩ := h
  exact ⟨t, D, h1, h2, h3, by omega, h5⟩
theorem mk_x.brk {M : pm_M} {F : List Int32} {B : Nat} (h : mk_x M F B) : mk_x (pm_up M 19 16 1) F B := by
  obtain ⟨t, D, h1, h2, h3, h4, h5⟩ := h
  have a : mo_ag [16] [] M (pm_up M 19 16 1) := mo_ag.f (by decide)
  exact ⟨t, D, h1.keep a (by decide) (by decide), pm_up_hit, by rw [a.2 17 (by decide)]; exact h3, h4, h5.keep a (by decide) (by decide)⟩
theorem mk_g.brk {M : pm_M} {F P : List Int32} {t : Nat} {D : List Int32} {n : Nat} (h : mk_g M F P t D n) : mk_x (pm_up M 19 16 1) F (8 * P.length) := by
  obtain ⟨h1, h2, h3, h4, h5, h6⟩ := h
  have a : mo_ag [16] [] M (pm_up M 19 16 1) := mo_ag.f (by decide)
  exact ⟨t, D, h1.keep a (by decide) (by decide), pm_up_hit, by rw [a.2 17 (by decide)]; exact h3, h4, h5.keep a (by decide) (by decide)⟩
theorem mk_x.step {M : pm_M} {F : List Int32} {B : Nat} (h : mk_x M F B) : mk_x (pm_up M 19 17 (M 19 17 + 1)) F (B + 1) := by
  obtain ⟨t, D, h1, h2, h3, h4, h5⟩ := h
  have a : mo_ag [17] [] M (pm_up M 19 17 (M 19 17 + 1)) := mo_ag.f (by decide)
  exact ⟨t + 1, D, h1.keep a (by decide) (by decide), by rw [a.2 16 (by decide)]; exact h2, by rw [pm_up_hit, h3, nI_1], by omega, h5.keep a (by decide) (by decide)⟩
def tk_s (lf : Int32) (k v b : Nat) : Nat := if lf = 0 then 2 * v + b else v + b * 2 ^ k
def tk_v (lf : Int32) (P : List Int32) (t n : Nat) : Nat := if lf = 0 then rd_hi P t n else rd_lo P t n
theorem tk_v_s (lf : Int32) (P : List Int32) (t n : Nat) : tk_v lf P t (n + 1) = tk_s lf n (tk_v lf P t n) (rd_b P (t + n)) := by
  unfold tk_v tk_s
  split <;> rfl
theorem tk_v_lt (lf : Int32) (P : List Int32) (t n : Nat) : tk_v lf P t n < 2 ^ n := by
  unfold tk_v
  split
  · exact rd_hi_lt P t n
  · exact rd_lo_lt P t n
theorem tk_s_lt {lf : Int32} {k v b : Nat} (hv : v < 2 ^ k) (hb : b < 2) : tk_s lf k v b < 2 ^ (k + 1) := by
  have h1 : b * 2 ^ k ≤ 1 * 2 ^ k := Nat.mul_le_mul_right _ (by omega)
  unfold tk_s
  rw [Nat.pow_succ]
  split <;> omega
section MOD
variable {S d : Nat} {Q : pm_Q} {F P : List Int32} {ls : Nat}
theorem w_tk_any {M : pm_M} {k v o : Nat} {lf y b : Int32} {l1 l5 : Option pm_V} (hk : k < 20) (hv : v < 2 ^ k) (ho : o < 2) (hb : pm_ishr y (pm_irem (M 19 17) 8) &&& 1 = nI o) (hq : ∀ l5, pm_R S (pm_PC S (d + 3)) Q 142 5 [some (.inr (.inr 19)), l1, some (.inl lf), some (.inl (nI (tk_s lf k v o))), some (.inl (nI (k + 1))), l5] [] (pm_up M 19 17 (M 19 17 + 1))) : pm_R S (pm_PC S (d + 3)) Q 142 22 [some (.inr (.inr 19)), l1, some (.inl lf), some (.inl (nI v)), some (.inl (nI k)), l5] [.inl y] M := by
  have h20 : 2 ^ k ≤ 2 ^ 19 := Nat.pow_le_pow_right (by decide) (by omega)
  have h21 : o * 2 ^ k ≤ 1 * 2 ^ 19 := Nat.mul_le_mul (by omega) h20
  unfold tk_s at hq
  refine k_Mod_take_22 (fun z => k_Mod_take_58 (k_Mod_take_64 ?_)) (fun z => k_Mod_take_48 (k_Mod_take_64 ?_))
  · rw [if_pos z] at hq
    rw [hb, show (2 : Int32) = nI 2 from rfl, pk_mul, nI_add, nI_1]
    exact hq _
  · rw [if_neg z] at hq
    rw [hb, nb_shl (by omega) (by omega), nI_add, nI_1]
    exact hq _
theorem w_tk_x (hfb : fx_b F) (hfa : fa F = some (P, ls)) {n B : Nat} {lf : Int32} (hn : n < 20) (hB : B + n < 2 ^ 20) : ∀ (j k : Nat) (M : pm_M) (v : Nat) (l5 : Option pm_V), k + j = n → v < 2 ^ k → mk_x M F (B + k) → (∀ M' v, v < 2 ^ n → mk_x M' F (B + n) → mk_a M M' → Q (some (.inl (nI v))) M') → pm_R S (pm_PC S (d + 3)) Q 142 5 [some (.inr (.inr 19)), some (.inl (nI n)), some (.inl lf), some (.inl (nI v)), some (.inl (nI k)), l5] [] M := by
  intro j
  induction j with
  | zero =>
    intro k M v l5 hk hv hx hq
    have e : k = n := by omega
    subst e
    exact k_Mod_take_5 (fun _ => k_Mod_take_71 (hq M v hv hx mo_ag.rf)) (fun z => absurd (nI_le (Nat.le_refl _) (by omega)) z)
  | succ j ih =>
    intro k M v l5 hk hv hx hq
    have hx0 := hx
    obtain ⟨t, D, h1, h2, h3, h4, h5⟩ := hx
    have ed : M 19 17 / 8 = nI (t / 8) := by rw [h3]; exact nm_div8 (by omega)
    refine k_Mod_take_5 (fun z => absurd z (nI_ge (by omega) (by omega))) (fun _ => k_Mod_take_11 ?_)
    rw [ed]
    have go : ∀ (N : pm_M) (y : Int32) (l5 : Option pm_V), mk_x N F (B + k) → mk_a M N → pm_R S (pm_PC S (d + 3)) Q 142 22 [some (.inr (.inr 19)), some (.inl (nI n)), some (.inl lf), some (.inl (nI v)), some (.inl (nI k)), l5] [.inl y] N := by
      intro N y l5 hN aN
      obtain ⟨o, ho, eo⟩ := pk_andE (pm_ishr y (pm_irem (N 19 17) 8)) (m := 1) 1 (by decide)
      refine w_tk_any (b := 0) (by omega) hv (show o < 2 by omega) eo (fun l5 => ?_)
      exact ih (k + 1) _ _ _ (by omega) (tk_s_lt hv (by omega)) hN.step (fun M' u hu hx' ha' => hq M' u hu hx' ((aN.tr (mo_ag.f (by decide))).tr ha'))
    exact w_Mod_packedByte hfb h1 hfa (by omega) (fun _ => go M _ _ hx0 mo_ag.rf) (fun _ => go _ _ _ hx0.brk (mo_ag.f (by decide)))
theorem w_tk_g (hfb : fx_b F) (hfa : fa F = some (P, ls)) (hP : P.length ≤ 700) {n t c : Nat} {D : List Int32} {lf : Int32} (hn : n < 20) : ∀ (j k : Nat) (M : pm_M) (l5 : Option pm_V), k + j = n → mk_g M F P (t + k) D c → (t + n ≤ 8 * P.length → ∀ M', mk_g M' F P (t + n) D c → mk_a M M' → Q (some (.inl (nI (tk_v lf P t n)))) M') → (8 * P.length < t + n → ∀ M' v, v < 2 ^ n → mk_x M' F (8 * P.length + n) → mk_a M M' → Q (some (.inl (nI v))) M') → pm_R S (pm_PC S (d + 3)) Q 142 5 [some (.inr (.inr 19)), some (.inl (nI n)), some (.inl lf), some (.inl (nI (tk_v lf P t k))), some (.inl (nI k)), l5] [] M := by
  intro j
  induction j with
  | zero =>
    intro k M l5 hk hg hy hq
    have e : k = n := by omega
    subst e
    exact k_Mod_take_5 (fun _ => k_Mod_take_71 (hy hg.2.2.2.1 M hg mo_ag.rf)) (fun z => absurd (nI_le (Nat.le_refl _) (by omega)) z)
  | succ j ih =>
    intro k M l5 hk hg hy hq
    have hg0 := hg
    obtain ⟨h1, h2, h3, h4, h5, h6⟩ := hg
    have ed : M 19 17 / 8 = nI ((t + k) / 8) := by rw [h3]; exact nm_div8 (by omega)
    have er : pm_irem (M 19 17) 8 = nI ((t + k) % 8) := by rw [h3]; exact nm_rem8 (by omega)
    have hv := tk_v_lt lf P t k
    refine k_Mod_take_5 (fun z => absurd z (nI_ge (by omega) (by omega))) (fun _ => k_Mod_take_11 ?_)
    rw [ed]
    refine w_Mod_packedByte hfb h1 hfa (by omega) (fun hlt => ?_) (fun hge => ?_)
    · refine w_tk_any (b := 0) (by omega) hv (rd_b_lt P (t + k)) (by rw [er]; exact rd_bit P (t + k)) (fun l5 => ?_)
      rw [← tk_v_s]
      have a : mk_a M (pm_up M 19 17 (M 19 17 + 1)) := mo_ag.f (by decide)
      have a' : mo_ag [17] [] M (pm_up M 19 17 (M 19 17 + 1)) := mo_ag.f (by decide)
      refine ih (k + 1) _ _ (by omega) ⟨h1.keep a' (by decide) (by decide), by rw [a'.2 16 (by decide)]; exact h2, ?_, by omega, h5.keep a' (by decide) (by decide), by rw [a'.2 11 (by decide)]; exact h6⟩ (fun q M' g1 g2 => hy q M' g1 (a.tr g2)) (fun q M' v hv' g1 g2 => hq q M' v hv' g1 (a.tr g2))
      rw [pm_up_hit, h3, nI_1, Nat.add_assoc]
    · have hx : mk_x (pm_up M 19 16 1) F (8 * P.length) := hg0.brk
      have a0 : mk_a M (pm_up M 19 16 1) := mo_ag.f (by decide)
      obtain ⟨o, ho, eo⟩ := pk_andE (pm_ishr 0 (pm_irem ((pm_up M 19 16 1) 19 17) 8)) (m := 1) 1 (by decide)
      refine w_tk_any (b := 0) (by omega) hv (show o < 2 by omega) eo (fun l5 => ?_)
      refine w_tk_x hfb hfa hn (B := 8 * P.length) (by omega) j (k + 1) _ _ _ (by omega) (tk_s_lt hv (by omega)) (hx.step.le (by omega)) (fun M' v hv' g1 g2 => hq (by omega) M' v hv' g1 ((a0.tr (mo_ag.f (by decide))).tr g2))
theorem w_Mod_take (hfb : fx_b F) (hfa : fa F = some (P, ls)) (hP : P.length ≤ 700) {M : pm_M} {n t c : Nat} {D : List Int32} {lf : Int32} (hn : n < 20) (hg : mk_g M F P t D c) (hy : t + n ≤ 8 * P.length → ∀ M', mk_g M' F P (t + n) D c → mk_a M M' → Q (some (.inl (nI (tk_v lf P t n)))) M') (hq : 8 * P.length < t + n → ∀ M' v, v < 2 ^ n → mk_x M' F (8 * P.length + n) → mk_a M M' → Q (some (.inl (nI v))) M') : pm_PC S (d + 4) 142 [.inr (.inr 19), .inl (nI n), .inl lf] M Q := by
  have e0 : tk_v lf P t 0 = 0 := by unfold tk_v; split <;> rfl
  have := w_tk_g (S := S) (d := d) (Q := Q) (lf := lf) hfb hfa hP hn n 0 M none (by omega) hg hy hq
  rw [e0] at this
  exact e_Mod_take (k_Mod_take_0 this)
theorem w_Mod_take_x (hfb : fx_b F) (hfa : fa F = some (P, ls)) {M : pm_M} {n B : Nat} {lf : Int32} (hn : n < 20) (hB : B + n < 2 ^ 20) (hx : mk_x M F B) (hq : ∀ M' v, v < 2 ^ n → mk_x M' F (B + n) → mk_a M M' → Q (some (.inl (nI v))) M') : pm_PC S (d + 4) 142 [.inr (.inr 19), .inl (nI n), .inl lf] M Q :=
  e_Mod_take (k_Mod_take_0 (w_tk_x hfb hfa hn hB n 0 M 0 _ (by omega) (by decide) hx hq))
theorem w_Mod_give {M : pm_M} {t n : Nat} {D : List Int32} {b : Int32} (hg : mk_g M F P t D n) (hy : D.length < 300 → ∀ M', mk_g M' F P t (D ++ [b]) n → mk_a M M' → Q none M') (hq : D.length = 300 → ∀ M', mk_x M' F (8 * P.length) → mk_a M M' → Q none M') : pm_PC S (d + 1) 143 [.inr (.inr 19), .inl b] M Q := by
  have hg0 := hg
  obtain ⟨h1, h2, h3, h4, h5, h6⟩ := hg
  have h300 := h5.2.1
  refine e_Mod_give (k_Mod_give_0 (fun z => ?_) (fun z => k_Mod_give_10 (hq ?_ _ hg0.brk (mo_ag.f (by decide)))))
  · have hlt : D.length < 300 := by
      by_cases hl : D.length < 300
      · exact hl
      · have e : D.length = 300 := by omega
        exact absurd (by rw [h5.1, e]; rfl) z
    refine k_Mod_give_16 (by rw [h5.1]; exact vp_in_nI hlt (by decide)) ?_
    rw [h5.1, nI_clamp (by omega), nI_1]
    have a : mo_ag [12] [25] M (pm_up (pm_up M 25 D.length b) 19 12 (nI (D.length + 1))) := (mo_ag.p (by decide) (by decide)).tr (mo_ag.f (by decide))
    exact hy hlt _ ⟨h1.keep a (by decide) (by decide), by rw [a.2 16 (by decide)]; exact h2, by rw [a.2 17 (by decide)]; exact h3, h4, h5.push hlt, by rw [a.2 11 (by decide)]; exact h6⟩ (a.wd (by decide) (by decide))
  · have z := Classical.not_not.mp z
    rw [h5.1] at z
    exact (nI_eq (a := D.length) (b := 300) (by omega) (by decide)).mp z
theorem w_Mod_give_x {M : pm_M} {B : Nat} {b : Int32} (hx : mk_x M F B) (hq : ∀ M', mk_x M' F B → mk_a M M' → Q none M') : pm_PC S (d + 1) 143 [.inr (.inr 19), .inl b] M Q := by
  have hx0 := hx
  obtain ⟨t, D, h1, h2, h3, h4, h5⟩ := hx
  have h300 := h5.2.1
  refine e_Mod_give (k_Mod_give_0 (fun z => ?_) (fun z => k_Mod_give_10 (hq _ hx0.brk (mo_ag.f (by decide)))))
  have hlt : D.length < 300 := by
    by_cases hl : D.length < 300
    · exact hl
    · have e : D.length = 300 := by omega
      exact absurd (by rw [h5.1, e]; rfl) z
  refine k_Mod_give_16 (by rw [h5.1]; exact vp_in_nI hlt (by decide)) ?_
  rw [h5.1, nI_clamp (by omega), nI_1]
  have a : mo_ag [12] [25] M (pm_up (pm_up M 25 D.length b) 19 12 (nI (D.length + 1))) := (mo_ag.p (by decide) (by decide)).tr (mo_ag.f (by decide))
  exact hq _ ⟨t, _, h1.keep a (by decide) (by decide), by rw [a.2 16 (by decide)]; exact h2, by rw [a.2 17 (by decide)]; exact h3, h4, h5.push hlt⟩ (a.wd (by decide) (by decide))
theorem w_mtc_x (hfb : fx_b F) (hfa : fa F = some (P, ls)) {M : pm_M} {B v : Nat} {l1 : Option pm_V} (hB : B < 2 ^ 19) (hv : v < 128) (hx : mk_x M F B) (hq : ∀ M' c, c ≤ 287 → mk_x M' F (B + 2) → mk_a M M' → Q (some (.inl (nI c))) M') : pm_R S (pm_PC S (d + 4)) Q 144 7 [some (.inr (.inr 19)), l1] [.inl (nI v)] M := by
  refine k_Mod_takeCode_7 (fun h => k_Mod_takeCode_20 ?_) (fun h => k_Mod_takeCode_14 ?_)
  · rw [show (24 : Int32) = nI 24 from rfl, nI_leI (by decide) (by omega)] at h
    rw [show (2 : Int32) = nI 2 from rfl, pk_mul]
    refine w_Mod_take_x (n := 1) hfb hfa (by decide) (by omega) hx (fun M1 b hb x1 a1 => ?_)
    have e1 : nI (2 * v) + nI b = nI (2 * v + b) := nI_add _ _
    refine k_Mod_takeCode_29 (fun h2 => ?_) (fun h2 => k_Mod_takeCode_38 ?_)
    · rw [e1, show (192 : Int32) = nI 192 from rfl, nI_leI (by decide) (by omega)] at h2
      rw [e1]
      refine k_Mod_takeCode_43 (fun h3 => k_Mod_takeCode_55 ?_) (fun h3 => k_Mod_takeCode_50 ?_)
      · rw [show (200 : Int32) = nI 200 from rfl, nI_leI (by decide) (by omega)] at h3
        rw [show (2 : Int32) = nI 2 from rfl, pk_mul]
        refine w_Mod_take_x (n := 1) hfb hfa (by decide) (by omega) x1 (fun M2 b2 hb2 x2 a2 => k_Mod_takeCode_64 ?_)
        rw [nI_add, show (256 : Int32) = nI 256 from rfl, pk_sub (by omega)]
        exact hq M2 _ (by omega) x2 (a1.tr a2)
      · rw [show (200 : Int32) = nI 200 from rfl, nI_leI (by decide) (by omega)] at h3
        rw [show (88 : Int32) = nI 88 from rfl, nI_add]
        exact hq M1 _ (by omega) (x1.le (by omega)) a1
    · rw [e1, show (192 : Int32) = nI 192 from rfl, nI_leI (by decide) (by omega)] at h2
      rw [e1, show (48 : Int32) = nI 48 from rfl, pk_sub (by omega)]
      exact hq M1 _ (by omega) (x1.le (by omega)) a1
  · rw [show (24 : Int32) = nI 24 from rfl, nI_leI (by decide) (by omega)] at h
    rw [show (256 : Int32) = nI 256 from rfl, nI_add]
    exact hq M _ (by omega) (hx.le (by omega)) mo_ag.rf
theorem w_Mod_takeCode_x (hfb : fx_b F) (hfa : fa F = some (P, ls)) {M : pm_M} {B : Nat} (hB : B < 2 ^ 18) (hx : mk_x M F B) (hq : ∀ M' c, c ≤ 287 → mk_x M' F (B + 9) → mk_a M M' → Q (some (.inl (nI c))) M') : pm_PC S (d + 5) 144 [.inr (.inr 19)] M Q :=
  e_Mod_takeCode (k_Mod_takeCode_0 (w_Mod_take_x (n := 7) hfb hfa (by decide) (by omega) hx (fun M1 v hv x1 a1 => w_mtc_x hfb hfa (by omega) (by omega) x1 (fun M2 c hc x2 a2 => hq M2 c hc x2 (a1.tr a2)))))
theorem w_Mod_takeCode (hfb : fx_b F) (hfa : fa F = some (P, ls)) (hP : P.length ≤ 700) {M : pm_M} {t n : Nat} {D : List Int32} (hg : mk_g M F P t D n) (hy : ∀ c t', un_code P t = some (c, t') → ∀ M', mk_g M' F P t' D n → mk_a M M' → Q (some (.inl (nI c))) M') (hq : un_code P t = none → ∀ M' c, c ≤ 287 → mk_x M' F (8 * P.length + 9) → mk_a M M' → Q (some (.inl (nI c))) M') : pm_PC S (d + 5) 144 [.inr (.inr 19)] M Q := by
  have a7 := rd_hi_lt P t 7
  have b7 := rd_b_lt P (t + 7)
  have b8 := rd_b_lt P (t + 8)
  have e8 : rd_hi P t 8 = 2 * rd_hi P t 7 + rd_b P (t + 7) := rfl
  have e9 : rd_hi P t 9 = 2 * rd_hi P t 8 + rd_b P (t + 8) := rfl
  have v1 : ∀ u, tk_v 0 P u 1 = rd_b P u := by
    intro u
    show 2 * rd_hi P u 0 + rd_b P (u + 0) = _
    rw [show rd_hi P u 0 = 0 from rfl, Nat.add_zero, Nat.mul_zero, Nat.zero_add]
  unfold un_code at hy hq
  refine e_Mod_takeCode (k_Mod_takeCode_0 (w_Mod_take (n := 7) hfb hfa hP (by decide) hg (fun h7 M1 g1 a1 => ?_) (fun h7 M1 v hv x1 a1 => ?_)))
  · rw [if_pos h7] at hy hq
    rw [show tk_v 0 P t 7 = rd_hi P t 7 from rfl]
    refine k_Mod_takeCode_7 (fun h => k_Mod_takeCode_20 ?_) (fun h => k_Mod_takeCode_14 ?_)
    · rw [show (24 : Int32) = nI 24 from rfl, nI_leI (by decide) (by omega)] at h
      rw [if_neg (by omega)] at hy hq
      rw [show (2 : Int32) = nI 2 from rfl, pk_mul]
      refine w_Mod_take (n := 1) hfb hfa hP (by decide) g1 (fun h8 M2 g2 a2 => ?_) (fun h8 M2 v hv x2 a2 => ?_)
      · rw [if_pos (by omega)] at hy hq
        rw [v1]
        have e1 : nI (2 * rd_hi P t 7) + nI (rd_b P (t + 7)) = nI (rd_hi P t 8) := by rw [nI_add, e8]
        refine k_Mod_takeCode_29 (fun h2 => ?_) (fun h2 => k_Mod_takeCode_38 ?_)
        · rw [e1, show (192 : Int32) = nI 192 from rfl, nI_leI (by decide) (by omega)] at h2
          rw [e1]
          rw [if_neg (by omega)] at hy hq
          refine k_Mod_takeCode_43 (fun h3 => k_Mod_takeCode_55 ?_) (fun h3 => k_Mod_takeCode_50 ?_)
          · rw [show (200 : Int32) = nI 200 from rfl, nI_leI (by decide) (by omega)] at h3
            rw [if_neg (by omega)] at hy hq
            rw [show (2 : Int32) = nI 2 from rfl, pk_mul]
            refine w_Mod_take (n := 1) hfb hfa hP (by decide) g2 (fun h9 M3 g3 a3 => k_Mod_takeCode_64 ?_) (fun h9 M3 v hv x3 a3 => k_Mod_takeCode_64 ?_)
            · rw [if_pos (by omega)] at hy hq
              rw [v1, nI_add, show t + 7 + 1 = t + 8 by omega, ← e9, show (256 : Int32) = nI 256 from rfl, pk_sub (by omega)]
              exact hy _ _ rfl M3 g3 ((a1.tr a2).tr a3)
            · rw [if_neg (by omega)] at hy hq
              rw [nI_add, show (256 : Int32) = nI 256 from rfl, pk_sub (by omega)]
              exact hq rfl M3 _ (by omega) (x3.le (by omega)) ((a1.tr a2).tr a3)
          · rw [show (200 : Int32) = nI 200 from rfl, nI_leI (by decide) (by omega)] at h3
            rw [if_pos (by omega)] at hy hq
            rw [show (88 : Int32) = nI 88 from rfl, nI_add]
            exact hy _ _ rfl M2 g2 (a1.tr a2)
        · rw [e1, show (192 : Int32) = nI 192 from rfl, nI_leI (by decide) (by omega)] at h2
          rw [if_pos (by omega)] at hy hq
          rw [e1, show (48 : Int32) = nI 48 from rfl, pk_sub (by omega)]
          exact hy _ _ rfl M2 g2 (a1.tr a2)
      · rw [if_neg (by omega)] at hy hq
        have e1 : nI (2 * rd_hi P t 7) + nI v = nI (2 * rd_hi P t 7 + v) := nI_add _ _
        refine k_Mod_takeCode_29 (fun h2 => ?_) (fun h2 => k_Mod_takeCode_38 ?_)
        · rw [e1, show (192 : Int32) = nI 192 from rfl, nI_leI (by decide) (by omega)] at h2
          rw [e1]
          refine k_Mod_takeCode_43 (fun h3 => k_Mod_takeCode_55 ?_) (fun h3 => k_Mod_takeCode_50 ?_)
          · rw [show (200 : Int32) = nI 200 from rfl, nI_leI (by decide) (by omega)] at h3
            rw [show (2 : Int32) = nI 2 from rfl, pk_mul]
            refine w_Mod_take_x (n := 1) hfb hfa (by decide) (by omega) x2 (fun M3 b3 hb3 x3 a3 => k_Mod_takeCode_64 ?_)
            rw [nI_add, show (256 : Int32) = nI 256 from rfl, pk_sub (by omega)]
            exact hq rfl M3 _ (by omega) (x3.le (by omega)) ((a1.tr a2).tr a3)
          · rw [show (200 : Int32) = nI 200 from rfl, nI_leI (by decide) (by omega)] at h3
            rw [show (88 : Int32) = nI 88 from rfl, nI_add]
            exact hq rfl M2 _ (by omega) (x2.le (by omega)) (a1.tr a2)
        · rw [e1, show (192 : Int32) = nI 192 from rfl, nI_leI (by decide) (by omega)] at h2
          rw [e1, show (48 : Int32) = nI 48 from rfl, pk_sub (by omega)]
          exact hq rfl M2 _ (by omega) (x2.le (by omega)) (a1.tr a2)
    · rw [show (24 : Int32) = nI 24 from rfl, nI_leI (by decide) (by omega)] at h
      rw [if_pos (by omega)] at hy hq
      rw [show (256 : Int32) = nI 256 from rfl, nI_add]
      exact hy _ _ rfl M1 g1 a1
  · rw [if_neg (by omega)] at hy hq
    exact w_mtc_x hfb hfa (by omega) (by omega) x1 (fun M2 c hc x2 a2 => hq rfl M2 c hc (x2.le (by omega)) (a1.tr a2))
end MOD
