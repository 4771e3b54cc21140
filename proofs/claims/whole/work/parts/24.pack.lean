/-! Packing: the data packed with copies and fixed codes. -/
def pk_cb (c : Int32) : List Int32 := if c < 144 then bi_hi (48 + c) 8 else if c < 256 then bi_hi (256 + c) 9 else if c < 280 then bi_hi (c - 256) 7 else bi_hi (c - 88) 8
theorem pk_cb_len (c : Int32) : (pk_cb c).length ≤ 9 := by
  unfold pk_cb
  split
  · rw [bi_hi_len]; omega
  · split
    · rw [bi_hi_len]; omega
    · split <;> rw [bi_hi_len] <;> omega
theorem w_Pack_putCode {S d : Nat} {Q : pm_Q} {M : pm_M} {c : Int32} {t : Nat} {l : List Int32} (hl : bi_is M l t) (hc : t + 9 ≤ 5600) (hq : ∀ M', bi_is M' (bi_ps l t (pk_cb c)) (t + (pk_cb c).length) → pm_ag [7, 8, 9] M M' → Q none M') : pm_PC S (d + 4) 55 [.inr (.inr 4), .inl c] M Q := by
  refine e_Pack_putCode (k_Pack_putCode_0 (fun h => k_Pack_putCode_23 (fun h2 => k_Pack_putCode_47 (fun h3 => k_Pack_putCode_71 ?_) (fun h3 => k_Pack_putCode_54 ?_)) (fun h2 => k_Pack_putCode_30 ?_)) (fun h => k_Pack_putCode_7 ?_))
  · have e : pk_cb c = bi_hi (c - 88) 8 := by rw [pk_cb, if_neg (Int32.not_lt.mpr h), if_neg (Int32.not_lt.mpr h2), if_neg (Int32.not_lt.mpr h3)]
    rw [e, bi_hi_len] at hq
    exact w_Bits_putHighestFirst (n := 8) (by decide) hl (by omega) (fun M' g1 g2 => k_Pack_putCode_84 (hq M' g1 g2))
  · have e : pk_cb c = bi_hi (c - 256) 7 := by rw [pk_cb, if_neg (Int32.not_lt.mpr h), if_neg (Int32.not_lt.mpr h2), if_pos (Int32.not_le.mp h3)]
    rw [e, bi_hi_len] at hq
    exact w_Bits_putHighestFirst (n := 7) (by decide) hl (by omega) (fun M' g1 g2 => k_Pack_putCode_68 (k_Pack_putCode_84 (hq M' g1 g2)))
  · have e : pk_cb c = bi_hi (256 + c) 9 := by rw [pk_cb, if_neg (Int32.not_lt.mpr h), if_pos (Int32.not_le.mp h2)]
    rw [e, bi_hi_len] at hq
    exact w_Bits_putHighestFirst (n := 9) (by decide) hl (by omega) (fun M' g1 g2 => k_Pack_putCode_44 (k_Pack_putCode_84 (hq M' g1 g2)))
  · have e : pk_cb c = bi_hi (48 + c) 8 := by rw [pk_cb, if_pos (Int32.not_le.mp h)]
    rw [e, bi_hi_len] at hq
    exact w_Bits_putHighestFirst (n := 8) (by decide) hl (by omega) (fun M' g1 g2 => k_Pack_putCode_20 (k_Pack_putCode_84 (hq M' g1 g2)))
/-- how many bytes from q + s on are as those d before them, at most k more -/
def pk_rn (D : List Int32) (q d : Nat) : Nat → Nat → Nat
  | 0, s => s
  | k + 1, s => if (D[q + s]?).getD (-1) = (D[q + s - d]?).getD (-1) then pk_rn D q d k (s + 1) else s
theorem pk_rn_ge (D : List Int32) (q d : Nat) : ∀ k s, s ≤ pk_rn D q d k s
  | 0, s => Nat.le_refl s
  | k + 1, s => by
    unfold pk_rn
    split
    · exact Nat.le_trans (Nat.le_succ s) (pk_rn_ge D q d k (s + 1))
    · exact Nat.le_refl s
theorem pk_rn_le (D : List Int32) (q d : Nat) : ∀ k s, pk_rn D q d k s ≤ s + k
  | 0, s => Nat.le_refl s
  | k + 1, s => by
    unfold pk_rn
    split
    · have := pk_rn_le D q d k (s + 1)
      omega
    · omega
/-- the longest copy of distances from d on, k of them, against p; of several the nearest -/
def pk_sr (D : List Int32) (q m : Nat) : Nat → Nat → Nat × Nat → Nat × Nat
  | 0, _, p => p
  | k + 1, d, p => pk_sr D q m k (d + 1) (if p.1 < pk_rn D q d m 0 then (pk_rn D q d m 0, d) else p)
theorem pk_sr_full (D : List Int32) (q m : Nat) : ∀ k d (p : Nat × Nat), m ≤ p.1 → pk_sr D q m k d p = p
  | 0, _, _, _ => rfl
  | k + 1, d, p, h => by
    have h1 := pk_rn_le D q d m 0
    show pk_sr D q m k (d + 1) (if p.1 < pk_rn D q d m 0 then (pk_rn D q d m 0, d) else p) = p
    rw [if_neg (by omega)]
    exact pk_sr_full D q m k (d + 1) p h
theorem pk_sr_le (D : List Int32) (q m : Nat) : ∀ k d (p : Nat × Nat), p.1 ≤ m → (pk_sr D q m k d p).1 ≤ m
  | 0, _, _, h => h
  | k + 1, d, p, h => by
    have h1 := pk_rn_le D q d m 0
    refine pk_sr_le D q m k (d + 1) _ ?_
    split
    · show pk_rn D q d m 0 ≤ m; omega
    · exact h
theorem pk_sr_d (D : List Int32) (q m : Nat) : ∀ k d (p : Nat × Nat), p.2 < d → (pk_sr D q m k d p).2 < d + k
  | 0, _, _, h => h
  | k + 1, d, p, h => by
    have := pk_sr_d D q m k (d + 1) (if p.1 < pk_rn D q d m 0 then (pk_rn D q d m 0, d) else p) (by split; exact Nat.lt_succ_self d; omega)
    show (pk_sr D q m k (d + 1) _).2 < _
    omega
theorem pk_sr_p (D : List Int32) (q m : Nat) : ∀ k d (p : Nat × Nat), (0 < p.1 → 0 < p.2) → 0 < d → 0 < (pk_sr D q m k d p).1 → 0 < (pk_sr D q m k d p).2
  | 0, _, _, h, _ => h
  | k + 1, d, p, h, hd => by
    refine pk_sr_p D q m k (d + 1) _ ?_ (by omega)
    split
    · intro _; exact hd
    · exact h
def pk_mo (D : List Int32) (q : Nat) : Nat := min 258 (D.length - q)
def pk_fi (D : List Int32) (q : Nat) : Nat × Nat := pk_sr D q (pk_mo D q) q 1 (0, 0)
theorem w_rn_loop {S d : Nat} {Q : pm_Q} {M : pm_M} {D : List Int32} {q m ds : Nat} (h5 : by_is M 5 D) (hq0 : q < 1000) (hm : q + m ≤ D.length) (hds : 1 ≤ ds ∧ ds ≤ q) : ∀ (k s : Nat), s + k = m → (pm_R S (pm_PC S (d + 1)) Q 53 83 [some (.inr (.inr 4)), some (.inl (nI q)), some (.inl (nI m)), some (.inl (nI ds)), some (.inl (nI (pk_rn D q ds k s)))] [] M) → pm_R S (pm_PC S (d + 1)) Q 53 44 [some (.inr (.inr 4)), some (.inl (nI q)), some (.inl (nI m)), some (.inl (nI ds)), some (.inl (nI s))] [] M := by
  have hb : by_b 5 := Or.inr (Or.inl rfl)
  have h700 := h5.lt hb
  intro k
  induction k with
  | zero =>
    intro s hs hk
    exact k_Pack_findCopy_44 (fun _ => hk) (fun h => absurd (nI_le (by omega) (by omega)) h)
  | succ k ih =>
    intro s hs hk
    have e1 : nI q + nI s - nI ds = nI (q + s - ds) := by rw [nI_add, pk_sub (by omega)]
    refine k_Pack_findCopy_44 (fun h => absurd h (nI_ge (by omega) (by omega))) (fun _ => k_Pack_findCopy_50 (w_Bytes_at hb h5 (k_Pack_findCopy_61 (w_Bytes_at hb h5 ?_))))
    rw [e1, nI_add, by_at_nI (by omega), by_at_nI (by omega)]
    unfold pk_rn at hk
    refine k_Pack_findCopy_74 (fun h => ?_) (fun h => k_Pack_findCopy_77 ?_)
    · rw [if_neg h] at hk
      exact hk
    · rw [if_pos (Classical.not_not.mp h)] at hk
      rw [nI_1]
      exact ih (s + 1) (by omega) hk
theorem w_fi_loop {S d : Nat} {Q : pm_Q} {D : List Int32} {q : Nat} (hq0 : q ≤ D.length) : ∀ (k ds : Nat) (M : pm_M) (p : Nat × Nat) (l4 : Option pm_V), ds + k = q + 1 → 1 ≤ ds → p.1 ≤ pk_mo D q → p.2 < 1000 → by_is M 5 D → M 4 4 = nI p.1 → M 4 5 = nI p.2 → (∀ M', M' 4 4 = nI (pk_sr D q (pk_mo D q) k ds p).1 → M' 4 5 = nI (pk_sr D q (pk_mo D q) k ds p).2 → pm_ag [4] M M' → M' 4 2 = M 4 2 → M' 4 3 = M 4 3 → Q none M') → pm_R S (pm_PC S (d + 1)) Q 53 28 [some (.inr (.inr 4)), some (.inl (nI q)), some (.inl (nI (pk_mo D q))), some (.inl (nI ds)), l4] [] M := by
  have hmo : pk_mo D q = min 258 (D.length - q) := rfl
  intro k
  induction k with
  | zero =>
    intro ds M p l4 hds h1 hp hp2 h5 h44 h45 hq
    have h700 := h5.lt (Or.inr (Or.inl rfl))
    exact k_Pack_findCopy_28 (fun _ => k_Pack_findCopy_109 (hq M h44 h45 pm_ag.rf rfl rfl)) (fun h => absurd (nI_lt (by omega) (by omega)) h)
  | succ k ih =>
    intro ds M p l4 hds h1 hp hp2 h5 h44 h45 hq
    have h700 := h5.lt (Or.inr (Or.inl rfl))
    refine k_Pack_findCopy_28 (fun h => absurd h (nI_nlt (by omega) (by omega))) (fun _ => k_Pack_findCopy_33 (fun h => k_Pack_findCopy_109 ?_) (fun h => k_Pack_findCopy_41 ?_))
    · rw [h44, nI_leI (by omega) (by omega)] at h
      rw [pk_sr_full D q (pk_mo D q) (k + 1) ds p h] at hq
      exact hq M h44 h45 pm_ag.rf rfl rfl
    · refine w_rn_loop h5 (by omega) (by omega) ⟨h1, by omega⟩ (pk_mo D q) 0 (by omega) ?_
      have hle := pk_rn_le D q ds (pk_mo D q) 0
      refine k_Pack_findCopy_83 (fun h2 => k_Pack_findCopy_103 ?_) (fun h2 => k_Pack_findCopy_92 (k_Pack_findCopy_103 ?_))
      · rw [h44, nI_leI (by omega) (by omega)] at h2
        have e : pk_sr D q (pk_mo D q) (k + 1) ds p = pk_sr D q (pk_mo D q) k (ds + 1) p := by
          show pk_sr D q (pk_mo D q) k (ds + 1) (if p.1 < _ then _ else p) = _
          rw [if_neg (by omega)]
        rw [e] at hq
        rw [nI_1]
        exact ih (ds + 1) M p _ (by omega) (by omega) hp hp2 h5 h44 h45 hq
      · rw [h44, nI_leI (by omega) (by omega)] at h2
        have e : pk_sr D q (pk_mo D q) (k + 1) ds p = pk_sr D q (pk_mo D q) k (ds + 1) (pk_rn D q ds (pk_mo D q) 0, ds) := by
          show pk_sr D q (pk_mo D q) k (ds + 1) (if p.1 < _ then _ else p) = _
          rw [if_pos (by omega)]
        rw [e] at hq
        rw [nI_1]
        refine ih (ds + 1) _ (pk_rn D q ds (pk_mo D q) 0, ds) _ (by omega) (by omega) (by show pk_rn _ _ _ _ _ ≤ _; omega) (by show ds < 1000; omega) (h5.keep (ks := [4]) ((pm_ag.up (by simp)).tr (pm_ag.up (by simp))) (by decide) (by decide)) (by rw [pm_up_off (Or.inr (by decide)), pm_up_hit]) pm_up_hit (fun M' g1 g2 g3 g4 g5 => hq M' g1 g2 (((pm_ag.up (by simp)).tr (pm_ag.up (by simp))).tr g3) ?_ ?_)
        · rw [g4, pm_up_off (Or.inr (by decide)), pm_up_off (Or.inr (by decide))]
        · rw [g5, pm_up_off (Or.inr (by decide)), pm_up_off (Or.inr (by decide))]
theorem w_Pack_findCopy {S d : Nat} {Q : pm_Q} {M : pm_M} {D : List Int32} {q : Nat} (h5 : by_is M 5 D) (hq0 : q ≤ D.length) (hq : ∀ M', M' 4 4 = nI (pk_fi D q).1 → M' 4 5 = nI (pk_fi D q).2 → pm_ag [4] M M' → M' 4 2 = M 4 2 → M' 4 3 = M 4 3 → Q none M') : pm_PC S (d + 2) 53 [.inr (.inr 4), .inl (nI q)] M Q := by
  have h700 := h5.lt (Or.inr (Or.inl rfl))
  have e : pm_min 258 (M 5 1 - nI q) = nI (pk_mo D q) := by
    rw [h5.1, pk_sub hq0, pk_mo, pm_min, show (258 : Int32) = nI 258 from rfl]
    by_cases h : D.length - q < 258
    · rw [if_pos ((nI_ltI (by omega) (by omega)).mpr h), Nat.min_eq_right (by omega)]
    · rw [if_neg (fun z => h ((nI_ltI (by omega) (by omega)).mp z)), Nat.min_eq_left (by omega)]
  refine e_Pack_findCopy (k_Pack_findCopy_0 ?_)
  rw [e]
  refine w_fi_loop hq0 q 1 _ (0, 0) _ (by omega) (by omega) (Nat.zero_le _) (by decide) (h5.keep (ks := [4]) ((pm_ag.up (by simp)).tr (pm_ag.up (by simp))) (by decide) (by decide)) (by rw [pm_up_off (Or.inr (by decide)), pm_up_hit]; rfl) (by rw [pm_up_hit]; rfl) (fun M' g1 g2 g3 g4 g5 => hq M' g1 g2 (((pm_ag.up (by simp)).tr (pm_ag.up (by simp))).tr g3) ?_ ?_)
  · rw [g4, pm_up_off (Or.inr (by decide)), pm_up_off (Or.inr (by decide))]
  · rw [g5, pm_up_off (Or.inr (by decide)), pm_up_off (Or.inr (by decide))]
