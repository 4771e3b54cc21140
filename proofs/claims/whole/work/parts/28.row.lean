/-! Row: filters. -/
def ro_nr (a b c : Int32) : Int32 := if pm_abs (a + b - c - b) < pm_abs (a + b - c - a) ∨ pm_abs (a + b - c - c) < pm_abs (a + b - c - a) then (if pm_abs (a + b - c - c) < pm_abs (a + b - c - b) then c else b) else a
def ro_p (f : Nat) (a b c : Int32) : Int32 := match f with
  | 1 => a
  | 2 => b
  | 3 => (a + b) / 2
  | 4 => ro_nr a b c
  | _ => 0
def ro_gs (f un k : Nat) (g u : Nat → Int32) : Int32 := ro_p f (if k < un then 0 else g (k - un)) (u k) (if k < un then 0 else u (k - un))
def ro_fl (f un : Nat) (g u : Nat → Int32) (k : Nat) : Int32 := (g k - ro_gs f un k g u) &&& 255
def ro_is (M : pm_M) (sz un : Nat) (g u : Nat → Int32) : Prop := M 12 2 = nI sz ∧ M 12 3 = nI un ∧ (∀ k, k < 32 → M 13 k = g k) ∧ (∀ k, k < 32 → M 14 k = u k)
theorem ro_is.keep {M M' : pm_M} {sz un : Nat} {g u : Nat → Int32} {ks : List Nat} (h : ro_is M sz un g u) (ha : pm_ag ks M M') (h1 : 12 ∉ ks) (h2 : 13 ∉ ks) (h3 : 14 ∉ ks) : ro_is M' sz un g u := by
  unfold ro_is
  rw [ha 12 h1, ha 13 h2, ha 14 h3]
  exact h
theorem w_Row_nearest {S d : Nat} {Q : pm_Q} {M : pm_M} {a b c : Int32} (hq : Q (some (.inl (ro_nr a b c))) M) : pm_PC S (d + 1) 44 [.inl a, .inl b, .inl c] M Q := by
  unfold ro_nr at hq
  refine e_Row_nearest (k_Row_nearest_0 (fun h => ?_) (fun h => k_Row_nearest_37 (fun h2 => ?_) (fun h2 => k_Row_nearest_44 ?_)))
  · rw [if_pos (Or.inl h)] at hq
    refine k_Row_nearest_46 (fun h3 => k_Row_nearest_57 (k_Row_nearest_58 ?_)) (fun h3 => k_Row_nearest_53 (k_Row_nearest_58 ?_))
    · rw [if_pos h3] at hq; exact hq
    · rw [if_neg h3] at hq; exact hq
  · rw [if_pos (Or.inr h2)] at hq
    refine k_Row_nearest_46 (fun h3 => k_Row_nearest_57 (k_Row_nearest_58 ?_)) (fun h3 => k_Row_nearest_53 (k_Row_nearest_58 ?_))
    · rw [if_pos h3] at hq; exact hq
    · rw [if_neg h3] at hq; exact hq
  · rw [if_neg (fun z => z.elim h h2)] at hq
    exact hq
theorem w_guess_sw {S d : Nat} {Q : pm_Q} {M : pm_M} {f : Nat} {a b c : Int32} {l0 l2 l5 : Option pm_V} (hf : f < 5) (hq : Q (some (.inl (ro_p f a b c))) M) : pm_R S (pm_PC S (d + 1)) Q 43 55 [l0, some (.inl (nI f)), l2, some (.inl a), some (.inl b), l5] [.inl c] M := by
  have hf2 : f = 0 ∨ f = 1 ∨ f = 2 ∨ f = 3 ∨ f = 4 := by omega
  rcases hf2 with rfl | rfl | rfl | rfl | rfl
  · exact k_Row_guess_55 (fun _ => k_Row_guess_109 hq) (fun n o h e => absurd e (by show ¬ (0 : Int) = 1 + n; omega))
  · exact k_Row_guess_55 (fun h => absurd h (by decide)) (sw_at 0 30 (by decide) rfl (k_Row_guess_88 hq))
  · exact k_Row_guess_55 (fun h => absurd h (by decide)) (sw_at 1 32 (by decide) rfl (k_Row_guess_90 hq))
  · exact k_Row_guess_55 (fun h => absurd h (by decide)) (sw_at 2 35 (by decide) rfl (k_Row_guess_93 hq))
  · exact k_Row_guess_55 (fun h => absurd h (by decide)) (sw_at 3 42 (by decide) rfl (k_Row_guess_100 (w_Row_nearest (k_Row_guess_108 hq))))
theorem w_Row_guess {S d : Nat} {Q : pm_Q} {M : pm_M} {sz un f k : Nat} {g u : Nat → Int32} (hr : ro_is M sz un g u) (hun : un < 32) (hf : f < 5) (hk : k < 32) (hq : Q (some (.inl (ro_gs f un k g u))) M) : pm_PC S (d + 2) 43 [.inr (.inr 12), .inl (nI f), .inl (nI k)] M Q := by
  obtain ⟨r1, r2, r3, r4⟩ := hr
  have hc : (nI k).toNatClampNeg = k := nI_clamp (by omega)
  unfold ro_gs at hq
  by_cases h : k < un
  · rw [if_pos h, if_pos h] at hq
    refine e_Row_guess (k_Row_guess_0 (fun z => absurd (by rw [r2] at z; exact z) (nI_ge h (by omega))) (fun _ => k_Row_guess_8 (k_Row_guess_23 (vp_in_nI hk (by decide)) (fun z => absurd (by rw [r2] at z; exact z) (nI_ge h (by omega))) (fun _ => k_Row_guess_40 ?_))))
    rw [hc, r4 k hk]
    exact w_guess_sw hf hq
  · rw [if_neg h, if_neg h] at hq
    have e : nI k - M 12 3 = nI (k - un) := by rw [r2, pk_sub (by omega)]
    have hc2 : (nI k - M 12 3).toNatClampNeg = k - un := by rw [e]; exact nI_clamp (by omega)
    have hin : vp_in (nI k - M 12 3) 32 := by rw [e]; exact vp_in_nI (by omega) (by decide)
    refine e_Row_guess (k_Row_guess_0 (fun _ => k_Row_guess_12 hin (k_Row_guess_23 (vp_in_nI hk (by decide)) (fun _ => k_Row_guess_44 hin ?_) (fun z => absurd (by rw [r2]; exact nI_le (by omega) (by omega)) z))) (fun z => absurd (by rw [r2]; exact nI_le (by omega) (by omega)) z))
    rw [hc, hc2, r4 k hk, r4 _ (by omega), r3 _ (by omega)]
    exact w_guess_sw hf hq
theorem w_Row_filtered {S d : Nat} {Q : pm_Q} {M : pm_M} {sz un f k : Nat} {g u : Nat → Int32} (hr : ro_is M sz un g u) (hun : un < 32) (hf : f < 5) (hk : k < 32) (hq : Q (some (.inl (ro_fl f un g u k))) M) : pm_PC S (d + 3) 45 [.inr (.inr 12), .inl (nI f), .inl (nI k)] M Q := by
  refine e_Row_filtered (k_Row_filtered_0 (vp_in_nI hk (by decide)) (w_Row_guess hr hun hf hk (k_Row_filtered_12 ?_)))
  rw [nI_clamp (by omega), hr.2.2.1 k hk]
  exact hq
/-- the sum that the choice of a filter looks at -/
def ro_sm (f un : Nat) (g u : Nat → Int32) : Nat → Int32
  | 0 => 0
  | n + 1 => ro_sm f un g u n + pm_min (ro_fl f un g u n) (256 - ro_fl f un g u n)
def ro_bl (sz un : Nat) (g u : Nat → Int32) : Nat → Nat → Nat × Int32 → Nat
  | 0, _, p => p.1
  | k + 1, f, p => ro_bl sz un g u k (f + 1) (if p.2 ≤ ro_sm f un g u sz then p else (f, ro_sm f un g u sz))
def ro_bf (sz un : Nat) (g u : Nat → Int32) : Nat := ro_bl sz un g u 5 0 (0, 8192)
theorem ro_bl_lt (sz un : Nat) (g u : Nat → Int32) : ∀ k f (p : Nat × Int32), f + k ≤ 5 → p.1 < 5 → ro_bl sz un g u k f p < 5
  | 0, _, _, _, h => h
  | k + 1, f, p, h1, h2 => by
    refine ro_bl_lt sz un g u k (f + 1) _ (by omega) ?_
    split
    · exact h2
    · show f < 5; omega
theorem ro_bf_lt (sz un : Nat) (g u : Nat → Int32) : ro_bf sz un g u < 5 := ro_bl_lt sz un g u 5 0 (0, 8192) (by decide) (by decide)
theorem w_bf_in {S d : Nat} {Q : pm_Q} {M : pm_M} {sz un f : Nat} {g u : Nat → Int32} {l1 l2 : Option pm_V} (hr : ro_is M sz un g u) (hun : un < 32) (hsz : sz ≤ 32) (hf : f < 5) : ∀ (k n : Nat) (l6 : Option pm_V), n + k = sz → (∀ l5 l6, pm_R S (pm_PC S (d + 3)) Q 46 59 [some (.inr (.inr 12)), l1, l2, some (.inl (nI f)), some (.inl (ro_sm f un g u sz)), l5, l6] [] M) → pm_R S (pm_PC S (d + 3)) Q 46 19 [some (.inr (.inr 12)), l1, l2, some (.inl (nI f)), some (.inl (ro_sm f un g u n)), some (.inl (nI n)), l6] [] M := by
  intro k
  induction k with
  | zero =>
    intro n l6 hn hk
    have e : n = sz := by omega
    subst e
    exact k_Row_bestFilter_19 (fun _ => hk _ _) (fun z => absurd (by rw [hr.1]; exact nI_le (Nat.le_refl _) (by omega)) z)
  | succ k ih =>
    intro n l6 hn hk
    refine k_Row_bestFilter_19 (fun z => absurd (by rw [hr.1] at z; exact z) (nI_ge (by omega) (by omega))) (fun _ => k_Row_bestFilter_28 (w_Row_filtered hr hun hf (by omega) (k_Row_bestFilter_35 ?_)))
    rw [nI_1]
    exact ih (n + 1) _ (by omega) hk
theorem w_bf_out {S d : Nat} {Q : pm_Q} {M : pm_M} {sz un : Nat} {g u : Nat → Int32} (hr : ro_is M sz un g u) (hun : un < 32) (hsz : sz ≤ 32) : ∀ (k f : Nat) (p : Nat × Int32) (l4 l5 l6 : Option pm_V), f + k = 5 → Q (some (.inl (nI (ro_bl sz un g u k f p)))) M → pm_R S (pm_PC S (d + 3)) Q 46 8 [some (.inr (.inr 12)), some (.inl (nI p.1)), some (.inl p.2), some (.inl (nI f)), l4, l5, l6] [] M := by
  intro k
  induction k with
  | zero =>
    intro f p l4 l5 l6 hf hq
    have e : f = 5 := by omega
    subst e
    exact k_Row_bestFilter_8 (fun _ => k_Row_bestFilter_76 hq) (fun z => absurd (by decide) z)
  | succ k ih =>
    intro f p l4 l5 l6 hf hq
    unfold ro_bl at hq
    refine k_Row_bestFilter_8 (fun z => absurd z (nI_ge (b := 5) (by omega) (by decide))) (fun _ => k_Row_bestFilter_13 ?_)
    refine w_bf_in hr hun hsz (by omega) sz 0 _ (by omega) (fun l5 l6 => k_Row_bestFilter_59 (fun z => k_Row_bestFilter_70 ?_) (fun z => k_Row_bestFilter_65 (k_Row_bestFilter_70 ?_)))
    · rw [if_pos z] at hq
      rw [nI_1]
      exact ih (f + 1) p _ _ _ (by omega) hq
    · rw [if_neg z] at hq
      rw [nI_1]
      exact ih (f + 1) (f, ro_sm f un g u sz) _ _ _ (by omega) hq
theorem w_Row_bestFilter {S d : Nat} {Q : pm_Q} {M : pm_M} {sz un : Nat} {g u : Nat → Int32} (hr : ro_is M sz un g u) (hun : un < 32) (hsz : sz ≤ 32) (hq : Q (some (.inl (nI (ro_bf sz un g u)))) M) : pm_PC S (d + 4) 46 [.inr (.inr 12)] M Q :=
  e_Row_bestFilter (k_Row_bestFilter_0 (w_bf_out hr hun hsz 5 0 (0, 8192) _ _ _ (by decide) hq))
def ro_fs (f un : Nat) (g u : Nat → Int32) (i : Nat) : Nat → List Int32
  | 0 => []
  | n + 1 => ro_fl f un g u i :: ro_fs f un g u (i + 1) n
def ro_ou (f sz un : Nat) (g u : Nat → Int32) : List Int32 := nI f :: ro_fs f un g u 0 sz
theorem ro_fs_len (f un : Nat) (g u : Nat → Int32) : ∀ n i, (ro_fs f un g u i n).length = n
  | 0, _ => rfl
  | n + 1, i => by simp [ro_fs, ro_fs_len f un g u n]
theorem w_af_loop {S d : Nat} {Q : pm_Q} {sz un f : Nat} {g u : Nat → Int32} (hun : un < 32) (hsz : sz ≤ 32) (hf : f < 5) : ∀ (k n : Nat) (M : pm_M) (D : List Int32), n + k = sz → ro_is M sz un g u → by_is M 5 D → D.length + k ≤ 300 → (∀ M', by_is M' 5 (D ++ ro_fs f un g u n k) → pm_ag [5, 6] M M' → Q none M') → pm_R S (pm_PC S (d + 3)) Q 47 8 [some (.inr (.inr 12)), some (.inl (nI f)), some (.inr (.inr 5)), some (.inl (nI n))] [] M := by
  have hb : by_b 5 := Or.inr (Or.inl rfl)
  have hc5 : by_c 5 = 300 := rfl
  intro k
  induction k with
  | zero =>
    intro n M D hn hr h5 hc hq
    have e : n = sz := by omega
    subst e
    exact k_Row_addFiltered_8 (fun _ => k_Row_addFiltered_33 (hq M (by simpa [ro_fs] using h5) pm_ag.rf)) (fun z => absurd (by rw [hr.1]; exact nI_le (Nat.le_refl _) (by omega)) z)
  | succ k ih =>
    intro n M D hn hr h5 hc hq
    refine k_Row_addFiltered_8 (fun z => absurd (by rw [hr.1] at z; exact z) (nI_ge (by omega) (by omega))) (fun _ => k_Row_addFiltered_16 (w_Row_filtered hr hun hf (by omega) (k_Row_addFiltered_23 (w_Bytes_add hb h5 (by omega) (fun M1 g1 g2 => k_Row_addFiltered_26 ?_)))))
    rw [nI_1]
    refine ih (n + 1) M1 _ (by omega) (hr.keep g2 (by decide) (by decide) (by decide)) g1 (by simp; omega) (fun M2 q1 q2 => hq M2 ?_ (g2.tr q2))
    simpa [ro_fs] using q1
theorem w_Row_addFiltered {S d : Nat} {Q : pm_Q} {M : pm_M} {sz un f : Nat} {g u : Nat → Int32} {D : List Int32} (hr : ro_is M sz un g u) (hun : un < 32) (hsz : sz ≤ 32) (hf : f < 5) (h5 : by_is M 5 D) (hc : D.length + sz + 1 ≤ 300) (hq : ∀ M', by_is M' 5 (D ++ ro_ou f sz un g u) → pm_ag [5, 6] M M' → Q none M') : pm_PC S (d + 4) 47 [.inr (.inr 12), .inl (nI f), .inr (.inr 5)] M Q := by
  have hb : by_b 5 := Or.inr (Or.inl rfl)
  have hc5 : by_c 5 = 300 := rfl
  refine e_Row_addFiltered (k_Row_addFiltered_0 (w_Bytes_add hb h5 (by omega) (fun M1 g1 g2 => k_Row_addFiltered_5 ?_)))
  refine w_af_loop hun hsz hf sz 0 M1 _ (by omega) (hr.keep g2 (by decide) (by decide) (by decide)) g1 (by simp; omega) (fun M2 q1 q2 => hq M2 ?_ (g2.tr q2))
  simpa [ro_ou] using q1
theorem w_Row_startPass {S d b : Nat} {Q : pm_Q} {M : pm_M} {p kd dp w h : Nat} {g : Nat → Int32} (hb : pc_b b) (hok : pc_ok kd dp w h) (hs : pc_sh M b kd dp w h) (hp : p < 8) (hst : ps_is M) (hg : ∀ k, k < 32 → M 13 k = g k) (hq : ∀ M', ro_is M' (ps_sz p w (pc_pp kd) dp) (ps_un (pc_pp kd) dp) g (fun _ => 0) → pm_ag [12, 14] M M' → Q none M') : pm_PC S (d + 3) 39 [.inr (.inr 12), .inr (.inr b), .inl (nI p)] M Q := by
  have hb1 : b ∉ [12] := by rcases hb with rfl | rfl <;> decide
  refine e_Row_startPass (k_Row_startPass_0 hb (w_Pict_rowSize hb hok hs hp hst (k_Row_startPass_6 hb (w_Pict_unit hb hok (hs.keep (pm_ag.up (ks := [12]) (by simp)) hb1) (k_Row_startPass_14 (w_Arr_fill (Or.inr (Or.inr (Or.inl rfl))) (fun M1 g1 g2 => k_Row_startPass_25 (hq M1 ⟨?_, ?_, ?_, ?_⟩ ?_))))))))
  · rw [g2 12 (by decide), pm_up_off (Or.inr (by decide)), pm_up_hit]
  · rw [g2 12 (by decide), pm_up_hit]
  · intro k hk
    rw [g2 13 (by decide), pm_up_off (Or.inl (by decide)), pm_up_off (Or.inl (by decide))]
    exact hg k hk
  · exact fun k hk => g1 k hk
  · exact ((pm_ag.up (by simp)).tr (pm_ag.up (by simp))).of g2 (by decide)
theorem w_Row_endRow {S d : Nat} {Q : pm_Q} {M : pm_M} {sz un : Nat} {g u : Nat → Int32} (hr : ro_is M sz un g u) (hq : ∀ M', ro_is M' sz un g g → pm_ag [14] M M' → Q none M') : pm_PC S (d + 1) 40 [.inr (.inr 12)] M Q := by
  refine e_Row_endRow (k_Row_endRow_0 (hq _ ⟨?_, ?_, ?_, ?_⟩ (fun k hk => pm_cpy_ne (fun e => hk (by rw [e]; simp)))))
  · rw [pm_cpy_ne (by decide)]; exact hr.1
  · rw [pm_cpy_ne (by decide)]; exact hr.2.1
  · intro k hk
    rw [pm_cpy_ne (by decide)]; exact hr.2.2.1 k hk
  · intro k hk
    rw [pm_cpy_eq]
    have e0 : (0 : Int32).toNatClampNeg = 0 := by decide
    have e32 : (32 : Int32).toNatClampNeg = 32 := by decide
    rw [e0, e32, pk_cpy_in (Nat.zero_le _) (by omega), Nat.zero_add, Nat.sub_zero]
    exact hr.2.2.1 k hk
