/-! Every sample of the picture is written; samples stay below their depth. -/
theorem im_up_ag {f f' : Nat → Nat → Nat → Int32} {a b e : Nat} {v : Int32} {x y c : Nat} (h : f x y c = f' x y c) : im_up f a b e v x y c = im_up f' a b e v x y c := by
  unfold im_up
  split
  · rfl
  · exact h
theorem de_ss_ag {kd dp : Nat} {g : Nat → Int32} {p r x y c : Nat} : ∀ (k m : Nat) (f f' : Nat → Nat → Nat → Int32), f x y c = f' x y c → de_ss kd dp g p r k m f x y c = de_ss kd dp g p r k m f' x y c
  | 0, _, _, _, h => h
  | k + 1, m, f, f', h => de_ss_ag k (m + 1) _ _ (im_up_ag h)
theorem de_ss_wr {kd dp : Nat} {g : Nat → Int32} {p r i : Nat} : ∀ (k m : Nat) (f f' : Nat → Nat → Nat → Int32), m ≤ i → i < m + k → de_ss kd dp g p r k m f (ps_x0 p + i / pc_pp kd * ps_dx p) (ps_y0 p + r * ps_dy p) (i % pc_pp kd) = de_ss kd dp g p r k m f' (ps_x0 p + i / pc_pp kd * ps_dx p) (ps_y0 p + r * ps_dy p) (i % pc_pp kd)
  | 0, _, _, _, _, h => by omega
  | k + 1, m, f, f', h1, h2 => by
    by_cases e : i = m
    · subst e
      refine de_ss_ag k (i + 1) _ _ ?_
      unfold im_up
      rw [if_pos ⟨rfl, rfl, rfl⟩, if_pos ⟨rfl, rfl, rfl⟩]
    · exact de_ss_wr k (m + 1) _ _ (by omega) (by omega)
theorem de_rows_2 {kd dp w : Nat} {D : List Int32} {p : Nat} : ∀ (k r q : Nat) (u : Nat → Int32) (f f' : Nat → Nat → Nat → Int32) (c : Nat → Int32), (de_rows kd dp w D p k r q u (f, c)).2 = (de_rows kd dp w D p k r q u (f', c)).2
  | 0, _, _, _, _, _, _ => rfl
  | k + 1, r, q, u, f, f', c => by
    unfold de_rows
    exact de_rows_2 k _ _ _ _ _ _
theorem de_rows_ag {kd dp w : Nat} {D : List Int32} {p x y e : Nat} : ∀ (k r q : Nat) (u : Nat → Int32) (f f' : Nat → Nat → Nat → Int32) (c : Nat → Int32), f x y e = f' x y e → (de_rows kd dp w D p k r q u (f, c)).1 x y e = (de_rows kd dp w D p k r q u (f', c)).1 x y e
  | 0, _, _, _, _, _, _, h => h
  | k + 1, r, q, u, f, f', c, h => by
    unfold de_rows
    exact de_rows_ag k _ _ _ _ _ _ (de_ss_ag _ _ _ _ h)
theorem de_rows_wr {kd dp w : Nat} {D : List Int32} {p i ro : Nat} (hi : i < ps_pt p w * pc_pp kd) : ∀ (k r q : Nat) (u : Nat → Int32) (f f' : Nat → Nat → Nat → Int32) (c : Nat → Int32), r ≤ ro → ro < r + k → (de_rows kd dp w D p k r q u (f, c)).1 (ps_x0 p + i / pc_pp kd * ps_dx p) (ps_y0 p + ro * ps_dy p) (i % pc_pp kd) = (de_rows kd dp w D p k r q u (f', c)).1 (ps_x0 p + i / pc_pp kd * ps_dx p) (ps_y0 p + ro * ps_dy p) (i % pc_pp kd)
  | 0, _, _, _, _, _, _, _, h => by omega
  | k + 1, r, q, u, f, f', c, h1, h2 => by
    unfold de_rows
    by_cases e : ro = r
    · subst e
      exact de_rows_ag k _ _ _ _ _ _ (de_ss_wr _ _ _ _ (Nat.zero_le _) (by omega))
    · exact de_rows_wr hi k _ _ _ _ _ _ (by omega) (by omega)
theorem de_all_2 {kd dp w h : Nat} {D : List Int32} : ∀ (k p q : Nat) (f f' : Nat → Nat → Nat → Int32) (c : Nat → Int32), (de_all kd dp w h D k p q (f, c)).2 = (de_all kd dp w h D k p q (f', c)).2
  | 0, _, _, _, _, _ => rfl
  | k + 1, p, q, f, f', c => by
    unfold de_all
    have h9 := de_rows_2 (kd := kd) (dp := dp) (w := w) (D := D) (p := p) (ps_rw p w h) 0 q (fun _ => 0) f f' c
    generalize de_rows kd dp w D p (ps_rw p w h) 0 q (fun _ => 0) (f, c) = A at h9 ⊢
    generalize de_rows kd dp w D p (ps_rw p w h) 0 q (fun _ => 0) (f', c) = B at h9 ⊢
    obtain ⟨a1, a2⟩ := A
    obtain ⟨b1, b2⟩ := B
    have h8 : a2 = b2 := h9
    subst h8
    exact de_all_2 k _ _ _ _ _
theorem de_all_ag {kd dp w h : Nat} {D : List Int32} {x y e : Nat} : ∀ (k p q : Nat) (s s' : (Nat → Nat → Nat → Int32) × (Nat → Int32)), s.2 = s'.2 → s.1 x y e = s'.1 x y e → (de_all kd dp w h D k p q s).1 x y e = (de_all kd dp w h D k p q s').1 x y e
  | 0, _, _, _, _, _, h => h
  | k + 1, p, q, (f, c), (f', c'), h2, h => by
    have h2 : c = c' := h2
    subst h2
    unfold de_all
    exact de_all_ag k _ _ _ _ (de_rows_2 _ _ _ _ _ _ _) (de_rows_ag _ _ _ _ _ _ _ h)
theorem de_all_wr {kd dp w h : Nat} {D : List Int32} {P i ro : Nat} (hi : i < ps_pt P w * pc_pp kd) (hro : ro < ps_rw P w h) : ∀ (k p q : Nat) (s s' : (Nat → Nat → Nat → Int32) × (Nat → Int32)), s.2 = s'.2 → p ≤ P → P < p + k → (de_all kd dp w h D k p q s).1 (ps_x0 P + i / pc_pp kd * ps_dx P) (ps_y0 P + ro * ps_dy P) (i % pc_pp kd) = (de_all kd dp w h D k p q s').1 (ps_x0 P + i / pc_pp kd * ps_dx P) (ps_y0 P + ro * ps_dy P) (i % pc_pp kd)
  | 0, _, _, _, _, _, _, h => by omega
  | k + 1, p, q, (f, c), (f', c'), h2, h3, h4 => by
    have h2 : c = c' := h2
    subst h2
    unfold de_all
    by_cases e : P = p
    · subst e
      exact de_all_ag k _ _ _ _ (de_rows_2 _ _ _ _ _ _ _) (de_rows_wr hi _ _ _ _ _ _ _ (Nat.zero_le _) (by omega))
    · exact de_all_wr hi hro k _ _ _ _ (de_rows_2 _ _ _ _ _ _ _) (by omega) (by omega)
theorem ps_cov7 : ∀ x, x < 8 → ∀ y, y < 8 → ∃ p, p < 7 ∧ ∃ i, i < 8 ∧ ∃ r, r < 8 ∧ x = ps_x0 p + i * ps_dx p ∧ y = ps_y0 p + r * ps_dy p := by decide +kernel
theorem ps_cov_x : ∀ p, p < 8 → ∀ w, w < 9 → ∀ i, i < 8 → ps_x0 p + i * ps_dx p < w → i < ps_pt p w := by decide +kernel
theorem ps_cov_y : ∀ p, p < 8 → ∀ h, h < 9 → ∀ i, i < 8 → ps_y0 p + i * ps_dy p < h → i < (h + (ps_dy p - 1 - ps_y0 p)) / ps_dy p := by decide +kernel
theorem de_cov {kd dp w h p i r c : Nat} {D : List Int32} {k p0 q : Nat} {f f' : Nat → Nat → Nat → Int32} {u : Nat → Int32} (hok : pc_ok kd dp w h) (hp : p < 8) (hi : i < 8) (hr : r < 8) (hx : ps_x0 p + i * ps_dx p < w) (hy : ps_y0 p + r * ps_dy p < h) (hc : c < pc_pp kd) (hp1 : p0 ≤ p) (hp2 : p < p0 + k) : (de_all kd dp w h D k p0 q (f, u)).1 (ps_x0 p + i * ps_dx p) (ps_y0 p + r * ps_dy p) c = (de_all kd dp w h D k p0 q (f', u)).1 (ps_x0 p + i * ps_dx p) (ps_y0 p + r * ps_dy p) c := by
  have hw := hok.2.1
  have hh := hok.2.2
  have hpt := ps_cov_x p hp w (by omega) i hi hx
  have hry := ps_cov_y p hp h (by omega) r hr hy
  have hro : r < ps_rw p w h := by
    unfold ps_rw
    rw [if_neg (by omega)]
    exact hry
  have hm : i * pc_pp kd + c < ps_pt p w * pc_pp kd := by
    have h1 : (i + 1) * pc_pp kd ≤ ps_pt p w * pc_pp kd := Nat.mul_le_mul_right _ hpt
    rw [Nat.add_mul, Nat.one_mul] at h1
    omega
  have e1 : (i * pc_pp kd + c) / pc_pp kd = i := by rw [Nat.mul_comm, Nat.mul_add_div (by omega), Nat.div_eq_of_lt hc, Nat.add_zero]
  have e2 : (i * pc_pp kd + c) % pc_pp kd = c := by rw [Nat.mul_comm, Nat.mul_add_mod, Nat.mod_eq_of_lt hc]
  have := de_all_wr (kd := kd) (dp := dp) (w := w) (h := h) (D := D) (P := p) hm hro k p0 q (f, u) (f', u) rfl hp1 hp2
  rw [e1, e2] at this
  exact this
theorem de_on_of {kd dp w h : Nat} (hok : pc_ok kd dp w h) (D : List Int32) (s : Int32) (f : Nat → Nat → Nat → Int32) : (∀ x y c, x < w → y < h → c < pc_pp kd → (de_on kd dp w h D s f).1 x y c = (de_of kd dp w h D s).1 x y c) ∧ (de_on kd dp w h D s f).2 = (de_of kd dp w h D s).2 := by
  have hw := hok.2.1
  have hh := hok.2.2
  unfold de_on de_of
  by_cases e : s = 0
  · rw [if_pos e, if_pos e]
    refine ⟨fun x y c hx hy hc => ?_, de_all_2 _ _ _ _ _ _⟩
    have := de_cov (p := 7) (i := x) (r := y) (D := D) (k := 1) (p0 := 7) (q := 0) (f := f) (f' := fun _ _ _ => 0) (u := fun _ => 0) hok (by decide) (by omega) (by omega) (by show 0 + x * 1 < w; omega) (by show 0 + y * 1 < h; omega) hc (by decide) (by decide)
    rw [show ps_x0 7 + x * ps_dx 7 = x by show 0 + x * 1 = x; omega, show ps_y0 7 + y * ps_dy 7 = y by show 0 + y * 1 = y; omega] at this
    exact this
  · rw [if_neg e, if_neg e]
    refine ⟨fun x y c hx hy hc => ?_, de_all_2 _ _ _ _ _ _⟩
    obtain ⟨p, hp, i, hi, r, hr, e1, e2⟩ := ps_cov7 x (by omega) y (by omega)
    rw [e1, e2]
    exact de_cov hok (by omega) hi hr (by omega) (by omega) hc (Nat.zero_le _) (by omega)
/-! samples below their depth -/
def sm_all (dp : Nat) (f : Nat → Nat → Nat → Int32) : Prop := ∀ x y c, ∃ v : Nat, v < 2 ^ dp ∧ f x y c = nI v
theorem sm_up {dp : Nat} {f : Nat → Nat → Nat → Int32} {a b e : Nat} {v : Int32} (h : sm_all dp f) (hv : ∃ n : Nat, n < 2 ^ dp ∧ v = nI n) : sm_all dp (im_up f a b e v) := by
  intro x y c
  unfold im_up
  split
  · exact hv
  · exact h x y c
theorem sm_ss {kd dp : Nat} (hdp : dp = 1 ∨ dp = 2 ∨ dp = 4 ∨ dp = 8) {g : Nat → Int32} {p r : Nat} : ∀ (k m : Nat) (f : Nat → Nat → Nat → Int32), sm_all dp f → sm_all dp (de_ss kd dp g p r k m f)
  | 0, _, _, h => h
  | k + 1, m, f, h => sm_ss hdp k (m + 1) _ (sm_up h (de_and hdp _))
theorem sm_rows {kd dp w : Nat} (hdp : dp = 1 ∨ dp = 2 ∨ dp = 4 ∨ dp = 8) {D : List Int32} {p : Nat} : ∀ (k r q : Nat) (u : Nat → Int32) (s : (Nat → Nat → Nat → Int32) × (Nat → Int32)), sm_all dp s.1 → sm_all dp (de_rows kd dp w D p k r q u s).1
  | 0, _, _, _, _, h => h
  | k + 1, r, q, u, s, h => by
    unfold de_rows
    exact sm_rows hdp k _ _ _ _ (sm_ss hdp _ _ _ h)
theorem sm_alls {kd dp w h : Nat} (hdp : dp = 1 ∨ dp = 2 ∨ dp = 4 ∨ dp = 8) {D : List Int32} : ∀ (k p q : Nat) (s : (Nat → Nat → Nat → Int32) × (Nat → Int32)), sm_all dp s.1 → sm_all dp (de_all kd dp w h D k p q s).1
  | 0, _, _, _, h => h
  | k + 1, p, q, s, h => by
    unfold de_all
    exact sm_alls hdp k _ _ _ (sm_rows hdp _ _ _ _ _ h)
theorem sm_0 (dp : Nat) : sm_all dp (fun _ _ _ => 0) := fun _ _ _ => ⟨0, Nat.two_pow_pos dp, rfl⟩
theorem sm_of {kd dp w h : Nat} (hok : pc_ok kd dp w h) (D : List Int32) (s : Int32) : sm_all dp (de_of kd dp w h D s).1 := by
  unfold de_of
  split
  · exact sm_alls (pc_dp hok) _ _ _ _ (sm_0 dp)
  · exact sm_alls (pc_dp hok) _ _ _ _ (sm_0 dp)
section MOD
variable {S d : Nat} {Q : pm_Q} {M : pm_M} {kd dp w h : Nat} {f : Nat → Nat → Nat → Int32} {F : List Int32} {cc : Int32} {rc : Nat → Int32}
theorem mo_is.keep {M' : pm_M} {js ks : List Nat} (hi : mo_is M kd dp w h f F cc rc) (ha : mo_ag js ks M M') (h0 : 0 ∉ js) (h1 : 1 ∉ js) (h2 : 2 ∉ js) (h3 : 3 ∉ js) (h6 : 6 ∉ js) (h10 : 10 ∉ js) (k20 : 20 ∉ 19 :: ks) (k22 : 22 ∉ 19 :: ks) (k23 : 23 ∉ 19 :: ks) : mo_is M' kd dp w h f F cc rc := by
  obtain ⟨i1, i2, i3, i4, i5⟩ := hi
  exact ⟨i1.keep ha h0 h1 h2 h3, i2.keep ha k20, i3.keep ha h6 k22, by rw [ha.2 10 h10]; exact i4, fun i hi => by rw [ha.pl k23]; exact i5 i hi⟩
theorem w_mrd_clr : ∀ (k i : Nat) (M : pm_M), i + k = 5 → (∀ j, j < i → M 24 j = 0) → (∀ M' l1, (∀ j, j < 5 → M' 24 j = 0) → mo_ag [] [24] M M' → pm_R S (pm_PC S d) Q 152 50 [some (.inr (.inr 19)), l1] [] M') → pm_R S (pm_PC S d) Q 152 32 [some (.inr (.inr 19)), some (.inl (nI i))] [] M := by
  intro k
  induction k with
  | zero =>
    intro i M hi hd hq
    have e : i = 5 := by omega
    subst e
    exact k_Mod_read_32 (fun _ => hq M _ hd mo_ag.rf) (fun z => absurd (by decide) z)
  | succ k ih =>
    intro i M hi hd hq
    refine k_Mod_read_32 (fun z => absurd z (nI_ge (b := 5) (by omega) (by decide))) (fun _ => k_Mod_read_37 (vp_in_nI (by omega) (by decide)) ?_)
    rw [nI_clamp (by omega), nI_1]
    refine ih (i + 1) _ (by omega) (fun j hj => ?_) (fun M' l1 h1 h2 => hq M' l1 h1 ((mo_ag.p (by decide) (by decide)).tr h2))
    by_cases e : j = i
    · subst e; exact pm_up_hit
    · rw [pm_up_off (Or.inr e)]; exact hd j (by omega)
theorem w_mrd_cp1 : ∀ (k i : Nat) (M : pm_M), i + k = 256 → (∀ j, j < i → M 20 j = M 21 j) → (∀ M' l1, (∀ j, j < 256 → M' 20 j = M' 21 j) → mo_ag [] [20] M M' → pm_R S (pm_PC S d) Q 152 130 [some (.inr (.inr 19)), l1] [] M') → pm_R S (pm_PC S d) Q 152 105 [some (.inr (.inr 19)), some (.inl (nI i))] [] M := by
  intro k
  induction k with
  | zero =>
    intro i M hi hd hq
    have e : i = 256 := by omega
    subst e
    exact k_Mod_read_105 (fun _ => hq M _ hd mo_ag.rf) (fun z => absurd (by decide) z)
  | succ k ih =>
    intro i M hi hd hq
    refine k_Mod_read_105 (fun z => absurd z (nI_ge (b := 256) (by omega) (by decide))) (fun _ => k_Mod_read_112 (vp_in_nI (by omega) (by decide)) (vp_in_nI (by omega) (by decide)) ?_)
    rw [nI_clamp (by omega), nI_1]
    refine ih (i + 1) _ (by omega) (fun j hj => ?_) (fun M' l1 h1 h2 => hq M' l1 h1 ((mo_ag.p (by decide) (by decide)).tr h2))
    rw [pm_up_off (k' := 21) (Or.inl (by decide))]
    by_cases e : j = i
    · subst e; exact pm_up_hit
    · rw [pm_up_off (Or.inr e)]; exact hd j (by omega)
theorem w_mrd_cp2 : ∀ (k i : Nat) (M : pm_M), i + k = 5 → (∀ j, j < i → M 23 j = M 24 j) → (∀ M' l1, (∀ j, j < 5 → M' 23 j = M' 24 j) → mo_ag [] [23] M M' → pm_R S (pm_PC S d) Q 152 155 [some (.inr (.inr 19)), l1] [] M') → pm_R S (pm_PC S d) Q 152 132 [some (.inr (.inr 19)), some (.inl (nI i))] [] M := by
  intro k
  induction k with
  | zero =>
    intro i M hi hd hq
    have e : i = 5 := by omega
    subst e
    exact k_Mod_read_132 (fun _ => hq M _ hd mo_ag.rf) (fun z => absurd (by decide) z)
  | succ k ih =>
    intro i M hi hd hq
    refine k_Mod_read_132 (fun z => absurd z (nI_ge (b := 5) (by omega) (by decide))) (fun _ => k_Mod_read_137 (vp_in_nI (by omega) (by decide)) (vp_in_nI (by omega) (by decide)) ?_)
    rw [nI_clamp (by omega), nI_1]
    refine ih (i + 1) _ (by omega) (fun j hj => ?_) (fun M' l1 h1 h2 => hq M' l1 h1 ((mo_ag.p (by decide) (by decide)).tr h2))
    rw [pm_up_off (k' := 24) (Or.inl (by decide))]
    by_cases e : j = i
    · subst e; exact pm_up_hit
    · rw [pm_up_off (Or.inr e)]; exact hd j (by omega)
theorem w_Mod_read (hfb : fx_b F) (hi : mo_is M kd dp w h f F cc rc)
    (h2 : fa F = none → ∀ M', mo_is M' kd dp w h f F cc rc → pm_ag mo_ks M M' → Q (some (.inl (-2))) M')
    (h3 : ∀ P ls, fa F = some (P, ls) → ¬ fa_hd F ls → ∀ M', mo_is M' kd dp w h f F cc rc → pm_ag mo_ks M M' → Q (some (.inl (-3))) M')
    (h4 : ∀ P ls, fa F = some (P, ls) → fa_hd F ls → un_all P = none → ∀ M', mo_is M' kd dp w h f F cc rc → pm_ag mo_ks M M' → Q (some (.inl (-4))) M')
    (h5 : ∀ P ls D n kd' dp' w' h', fa F = some (P, ls) → fa_hd F ls → un_all P = some (D, n) → pc_ok kd' dp' w' h' → un_p F 25 = nI kd' → un_p F 24 = nI dp' → by_num F 16 = nI w' → by_num F 20 = nI h' → ¬ fi_of D kd' dp' w' h' (rd_7 F) → ∀ M', mo_is M' kd dp w h f F cc rc → pm_ag mo_ks M M' → Q (some (.inl (-5))) M')
    (h0 : ∀ P ls D n kd' dp' w' h', fa F = some (P, ls) → fa_hd F ls → un_all P = some (D, n) → pc_ok kd' dp' w' h' → un_p F 25 = nI kd' → un_p F 24 = nI dp' → by_num F 16 = nI w' → by_num F 20 = nI h' → fi_of D kd' dp' w' h' (rd_7 F) → ∀ M', mo_is M' kd' dp' w' h' (de_of kd' dp' w' h' D (rd_7 F)).1 F (nI n) (de_of kd' dp' w' h' D (rd_7 F)).2 → pm_ag mo_ks M M' → Q (some (.inl 0)) M') : pm_PC S (d + 8) 152 [.inr (.inr 19)] M Q := by
  have hF := hi.2.2.1
  refine e_Mod_read (k_Mod_read_0 (w_Mod_framed (d := d + 4) hfb hF (fun P ls hfa M1 l1 a1 => k_Mod_read_4 (fun _ => k_Mod_read_10 ?_) (fun z => absurd (by decide) z)) (fun hfa M1 a1 => k_Mod_read_4 (fun z => absurd rfl z) (fun _ => k_Mod_read_7 (h2 hfa M1 (hi.keep a1 (by decide) (by decide) (by decide) (by decide) (by decide) (by decide) (by decide) (by decide) (by decide)) (a1.1.wd (by decide)))))))
  have hI1 := hi.keep a1 (by decide) (by decide) (by decide) (by decide) (by decide) (by decide) (by decide) (by decide) (by decide)
  have A1 : pm_ag mo_ks M M1 := a1.1.wd (by decide)
  refine w_Mod_header (d := d + 4) hfb hI1.2.2.1 l1 (fa_len hfa) (fun hhd M2 n19 n20 n21 n22 n23 a2 => k_Mod_read_14 (fun _ => k_Mod_read_20 ?_) (fun z => absurd (by decide) z)) (fun hhd M2 a2 => k_Mod_read_14 (fun z => absurd rfl z) (fun _ => k_Mod_read_17 (h3 P ls hfa hhd M2 (hI1.keep a2 (by decide) (by decide) (by decide) (by decide) (by decide) (by decide) (by decide) (by decide) (by decide)) (A1.of a2.1 (by decide)))))
  have hI2 := hI1.keep a2 (by decide) (by decide) (by decide) (by decide) (by decide) (by decide) (by decide) (by decide) (by decide)
  have A2 : pm_ag mo_ks M M2 := A1.of a2.1 (by decide)
  refine w_Mod_unpacked hfb hfa hI2.2.2.1 (fun D n hun M3 d3 c3 a3 => k_Mod_read_24 (fun _ => k_Mod_read_30 ?_) (fun z => absurd (by decide) z)) (fun hun M3 a3 => k_Mod_read_24 (fun z => absurd rfl z) (fun _ => k_Mod_read_27 (h4 P ls hfa hhd hun M3 (hI2.keep a3 (by decide) (by decide) (by decide) (by decide) (by decide) (by decide) (by decide) (by decide) (by decide)) (A2.of a3.1 (by decide)))))
  have hI3 := hI2.keep a3 (by decide) (by decide) (by decide) (by decide) (by decide) (by decide) (by decide) (by decide) (by decide)
  have A3 : pm_ag mo_ks M M3 := A2.of a3.1 (by decide)
  obtain ⟨kd', dp', w', h', hok', e1, e2, e3, e4⟩ := pc_v_ok hhd.2.2.1
  have hh3 : mo_h M3 kd' dp' w' h' (rd_7 F) := ⟨by rw [a3.2 19 (by decide), n19, e1], by rw [a3.2 20 (by decide), n20, e2], by rw [a3.2 21 (by decide), n21, e3], by rw [a3.2 22 (by decide), n22, e4], by rw [a3.2 23 (by decide), n23]⟩
  refine w_mrd_clr 5 0 M3 (by decide) (fun j hj => absurd hj (Nat.not_lt_zero j)) (fun M4 l4 z4 a4 => k_Mod_read_50 ?_)
  have hI4 := hI3.keep a4 (by decide) (by decide) (by decide) (by decide) (by decide) (by decide) (by decide) (by decide) (by decide)
  have A4 : pm_ag mo_ks M M4 := A3.of a4.1 (by decide)
  have hh4 := hh3.keep a4
  have d4 := d3.keep a4 (by decide) (by decide)
  have hDb := un_all_b hun
  have h300 := d4.2.1
  have htt := en_tt_le hok' (rd_7 F)
  refine w_Mod_rowsBytes (d := d + 3) hok' hh4 ?_
  rw [d4.1]
  have bad : ¬ fi_of D kd' dp' w' h' (rd_7 F) → ∀ (N : pm_M) l1, mo_is N kd dp w h f F cc rc → pm_ag mo_ks M N → pm_R S (pm_PC S (d + 7)) Q 152 68 [some (.inr (.inr 19)), l1] [] N := fun hfi N l1 hN aN => k_Mod_read_68 (h5 P ls D n kd' dp' w' h' hfa hhd hun hok' e1 e2 e3 e4 hfi N hN aN)
  refine k_Mod_read_58 (fun z => bad (fun hfi => z ?_) M4 _ hI4 A4) (fun z => k_Mod_read_61 ?_)
  · congr 1
    unfold fi_of at hfi
    unfold en_tt
    split at hfi
    · rename_i e
      rw [if_pos e]
      exact hfi.2.symm
    · rename_i e
      rw [if_neg e]
      exact hfi.2.symm
  · have hlen : en_tt kd' dp' w' h' (rd_7 F) = D.length := ((nI_eq (by omega) (by omega)).mp (Classical.not_not.mp z)).symm
    have hs4 : mo_s M4 21 kd' w' h' (fun x y c => M4 21 (32 * y + 4 * x + c)) := fun x y c _ _ _ => rfl
    refine w_Mod_rebuilt (d := d + 3) hok' hDb d4 hlen hh4 hs4 z4 (fun hfi M5 s5 c5 a5 => k_Mod_read_65 (fun _ => k_Mod_read_71 ?_) (fun z => absurd (by decide) z)) (fun hfi M5 a5 => k_Mod_read_65 (fun z => absurd rfl z) (fun _ => bad hfi M5 _ (hI4.keep a5 (by decide) (by decide) (by decide) (by decide) (by decide) (by decide) (by decide) (by decide) (by decide)) (A4.of a5.1 (by decide))))
    have hh5 := hh4.keep a5
    have c11 : M5 19 11 = nI n := by rw [a5.2 11 (by decide), a4.2 11 (by decide)]; exact c3
    have F5 := (hI4.2.2.1.keep a5 (by decide) (by decide))
    obtain ⟨dn1, dn2⟩ := de_on_of hok' D (rd_7 F) (fun x y c => M4 21 (32 * y + 4 * x + c))
    rw [hh5.1, hh5.2.1, hh5.2.2.1, hh5.2.2.2.1]
    generalize hM6 : pm_up (pm_up (pm_up (pm_up M5 19 0 (nI kd')) 19 1 (nI dp')) 19 2 (nI w')) 19 3 (nI h') = M6
    have a6 : mo_ag [0, 1, 2, 3] [] M5 M6 := by rw [← hM6]; exact (((mo_ag.f (by decide)).tr (mo_ag.f (by decide))).tr (mo_ag.f (by decide))).tr (mo_ag.f (by decide))
    have sh6 : mo_sh M6 kd' dp' w' h' := by
      rw [← hM6]
      exact ⟨by rw [pm_up_off (Or.inr (by decide)), pm_up_off (Or.inr (by decide)), pm_up_off (Or.inr (by decide)), pm_up_hit], by rw [pm_up_off (Or.inr (by decide)), pm_up_off (Or.inr (by decide)), pm_up_hit], by rw [pm_up_off (Or.inr (by decide)), pm_up_hit], pm_up_hit⟩
    refine w_mrd_cp1 256 0 M6 (by decide) (fun j hj => absurd hj (Nat.not_lt_zero j)) (fun M7 l7 z7 a7 => k_Mod_read_130 ?_)
    refine w_mrd_cp2 5 0 M7 (by decide) (fun j hj => absurd hj (Nat.not_lt_zero j)) (fun M8 l8 z8 a8 => k_Mod_read_155 ?_)
    have a9 : mo_ag [10] [] M8 (pm_up M8 19 10 (M8 19 11)) := mo_ag.f (by decide)
    refine h0 P ls D n kd' dp' w' h' hfa hhd hun hok' e1 e2 e3 e4 hfi _ ⟨?_, fun x y c hx hy hc => ?_, ?_, ?_, fun i hi => ?_⟩ ?_
    · exact ((sh6.keep a7 (by decide) (by decide) (by decide) (by decide)).keep a8 (by decide) (by decide) (by decide) (by decide)).keep a9 (by decide) (by decide) (by decide) (by decide)
    · have hw := hok'.2.1
      have hh := hok'.2.2
      have hpp := pc_pp_le kd'
      rw [a9.pl (show (20 : Nat) ∉ _ by decide), a8.pl (show (20 : Nat) ∉ _ by decide), z7 _ (by omega), a7.pl (show (21 : Nat) ∉ _ by decide), a6.pl (show (21 : Nat) ∉ _ by decide), s5 x y c hx hy hc]
      exact dn1 x y c hx hy hc
    · exact (((F5.keep a6 (by decide) (by decide)).keep a7 (by decide) (by decide)).keep a8 (by decide) (by decide)).keep a9 (by decide) (by decide)
    · rw [pm_up_hit, a8.2 11 (by decide), a7.2 11 (by decide), a6.2 11 (by decide)]
      exact c11
    · rw [a9.pl (show (23 : Nat) ∉ _ by decide), z8 i hi, a8.pl (show (24 : Nat) ∉ _ by decide), a7.pl (show (24 : Nat) ∉ _ by decide), a6.pl (show (24 : Nat) ∉ _ by decide), c5 i hi, dn2]
    · exact ((((A4.of a5.1 (by decide)).of a6.1 (by decide)).of a7.1 (by decide)).of a8.1 (by decide)).of a9.1 (by decide)
end MOD
