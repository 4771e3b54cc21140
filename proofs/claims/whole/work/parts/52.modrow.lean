/-! SevenPassImageModel: a row's bytes, filters, the best filter. -/
def sm_ok (kd dp w h : Nat) (f : Nat → Nat → Nat → Int32) : Prop := ∀ x y c, x < w → y < h → c < pc_pp kd → ∃ v : Nat, v < 2 ^ dp ∧ f x y c = nI v
section MOD
variable {S d : Nat} {Q : pm_Q} {M : pm_M} {kd dp w h : Nat} {f : Nat → Nat → Nat → Int32}
theorem w_rowByte_neg {x1 x2 x3 : Int32} (hx : x2 < 0 ∨ x3 < 0) (hq : Q (some (.inl 0)) M) : pm_PC S (d + 1) 109 [.inr (.inr 19), .inl x1, .inl x2, .inl x3] M Q :=
  e_Mod_rowByte (k_Mod_rowByte_0 (fun _ => k_Mod_rowByte_8 hq) (fun z => k_Mod_rowByte_4 (fun z2 => absurd z2 (Int32.not_le.mpr (hx.resolve_left z))) (fun _ => k_Mod_rowByte_8 hq)))
def mo_sn (kd : Nat) (f : Nat → Nat → Nat → Int32) (p r m : Nat) : Nat := (rb_s kd f p r m).toNatClampNeg
theorem mo_pt32 {p : Nat} (hok : pc_ok kd dp w h) (hp : p < 8) : ps_pt p w * pc_pp kd ≤ 32 := by
  have hw := hok.2.1
  have h1 : ps_pt p w ≤ 8 := (ps_pt_e p hp w (by omega)).2.2.2.2.2.2.2.2.1
  exact Nat.mul_le_mul h1 (pc_pp_le kd).2
theorem mo_x_in {p m : Nat} (hok : pc_ok kd dp w h) (hp : p < 8) (hm : m < ps_pt p w * pc_pp kd) : ps_x0 p + m / pc_pp kd * ps_dx p < w ∧ m % pc_pp kd < pc_pp kd := by
  have hw := hok.2.1
  have hpp := pc_pp_le kd
  have hpt : ps_pt p w ≤ 8 := (ps_pt_e p hp w (by omega)).2.2.2.2.2.2.2.2.1
  have h1 : m / pc_pp kd < ps_pt p w := (Nat.div_lt_iff_lt_mul (by omega)).mpr hm
  exact ⟨ps_in_x p hp w (by omega) _ (by omega) h1, Nat.mod_lt _ (by omega)⟩
theorem mo_sn_ok {p r m : Nat} (hok : pc_ok kd dp w h) (hs : sm_ok kd dp w h f) (hp : p < 8) (hr : r < ps_rw p w h) (hm : m < ps_pt p w * pc_pp kd) : rb_s kd f p r m = nI (mo_sn kd f p r m) ∧ mo_sn kd f p r m < 2 ^ dp := by
  have hh := hok.2.2
  obtain ⟨x1, x2⟩ := mo_x_in hok hp hm
  obtain ⟨v, hv, e⟩ := hs _ _ _ x1 (ps_y_in hp (show h < 9 by omega) hr).1 x2
  have e2 : rb_s kd f p r m = nI v := e
  have hdp : 2 ^ dp < 1000 := by rcases pc_dp hok with rfl | rfl | rfl | rfl <;> decide
  have e3 : mo_sn kd f p r m = v := by
    unfold mo_sn
    rw [e2]
    exact nI_clamp (by omega)
  rw [e3]
  exact ⟨e2, hv⟩
theorem nb_shr1 {v i : Nat} (hv : v < 2 ^ 31) (hi : i < 32) : pm_ishr (nI v) (nI i) &&& 1 = nI (v / 2 ^ i % 2) := by
  unfold pm_ishr
  have hlt : v / 2 ^ i < 2 ^ 32 := Nat.lt_of_le_of_lt (Nat.div_le_self _ _) (by omega)
  rw [pk_shrN hv _ i (nb_sl i hi), pk_andN hlt 1 (by decide)]
theorem w_rB_loop {p r k : Nat} (hok : pc_ok kd dp w h) (hs : sm_ok kd dp w h f) (hp : p < 8) (hr : r < ps_rw p w h) (hk : k < 100) (h19 : mo_sh M kd dp w h) (h20 : mo_s M 20 kd w h f) (hq : Q (some (.inl (nI (mo_v dp (mo_sn kd f p r) (ps_pt p w * pc_pp kd) k 8)))) M) : ∀ (j n : Nat) (l8 l9 l10 l11 : Option pm_V), n + j = 8 → pm_R S (pm_PC S (d + 2)) Q 109 41 [some (.inr (.inr 19)), some (.inl (nI p)), some (.inl (nI r)), some (.inl (nI k)), some (.inl (nI (pc_pp kd))), some (.inl (nI (ps_pt p w * pc_pp kd))), some (.inl (nI (mo_v dp (mo_sn kd f p r) (ps_pt p w * pc_pp kd) k n))), some (.inl (nI (8 * k + n))), l8, l9, l10, l11] [] M := by
  have hpp := pc_pp_le kd
  have h32 := mo_pt32 hok hp
  have hw := hok.2.1
  have hh := hok.2.2
  have hdp : 1 ≤ dp ∧ dp ≤ 8 ∧ 2 ^ dp < 1000 := by rcases pc_dp hok with rfl | rfl | rfl | rfl <;> decide
  have e8 : (8 : Int32) * nI k + 8 = nI (8 * k + 8) := by
    rw [show (8 : Int32) = nI 8 from rfl, pk_mul, nI_add]
  intro j
  induction j with
  | zero =>
    intro n l8 l9 l10 l11 hn
    have e : n = 8 := by omega
    subst e
    refine k_Mod_rowByte_41 (fun _ => k_Mod_rowByte_158 hq) (fun z => absurd ?_ z)
    rw [e8]
    exact nI_le (Nat.le_refl _) (by omega)
  | succ j ih =>
    intro n l8 l9 l10 l11 hn
    generalize hb : 8 * k + n = b
    have hb9 : b < 1000 := by omega
    have ed : nI b / M 19 1 = nI (b / dp) := by rw [h19.2.1]; exact pk_div (by omega) (by omega) (by omega)
    have er : pm_irem (nI b) (M 19 1) = nI (b % dp) := by rw [h19.2.1]; exact pk_rem (by omega) (by omega) (by omega)
    have hbd : b / dp < 1000 := Nat.lt_of_le_of_lt (Nat.div_le_self _ _) hb9
    have ed2 : nI (b / dp) / nI (pc_pp kd) = nI (b / dp / pc_pp kd) := pk_div (by omega) (by omega) (by omega)
    have er2 : pm_irem (nI (b / dp)) (nI (pc_pp kd)) = nI (b / dp % pc_pp kd) := pk_rem (by omega) (by omega) (by omega)
    have nz1 : ¬ M 19 1 = 0 := by
      rw [h19.2.1]
      exact fun z => absurd ((nI_eq (a := dp) (b := 0) (by omega) (by decide)).mp z) (by omega)
    have nz2 : ¬ nI (pc_pp kd) = 0 := fun z => absurd ((nI_eq (a := pc_pp kd) (b := 0) (by omega) (by decide)).mp z) (by omega)
    refine k_Mod_rowByte_41 (fun z => absurd z ?_) (fun _ => k_Mod_rowByte_53 nz1 ?_)
    · rw [e8]
      exact nI_ge (by omega) (by omega)
    · rw [ed]
      refine w_Mod_firstX hp (k_Mod_rowByte_66 nz2 ?_)
      rw [ed2]
      refine w_Mod_stepX hp (k_Mod_rowByte_75 ?_)
      rw [pk_mul, nI_add]
      refine w_Mod_firstY hp (k_Mod_rowByte_83 (w_Mod_stepY hp ?_))
      have fin : ∀ l11 x9 x10, pm_R S (pm_PC S (d + 2)) Q 109 141 [some (.inr (.inr 19)), some (.inl (nI p)), some (.inl (nI r)), some (.inl (nI k)), some (.inl (nI (pc_pp kd))), some (.inl (nI (ps_pt p w * pc_pp kd))), some (.inl (nI (mo_v dp (mo_sn kd f p r) (ps_pt p w * pc_pp kd) k n))), some (.inl (nI b)), some (.inl (nI (b / dp))), x9, some (.inl x10), l11] [.inl (nI (mo_1 dp (mo_sn kd f p r) (ps_pt p w * pc_pp kd) b))] M := by
        intro l11 x9 x10
        refine k_Mod_rowByte_141 ?_
        rw [show (2 : Int32) = nI 2 from rfl, pk_mul, nI_add, nI_1, ← hb]
        exact ih (n + 1) _ _ _ _ (by omega)
      refine k_Mod_rowByte_88 (fun z => k_Mod_rowByte_140 ?_) (fun z => ?_)
      · rw [nI_leI (by omega) (by omega)] at z
        have := fin l11 (some (.inl (nI (ps_x0 p + b / dp / pc_pp kd * ps_dx p)))) (nI (ps_y0 p) + nI r * nI (ps_dy p))
        unfold mo_1 at this
        rw [if_neg (by omega)] at this
        exact this
      · rw [nI_leI (by omega) (by omega)] at z
        have hm : b / dp < ps_pt p w * pc_pp kd := by omega
        obtain ⟨x1, x2⟩ := mo_x_in hok hp hm
        obtain ⟨s1, s2⟩ := mo_sn_ok hok hs hp hr hm
        have hy := (ps_y_in hp (show h < 9 by omega) hr).1
        rw [pk_mul, nI_add]
        have eix : 32 * nI (ps_y0 p + r * ps_dy p) + 4 * nI (ps_x0 p + b / dp / pc_pp kd * ps_dx p) + pm_irem (nI (b / dp)) (nI (pc_pp kd)) = nI (32 * (ps_y0 p + r * ps_dy p) + 4 * (ps_x0 p + b / dp / pc_pp kd * ps_dx p) + b / dp % pc_pp kd) := by
          rw [er2]
          exact mo_ix
        have hlt : 32 * (ps_y0 p + r * ps_dy p) + 4 * (ps_x0 p + b / dp / pc_pp kd * ps_dx p) + b / dp % pc_pp kd < 256 := by omega
        refine k_Mod_rowByte_99 nz2 (by rw [eix]; exact vp_in_nI hlt (by decide)) nz1 ?_
        have esh : M 19 1 - 1 - pm_irem (nI b) (M 19 1) = nI (dp - 1 - b % dp) := by
          have := Nat.mod_lt b (show dp > 0 by omega)
          rw [er, h19.2.1, show (1 : Int32) = nI 1 from rfl, pk_sub (by omega), pk_sub (by omega)]
        have hval : M 20 (32 * (ps_y0 p + r * ps_dy p) + 4 * (ps_x0 p + b / dp / pc_pp kd * ps_dx p) + b / dp % pc_pp kd) = nI (mo_sn kd f p r (b / dp)) := by
          rw [h20 _ _ _ x1 hy x2]
          exact s1
        rw [eix, nI_clamp (by omega), esh, hval, nb_shr1 (by omega) (by omega)]
        have := fin l11 (some (.inl (nI (ps_x0 p + b / dp / pc_pp kd * ps_dx p)))) (nI (ps_y0 p + r * ps_dy p))
        unfold mo_1 at this
        rw [if_pos hm] at this
        exact this
theorem w_Mod_rowByte {p r k : Nat} (hok : pc_ok kd dp w h) (hs : sm_ok kd dp w h f) (hp : p < 8) (hr : r < ps_rw p w h) (hk : k < 100) (h19 : mo_sh M kd dp w h) (h20 : mo_s M 20 kd w h f) (hq : Q (some (.inl (rw_b kd dp w f p r k))) M) : pm_PC S (d + 3) 109 [.inr (.inr 19), .inl (nI p), .inl (nI r), .inl (nI k)] M Q := by
  have hw := hok.2.1
  have hr9 := (ps_y_in hp (show h < 9 by have := hok.2.2; omega) hr).2
  have e : rw_b kd dp w f p r k = nI (mo_v dp (mo_sn kd f p r) (ps_pt p w * pc_pp kd) k 8) := mo_rb (pc_dp hok) (fun m hm => mo_sn_ok hok hs hp hr hm)
  rw [e] at hq
  refine e_Mod_rowByte (k_Mod_rowByte_0 (fun z => absurd z (nI_pos (by omega))) (fun _ => k_Mod_rowByte_4 (fun _ => k_Mod_rowByte_10 ?_) (fun z => absurd (nI_le (a := 0) (by omega) (by omega)) z)))
  rw [h19.1]
  refine w_parts_nI (pc_kd hok) (k_Mod_rowByte_17 ?_)
  rw [h19.2.2.1]
  refine w_Mod_columns hp (by omega) (k_Mod_rowByte_27 ?_)
  rw [pk_mul, show (8 : Int32) = nI 8 from rfl, pk_mul]
  exact w_rB_loop hok hs hp hr hk h19 h20 hq 8 0 _ _ _ _ (by decide)
theorem w_Mod_size {x : Int32} (hq : Q (some (.inl (pm_abs x))) M) : pm_PC S (d + 1) 110 [.inl x] M Q := by
  unfold pm_abs at hq
  refine e_Mod_size (k_Mod_size_0 (fun z => k_Mod_size_9 (k_Mod_size_10 ?_)) (fun z => k_Mod_size_4 (k_Mod_size_10 ?_)))
  · rw [if_pos z] at hq; exact hq
  · rw [if_neg z, Int32.zero_sub] at hq; exact hq
theorem w_Mod_foretold {q : Nat} {a b c : Int32} (hf : q < 5) (hq : Q (some (.inl (ro_p q a b c))) M) : pm_PC S (d + 2) 111 [.inl (nI q), .inl a, .inl b, .inl c] M Q := by
  have hc : q = 0 ∨ q = 1 ∨ q = 2 ∨ q = 3 ∨ q = 4 := by omega
  rcases hc with rfl | rfl | rfl | rfl | rfl
  · exact e_Mod_foretold (k_Mod_foretold_0 (fun z => absurd z (by decide)) (fun _ => k_Mod_foretold_5 (fun z => absurd (by decide) z) (fun _ => k_Mod_foretold_9 (k_Mod_foretold_36 hq))))
  · exact e_Mod_foretold (k_Mod_foretold_0 (fun z => absurd z (by decide)) (fun _ => k_Mod_foretold_5 (fun _ => k_Mod_foretold_13 (fun z => absurd (by decide) z) (fun _ => k_Mod_foretold_18 (k_Mod_foretold_36 hq))) (fun z => absurd (by decide) z)))
  · exact e_Mod_foretold (k_Mod_foretold_0 (fun z => absurd z (by decide)) (fun _ => k_Mod_foretold_5 (fun _ => k_Mod_foretold_13 (fun _ => k_Mod_foretold_22 (fun z => absurd (by decide) z) (fun _ => k_Mod_foretold_27 (k_Mod_foretold_36 hq))) (fun z => absurd (by decide) z)) (fun z => absurd (by decide) z)))
  · exact e_Mod_foretold (k_Mod_foretold_0 (fun z => absurd z (by decide)) (fun _ => k_Mod_foretold_5 (fun _ => k_Mod_foretold_13 (fun _ => k_Mod_foretold_22 (fun _ => k_Mod_foretold_31 (k_Mod_foretold_36 hq)) (fun z => absurd (by decide) z)) (fun z => absurd (by decide) z)) (fun z => absurd (by decide) z)))
  · refine e_Mod_foretold (k_Mod_foretold_0 (fun _ => k_Mod_foretold_37 (w_Mod_size (k_Mod_foretold_51 (w_Mod_size ?_)))) (fun z => absurd (by decide) z))
    have hq2 : Q (some (.inl (ro_nr a b c))) M := hq
    unfold ro_nr at hq2
    generalize hA : pm_abs (a + b - c - a) = A at hq2 ⊢
    generalize hB : pm_abs (a + b - c - b) = B at hq2 ⊢
    have last : ∀ L, (L = if pm_abs (a + b - c - c) < (if B < A then B else A) then pm_abs (a + b - c - c) else (if B < A then B else A)) → ∀ l5, pm_R S (pm_PC S (d + 1)) Q 111 103 [some (.inl (nI 4)), some (.inl a), some (.inl b), some (.inl c), some (.inl (a + b - c)), l5] [.inl L] M := by
      intro L hL l5
      generalize hC : pm_abs (a + b - c - c) = C at hL hq2
      refine k_Mod_foretold_103 (w_Mod_size ?_)
      rw [hA]
      simp only [Int32.lt_iff_toInt_lt] at hL hq2
      refine k_Mod_foretold_112 (fun z => k_Mod_foretold_121 (w_Mod_size ?_)) (fun z => k_Mod_foretold_117 (k_Mod_foretold_138 ?_))
      · rw [hB]
        refine k_Mod_foretold_128 (fun z2 => k_Mod_foretold_137 (k_Mod_foretold_138 ?_)) (fun z2 => k_Mod_foretold_133 (k_Mod_foretold_138 ?_))
        · rw [← Int32.toInt_inj] at z z2
          rw [if_pos (by split at hL <;> split at hL <;> subst hL <;> omega), if_pos (by split at hL <;> split at hL <;> subst hL <;> omega)] at hq2
          exact hq2
        · rw [← Int32.toInt_inj] at z z2
          have z2 := Classical.not_not.mp z2
          rw [if_pos (by split at hL <;> split at hL <;> subst hL <;> omega), if_neg (by split at hL <;> split at hL <;> subst hL <;> omega)] at hq2
          exact hq2
      · rw [← Int32.toInt_inj] at z
        have z := Classical.not_not.mp z
        rw [if_neg (by split at hL <;> split at hL <;> subst hL <;> omega)] at hq2
        exact hq2
    have mid : ∀ L1, (L1 = if B < A then B else A) → ∀ l5, pm_R S (pm_PC S (d + 1)) Q 111 77 [some (.inl (nI 4)), some (.inl a), some (.inl b), some (.inl c), some (.inl (a + b - c)), l5] [.inl L1] M := by
      intro L1 hL1 l5
      refine k_Mod_foretold_77 (w_Mod_size (k_Mod_foretold_86 (fun z => k_Mod_foretold_101 (last L1 ?_ _)) (fun z => k_Mod_foretold_91 (w_Mod_size (k_Mod_foretold_98 (last _ ?_ _))))))
      · rw [← hL1, if_neg (Int32.not_lt.mpr z)]
      · rw [← hL1, if_pos (Int32.not_le.mp z)]
    refine k_Mod_foretold_60 (fun z => k_Mod_foretold_75 (mid A ?_ _)) (fun z => k_Mod_foretold_65 (w_Mod_size ?_))
    · rw [if_neg (Int32.not_lt.mpr z)]
    · rw [hB]
      refine k_Mod_foretold_72 (mid B ?_ _)
      rw [if_pos (Int32.not_le.mp z)]
/-- the bytes of the row above -/
def mo_u (kd dp w : Nat) (f : Nat → Nat → Nat → Int32) (p : Nat) : Nat → Nat → Int32
  | 0 => fun _ => 0
  | r + 1 => rw_b kd dp w f p r
theorem w_Mod_filtered {p r k q : Nat} (hok : pc_ok kd dp w h) (hs : sm_ok kd dp w h f) (hp : p < 8) (hr : r < ps_rw p w h) (hk : k < 100) (hf : q < 5) (h19 : mo_sh M kd dp w h) (h20 : mo_s M 20 kd w h f) (hq : Q (some (.inl (ro_fl q (ps_un (pc_pp kd) dp) (rw_b kd dp w f p r) (mo_u kd dp w f p r) k))) M) : pm_PC S (d + 4) 112 [.inr (.inr 19), .inl (nI p), .inl (nI r), .inl (nI k), .inl (nI q)] M Q := by
  have hun := ps_un_le hok
  have hpp := pc_pp_le kd
  have hdp : dp ≤ 8 := by rcases pc_dp hok with rfl | rfl | rfl | rfl <;> decide
  have hr9 := (ps_y_in hp (show h < 9 by have := hok.2.2; omega) hr).2
  have row : ∀ {Q : pm_Q} {X : Int32} (g : Int32), ((X < 0 ∧ g = 0) ∨ ∃ k, k < 100 ∧ X = nI k ∧ g = rw_b kd dp w f p r k) → Q (some (.inl g)) M → pm_PC S (d + 3) 109 [.inr (.inr 19), .inl (nI p), .inl (nI r), .inl X] M Q := by
    intro Q X g hg hQ
    rcases hg with ⟨hX, rfl⟩ | ⟨k, hk, rfl, rfl⟩
    · exact w_rowByte_neg (Or.inr hX) hQ
    · exact w_Mod_rowByte hok hs hp hr hk h19 h20 hQ
  have up : ∀ {Q : pm_Q} {X : Int32} (g : Int32), ((X < 0 ∧ g = 0) ∨ ∃ k, k < 100 ∧ X = nI k ∧ g = mo_u kd dp w f p r k) → Q (some (.inl g)) M → pm_PC S (d + 3) 109 [.inr (.inr 19), .inl (nI p), .inl (nI r - 1), .inl X] M Q := by
    intro Q X g hg hQ
    rcases hg with ⟨hX, rfl⟩ | ⟨k, hk, rfl, rfl⟩
    · exact w_rowByte_neg (Or.inr hX) hQ
    · cases r with
      | zero => exact w_rowByte_neg (Or.inl (by decide)) hQ
      | succ r =>
        rw [show (1 : Int32) = nI 1 from rfl, pk_sub (by omega), show r + 1 - 1 = r by omega]
        exact w_Mod_rowByte hok hs hp (by omega) hk h19 h20 hQ
  refine e_Mod_filtered (k_Mod_filtered_0 ?_)
  rw [h19.1]
  refine w_parts_nI (pc_kd hok) (k_Mod_filtered_8 ?_)
  rw [h19.2.1]
  refine w_Mod_unit hpp.2 hdp (k_Mod_filtered_15 ?_)
  unfold ro_fl ro_gs at hq
  have left : ∀ g : Nat → Int32, (nI k - nI (ps_un (pc_pp kd) dp) < 0 ∧ (if k < ps_un (pc_pp kd) dp then 0 else g (k - ps_un (pc_pp kd) dp)) = 0) ∨ ∃ j, j < 100 ∧ nI k - nI (ps_un (pc_pp kd) dp) = nI j ∧ (if k < ps_un (pc_pp kd) dp then 0 else g (k - ps_un (pc_pp kd) dp)) = g j := by
    intro g
    by_cases hl : k < ps_un (pc_pp kd) dp
    · exact Or.inl ⟨pk_sneg (by omega) hl, if_pos hl⟩
    · exact Or.inr ⟨k - ps_un (pc_pp kd) dp, by omega, pk_sub (by omega), if_neg hl⟩
  refine row _ (left (rw_b kd dp w f p r)) (k_Mod_filtered_26 (up _ (Or.inr ⟨k, hk, rfl, rfl⟩) (k_Mod_filtered_37 (up _ (left (mo_u kd dp w f p r)) (k_Mod_filtered_49 (w_Mod_rowByte hok hs hp hr hk h19 h20 (k_Mod_filtered_58 (w_Mod_foretold hf (k_Mod_filtered_69 hq)))))))))
theorem mo_min : ∀ n, n < 256 → (nI n ≤ 127 → pm_min (nI n) (256 - nI n) = nI n) ∧ (¬ nI n ≤ 127 → pm_min (nI n) (256 - nI n) = 256 - nI n) ∧ ∃ m, m < 129 ∧ pm_min (nI n) (256 - nI n) = nI m := by
  have h : ∀ n, n < 256 → (nI n ≤ 127 → pm_min (nI n) (256 - nI n) = nI n) ∧ (¬ nI n ≤ 127 → pm_min (nI n) (256 - nI n) = 256 - nI n) ∧ pm_min (nI n) (256 - nI n) = nI (min n (256 - n)) := by decide +kernel
  intro n hn
  obtain ⟨h1, h2, h3⟩ := h n hn
  exact ⟨h1, h2, _, by omega, h3⟩
theorem ro_fl_b (q un : Nat) (g u : Nat → Int32) (k : Nat) : ∃ n, n < 256 ∧ ro_fl q un g u k = nI n := pk_andE _ 8 (by decide)
theorem ro_sm_b (q un : Nat) (g u : Nat → Int32) : ∀ n, ∃ m, m ≤ 128 * n ∧ ro_sm q un g u n = nI m
  | 0 => ⟨0, by omega, rfl⟩
  | n + 1 => by
    obtain ⟨m, hm, e⟩ := ro_sm_b q un g u n
    obtain ⟨v, hv, ev⟩ := ro_fl_b q un g u n
    obtain ⟨-, -, m2, hm2, e2⟩ := mo_min v hv
    refine ⟨m + m2, by omega, ?_⟩
    unfold ro_sm
    rw [e, ev, e2, nI_add]
theorem ro_bl_0 {sz un : Nat} (hsz : sz ≤ 32) (g u : Nat → Int32) : ro_bl sz un g u 5 0 (0, 1000000) = ro_bf sz un g u := by
  unfold ro_bf
  obtain ⟨m, hm, e⟩ := ro_sm_b 0 un g u sz
  have h1 : ∀ c : Int32, ∀ n : Nat, c = nI n → 4096 < n → n < 2 ^ 31 → ¬ c ≤ ro_sm 0 un g u sz := by
    rintro c n rfl hn hn2
    rw [e, nI_leI hn2 (by omega)]
    omega
  show ro_bl sz un g u 4 1 (if (1000000 : Int32) ≤ ro_sm 0 un g u sz then (0, 1000000) else (0, ro_sm 0 un g u sz)) = ro_bl sz un g u 4 1 (if (8192 : Int32) ≤ ro_sm 0 un g u sz then (0, 8192) else (0, ro_sm 0 un g u sz))
  rw [if_neg (h1 1000000 1000000 rfl (by decide) (by decide)), if_neg (h1 8192 8192 rfl (by decide) (by decide))]
theorem w_mbf_in {p r q : Nat} {x3 x4 : Option pm_V} (hok : pc_ok kd dp w h) (hs : sm_ok kd dp w h f) (hp : p < 8) (hr : r < ps_rw p w h) (hf : q < 5) (h19 : mo_sh M kd dp w h) (h20 : mo_s M 20 kd w h f) (hk : ∀ l7 l8, pm_R S (pm_PC S (d + 4)) Q 113 86 [some (.inr (.inr 19)), some (.inl (nI p)), some (.inl (nI r)), x3, x4, some (.inl (nI q)), some (.inl (ro_sm q (ps_un (pc_pp kd) dp) (rw_b kd dp w f p r) (mo_u kd dp w f p r) (ps_sz p w (pc_pp kd) dp))), l7, l8] [] M) : ∀ (k n : Nat) (l8 : Option pm_V), n + k = ps_sz p w (pc_pp kd) dp → pm_R S (pm_PC S (d + 4)) Q 113 21 [some (.inr (.inr 19)), some (.inl (nI p)), some (.inl (nI r)), x3, x4, some (.inl (nI q)), some (.inl (ro_sm q (ps_un (pc_pp kd) dp) (rw_b kd dp w f p r) (mo_u kd dp w f p r) n)), some (.inl (nI n)), l8] [] M := by
  have hsz := ps_sz_le hok hp
  have hpp := pc_pp_le kd
  have hw := hok.2.1
  have hdp : dp ≤ 8 := by rcases pc_dp hok with rfl | rfl | rfl | rfl <;> decide
  intro k
  induction k with
  | zero =>
    intro n l8 hn
    have e : n = ps_sz p w (pc_pp kd) dp := by omega
    subst e
    refine k_Mod_bestFilter_21 ?_
    rw [h19.1, h19.2.2.1]
    refine w_parts_nI (pc_kd hok) (k_Mod_bestFilter_35 ?_)
    rw [h19.2.1]
    exact w_Mod_lineBytes hp (by omega) hpp.2 hdp (k_Mod_bestFilter_42 (fun _ => hk _ _) (fun z => absurd (nI_le (Nat.le_refl _) (by omega)) z))
  | succ k ih =>
    intro n l8 hn
    refine k_Mod_bestFilter_21 ?_
    rw [h19.1, h19.2.2.1]
    refine w_parts_nI (pc_kd hok) (k_Mod_bestFilter_35 ?_)
    rw [h19.2.1]
    refine w_Mod_lineBytes hp (by omega) hpp.2 hdp (k_Mod_bestFilter_42 (fun z => absurd z (nI_ge (by omega) (by omega))) (fun _ => k_Mod_bestFilter_45 (w_Mod_filtered hok hs hp hr (by omega) hf h19 h20 ?_)))
    obtain ⟨v, hv, ev⟩ := ro_fl_b q (ps_un (pc_pp kd) dp) (rw_b kd dp w f p r) (mo_u kd dp w f p r) n
    obtain ⟨m1, m2, -⟩ := mo_min v hv
    have hih := ih (n + 1)
    unfold ro_sm at hih
    rw [ev] at hih ⊢
    refine k_Mod_bestFilter_55 (fun z => k_Mod_bestFilter_75 (k_Mod_bestFilter_77 ?_)) (fun z => k_Mod_bestFilter_66 (k_Mod_bestFilter_77 ?_))
    · rw [m1 z] at hih
      rw [nI_1]
      exact hih _ (by omega)
    · rw [m2 z] at hih
      rw [nI_1]
      exact hih _ (by omega)
theorem w_mbf_out {p r : Nat} (hok : pc_ok kd dp w h) (hs : sm_ok kd dp w h f) (hp : p < 8) (hr : r < ps_rw p w h) (h19 : mo_sh M kd dp w h) (h20 : mo_s M 20 kd w h f) : ∀ (k q : Nat) (t : Nat × Int32) (l6 l7 l8 : Option pm_V), q + k = 5 → Q (some (.inl (nI (ro_bl (ps_sz p w (pc_pp kd) dp) (ps_un (pc_pp kd) dp) (rw_b kd dp w f p r) (mo_u kd dp w f p r) k q t)))) M → pm_R S (pm_PC S (d + 4)) Q 113 9 [some (.inr (.inr 19)), some (.inl (nI p)), some (.inl (nI r)), some (.inl (nI t.1)), some (.inl t.2), some (.inl (nI q)), l6, l7, l8] [] M := by
  intro k
  induction k with
  | zero =>
    intro q t l6 l7 l8 hq5 hq
    have e : q = 5 := by omega
    subst e
    exact k_Mod_bestFilter_9 (fun _ => k_Mod_bestFilter_122 hq) (fun z => absurd (by decide) z)
  | succ k ih =>
    intro q t l6 l7 l8 hq5 hq
    unfold ro_bl at hq
    refine k_Mod_bestFilter_9 (fun z => absurd z (nI_ge (b := 5) (by omega) (by decide))) (fun _ => k_Mod_bestFilter_15 ?_)
    refine w_mbf_in hok hs hp hr (by omega) h19 h20 (fun l7 l8 => k_Mod_bestFilter_86 (fun z => k_Mod_bestFilter_98 (k_Mod_bestFilter_99 (fun _ => k_Mod_bestFilter_112 (k_Mod_bestFilter_114 ?_)) (fun z2 => absurd z z2))) (fun z => k_Mod_bestFilter_93 (k_Mod_bestFilter_99 (fun z2 => absurd z2 z) (fun _ => k_Mod_bestFilter_107 (k_Mod_bestFilter_114 ?_))))) (ps_sz p w (pc_pp kd) dp) 0 _ (by omega)
    · rw [if_pos z] at hq
      rw [nI_1]
      exact ih (q + 1) t _ _ _ (by omega) hq
    · rw [if_neg z] at hq
      rw [nI_1]
      exact ih (q + 1) (q, _) _ _ _ (by omega) hq
theorem w_Mod_bestFilter {p r : Nat} (hok : pc_ok kd dp w h) (hs : sm_ok kd dp w h f) (hp : p < 8) (hr : r < ps_rw p w h) (h19 : mo_sh M kd dp w h) (h20 : mo_s M 20 kd w h f) (hq : Q (some (.inl (nI (ro_bf (ps_sz p w (pc_pp kd) dp) (ps_un (pc_pp kd) dp) (rw_b kd dp w f p r) (mo_u kd dp w f p r))))) M) : pm_PC S (d + 5) 113 [.inr (.inr 19), .inl (nI p), .inl (nI r)] M Q := by
  rw [← ro_bl_0 (ps_sz_le hok hp)] at hq
  exact e_Mod_bestFilter (k_Mod_bestFilter_0 (w_mbf_out hok hs hp hr h19 h20 5 0 (0, 1000000) _ _ _ (by decide) hq))
end MOD
