/-! SevenPassImageModel: where the rows' points lie; a row's byte. -/
section MOD
variable {S d : Nat} {Q : pm_Q} {M : pm_M}
theorem w_Mod_firstX {p : Nat} (hp : p < 8) (hq : Q (some (.inl (nI (ps_x0 p)))) M) : pm_PC S (d + 1) 101 [.inl (nI p)] M Q := by
  have hc : p = 0 ∨ p = 1 ∨ p = 2 ∨ p = 3 ∨ p = 4 ∨ p = 5 ∨ p = 6 ∨ p = 7 := by omega
  rcases hc with rfl | rfl | rfl | rfl | rfl | rfl | rfl | rfl
  · exact e_Mod_firstX (k_Mod_firstX_0 (fun _ => k_Mod_firstX_9 (fun _ => k_Mod_firstX_18 (fun _ => k_Mod_firstX_27 (k_Mod_firstX_28 hq)) (fun z => absurd (by decide) z)) (fun z => absurd (by decide) z)) (fun z => absurd (by decide) z))
  · exact e_Mod_firstX (k_Mod_firstX_0 (fun z => absurd (by decide) z) (fun _ => k_Mod_firstX_5 (k_Mod_firstX_28 hq)))
  · exact e_Mod_firstX (k_Mod_firstX_0 (fun _ => k_Mod_firstX_9 (fun _ => k_Mod_firstX_18 (fun _ => k_Mod_firstX_27 (k_Mod_firstX_28 hq)) (fun z => absurd (by decide) z)) (fun z => absurd (by decide) z)) (fun z => absurd (by decide) z))
  · exact e_Mod_firstX (k_Mod_firstX_0 (fun _ => k_Mod_firstX_9 (fun z => absurd (by decide) z) (fun _ => k_Mod_firstX_14 (k_Mod_firstX_28 hq))) (fun z => absurd (by decide) z))
  · exact e_Mod_firstX (k_Mod_firstX_0 (fun _ => k_Mod_firstX_9 (fun _ => k_Mod_firstX_18 (fun _ => k_Mod_firstX_27 (k_Mod_firstX_28 hq)) (fun z => absurd (by decide) z)) (fun z => absurd (by decide) z)) (fun z => absurd (by decide) z))
  · exact e_Mod_firstX (k_Mod_firstX_0 (fun _ => k_Mod_firstX_9 (fun _ => k_Mod_firstX_18 (fun z => absurd (by decide) z) (fun _ => k_Mod_firstX_23 (k_Mod_firstX_28 hq))) (fun z => absurd (by decide) z)) (fun z => absurd (by decide) z))
  · exact e_Mod_firstX (k_Mod_firstX_0 (fun _ => k_Mod_firstX_9 (fun _ => k_Mod_firstX_18 (fun _ => k_Mod_firstX_27 (k_Mod_firstX_28 hq)) (fun z => absurd (by decide) z)) (fun z => absurd (by decide) z)) (fun z => absurd (by decide) z))
  · exact e_Mod_firstX (k_Mod_firstX_0 (fun _ => k_Mod_firstX_9 (fun _ => k_Mod_firstX_18 (fun _ => k_Mod_firstX_27 (k_Mod_firstX_28 hq)) (fun z => absurd (by decide) z)) (fun z => absurd (by decide) z)) (fun z => absurd (by decide) z))
theorem w_Mod_firstY {p : Nat} (hp : p < 8) (hq : Q (some (.inl (nI (ps_y0 p)))) M) : pm_PC S (d + 1) 102 [.inl (nI p)] M Q := by
  have hc : (p = 0 ∨ p = 1 ∨ p = 3 ∨ p = 5 ∨ p = 7) ∨ p = 2 ∨ p = 4 ∨ p = 6 := by omega
  rcases hc with (rfl | rfl | rfl | rfl | rfl) | rfl | rfl | rfl
  · exact e_Mod_firstY (k_Mod_firstY_0 (fun _ => k_Mod_firstY_9 (fun _ => k_Mod_firstY_18 (fun _ => k_Mod_firstY_28 (k_Mod_firstY_29 hq)) (fun z => absurd (by decide) z)) (fun z => absurd (by decide) z)) (fun z => absurd (by decide) z))
  · exact e_Mod_firstY (k_Mod_firstY_0 (fun _ => k_Mod_firstY_9 (fun _ => k_Mod_firstY_18 (fun _ => k_Mod_firstY_28 (k_Mod_firstY_29 hq)) (fun z => absurd (by decide) z)) (fun z => absurd (by decide) z)) (fun z => absurd (by decide) z))
  · exact e_Mod_firstY (k_Mod_firstY_0 (fun _ => k_Mod_firstY_9 (fun _ => k_Mod_firstY_18 (fun _ => k_Mod_firstY_28 (k_Mod_firstY_29 hq)) (fun z => absurd (by decide) z)) (fun z => absurd (by decide) z)) (fun z => absurd (by decide) z))
  · exact e_Mod_firstY (k_Mod_firstY_0 (fun _ => k_Mod_firstY_9 (fun _ => k_Mod_firstY_18 (fun _ => k_Mod_firstY_28 (k_Mod_firstY_29 hq)) (fun z => absurd (by decide) z)) (fun z => absurd (by decide) z)) (fun z => absurd (by decide) z))
  · exact e_Mod_firstY (k_Mod_firstY_0 (fun _ => k_Mod_firstY_9 (fun _ => k_Mod_firstY_18 (fun _ => k_Mod_firstY_28 (k_Mod_firstY_29 hq)) (fun z => absurd (by decide) z)) (fun z => absurd (by decide) z)) (fun z => absurd (by decide) z))
  · exact e_Mod_firstY (k_Mod_firstY_0 (fun z => absurd (by decide) z) (fun _ => k_Mod_firstY_5 (k_Mod_firstY_29 hq)))
  · exact e_Mod_firstY (k_Mod_firstY_0 (fun _ => k_Mod_firstY_9 (fun z => absurd (by decide) z) (fun _ => k_Mod_firstY_14 (k_Mod_firstY_29 hq))) (fun z => absurd (by decide) z))
  · exact e_Mod_firstY (k_Mod_firstY_0 (fun _ => k_Mod_firstY_9 (fun _ => k_Mod_firstY_18 (fun z => absurd (by decide) z) (fun _ => k_Mod_firstY_24 (k_Mod_firstY_29 hq))) (fun z => absurd (by decide) z)) (fun z => absurd (by decide) z))
theorem w_Mod_stepX {p : Nat} (hp : p < 8) (hq : Q (some (.inl (nI (ps_dx p)))) M) : pm_PC S (d + 1) 103 [.inl (nI p)] M Q := by
  have hc : (p = 0 ∨ p = 1) ∨ (p = 2 ∨ p = 3) ∨ (p = 4 ∨ p = 5) ∨ p = 6 ∨ p = 7 := by omega
  rcases hc with (rfl | rfl) | (rfl | rfl) | (rfl | rfl) | rfl | rfl
  · exact e_Mod_stepX (k_Mod_stepX_0 (fun z => absurd z (by decide)) (fun _ => k_Mod_stepX_5 (k_Mod_stepX_30 hq)))
  · exact e_Mod_stepX (k_Mod_stepX_0 (fun z => absurd z (by decide)) (fun _ => k_Mod_stepX_5 (k_Mod_stepX_30 hq)))
  · exact e_Mod_stepX (k_Mod_stepX_0 (fun _ => k_Mod_stepX_10 (fun z => absurd z (by decide)) (fun _ => k_Mod_stepX_15 (k_Mod_stepX_30 hq))) (fun z => absurd (by decide) z))
  · exact e_Mod_stepX (k_Mod_stepX_0 (fun _ => k_Mod_stepX_10 (fun z => absurd z (by decide)) (fun _ => k_Mod_stepX_15 (k_Mod_stepX_30 hq))) (fun z => absurd (by decide) z))
  · exact e_Mod_stepX (k_Mod_stepX_0 (fun _ => k_Mod_stepX_10 (fun _ => k_Mod_stepX_19 (fun z => absurd z (by decide)) (fun _ => k_Mod_stepX_25 (k_Mod_stepX_30 hq))) (fun z => absurd (by decide) z)) (fun z => absurd (by decide) z))
  · exact e_Mod_stepX (k_Mod_stepX_0 (fun _ => k_Mod_stepX_10 (fun _ => k_Mod_stepX_19 (fun z => absurd z (by decide)) (fun _ => k_Mod_stepX_25 (k_Mod_stepX_30 hq))) (fun z => absurd (by decide) z)) (fun z => absurd (by decide) z))
  · exact e_Mod_stepX (k_Mod_stepX_0 (fun _ => k_Mod_stepX_10 (fun _ => k_Mod_stepX_19 (fun _ => k_Mod_stepX_29 (k_Mod_stepX_30 hq)) (fun z => absurd (by decide) z)) (fun z => absurd (by decide) z)) (fun z => absurd (by decide) z))
  · exact e_Mod_stepX (k_Mod_stepX_0 (fun _ => k_Mod_stepX_10 (fun _ => k_Mod_stepX_19 (fun _ => k_Mod_stepX_29 (k_Mod_stepX_30 hq)) (fun z => absurd (by decide) z)) (fun z => absurd (by decide) z)) (fun z => absurd (by decide) z))
theorem w_Mod_stepY {p : Nat} (hp : p < 8) (hq : Q (some (.inl (nI (ps_dy p)))) M) : pm_PC S (d + 1) 104 [.inl (nI p)] M Q := by
  have hc : (p = 0 ∨ p = 1 ∨ p = 2) ∨ (p = 3 ∨ p = 4) ∨ (p = 5 ∨ p = 6) ∨ p = 7 := by omega
  rcases hc with (rfl | rfl | rfl) | (rfl | rfl) | (rfl | rfl) | rfl
  · exact e_Mod_stepY (k_Mod_stepY_0 (fun z => absurd z (by decide)) (fun _ => k_Mod_stepY_5 (k_Mod_stepY_30 hq)))
  · exact e_Mod_stepY (k_Mod_stepY_0 (fun z => absurd z (by decide)) (fun _ => k_Mod_stepY_5 (k_Mod_stepY_30 hq)))
  · exact e_Mod_stepY (k_Mod_stepY_0 (fun z => absurd z (by decide)) (fun _ => k_Mod_stepY_5 (k_Mod_stepY_30 hq)))
  · exact e_Mod_stepY (k_Mod_stepY_0 (fun _ => k_Mod_stepY_10 (fun z => absurd z (by decide)) (fun _ => k_Mod_stepY_15 (k_Mod_stepY_30 hq))) (fun z => absurd (by decide) z))
  · exact e_Mod_stepY (k_Mod_stepY_0 (fun _ => k_Mod_stepY_10 (fun z => absurd z (by decide)) (fun _ => k_Mod_stepY_15 (k_Mod_stepY_30 hq))) (fun z => absurd (by decide) z))
  · exact e_Mod_stepY (k_Mod_stepY_0 (fun _ => k_Mod_stepY_10 (fun _ => k_Mod_stepY_19 (fun z => absurd z (by decide)) (fun _ => k_Mod_stepY_25 (k_Mod_stepY_30 hq))) (fun z => absurd (by decide) z)) (fun z => absurd (by decide) z))
  · exact e_Mod_stepY (k_Mod_stepY_0 (fun _ => k_Mod_stepY_10 (fun _ => k_Mod_stepY_19 (fun z => absurd z (by decide)) (fun _ => k_Mod_stepY_25 (k_Mod_stepY_30 hq))) (fun z => absurd (by decide) z)) (fun z => absurd (by decide) z))
  · exact e_Mod_stepY (k_Mod_stepY_0 (fun _ => k_Mod_stepY_10 (fun _ => k_Mod_stepY_19 (fun _ => k_Mod_stepY_29 (k_Mod_stepY_30 hq)) (fun z => absurd (by decide) z)) (fun z => absurd (by decide) z)) (fun z => absurd (by decide) z))
theorem ps_end_x : ∀ p, p < 8 → ∀ w, w < 9 → w ≤ ps_x0 p + ps_pt p w * ps_dx p ∧ ps_x0 p + ps_pt p w * ps_dx p < 100 := by decide +kernel
theorem ps_end_y : ∀ p, p < 8 → ∀ h, h < 9 → h ≤ ps_y0 p + (h + (ps_dy p - 1 - ps_y0 p)) / ps_dy p * ps_dy p ∧ ps_y0 p + (h + (ps_dy p - 1 - ps_y0 p)) / ps_dy p * ps_dy p < 100 := by decide +kernel
theorem w_col_loop {p w : Nat} (hp : p < 8) (hw : w < 9) (hq : Q (some (.inl (nI (ps_pt p w)))) M) : ∀ (k n : Nat), n + k = ps_pt p w → pm_R S (pm_PC S (d + 1)) Q 105 7 [some (.inl (nI p)), some (.inl (nI w)), some (.inl (nI n)), some (.inl (nI (ps_x0 p + n * ps_dx p)))] [] M := by
  have hpt : ps_pt p w ≤ 8 := (ps_pt_e p hp w hw).2.2.2.2.2.2.2.2.1
  have he := ps_end_x p hp w hw
  intro k
  induction k with
  | zero =>
    intro n hn
    have e : n = ps_pt p w := by omega
    subst e
    exact k_Mod_columns_7 (fun _ => k_Mod_columns_25 hq) (fun z => absurd (nI_le he.1 (by omega)) z)
  | succ k ih =>
    intro n hn
    have hx := ps_in_x p hp w hw n (by omega) (by omega)
    refine k_Mod_columns_7 (fun z => absurd z (nI_ge hx (by omega))) (fun _ => k_Mod_columns_12 (w_Mod_stepX hp (k_Mod_columns_20 ?_)))
    rw [nI_1, nI_add, show ps_x0 p + n * ps_dx p + ps_dx p = ps_x0 p + (n + 1) * ps_dx p by rw [Nat.add_mul, Nat.one_mul]; omega]
    exact ih (n + 1) (by omega)
theorem w_Mod_columns {p w : Nat} (hp : p < 8) (hw : w < 9) (hq : Q (some (.inl (nI (ps_pt p w)))) M) : pm_PC S (d + 2) 105 [.inl (nI p), .inl (nI w)] M Q := by
  refine e_Mod_columns (k_Mod_columns_0 (w_Mod_firstX hp (k_Mod_columns_6 ?_)))
  have := w_col_loop (S := S) (d := d) hp hw hq (ps_pt p w) 0 (by omega)
  rw [Nat.zero_mul, Nat.add_zero] at this
  exact this
theorem w_lin_loop {p w h : Nat} (hp : p < 8) (hw : w < 9) (hh : h < 9) (h0 : ¬ ps_pt p w = 0) (hq : Q (some (.inl (nI (ps_rw p w h)))) M) : ∀ (k n : Nat), n + k = ps_rw p w h → pm_R S (pm_PC S (d + 2)) Q 106 8 [some (.inl (nI p)), some (.inl (nI w)), some (.inl (nI h)), some (.inl (nI n)), some (.inl (nI (ps_y0 p + n * ps_dy p)))] [] M := by
  have hpt : ps_pt p w ≤ 8 := (ps_pt_e p hp w hw).2.2.2.2.2.2.2.2.1
  have he := ps_end_y p hp h hh
  have hr8 := ps_rw_le p hp h hh
  have er : ps_rw p w h = (h + (ps_dy p - 1 - ps_y0 p)) / ps_dy p := by unfold ps_rw; rw [if_neg h0]
  intro k
  induction k with
  | zero =>
    intro n hn
    have e : n = ps_rw p w h := by omega
    subst e
    rw [← er] at he
    exact k_Mod_lines_8 (fun _ => k_Mod_lines_37 hq) (fun z => absurd (nI_le he.1 (by omega)) z)
  | succ k ih =>
    intro n hn
    have hy := ps_in_y p hp h hh n (by omega) (by omega)
    refine k_Mod_lines_8 (fun z => absurd z (nI_ge hy (by omega))) (fun _ => k_Mod_lines_14 (w_Mod_columns hp hw (k_Mod_lines_19 (fun z => absurd z (nI_ge (a := 0) (by omega) (by omega))) (fun _ => k_Mod_lines_22 (w_Mod_stepY hp (k_Mod_lines_31 ?_))))))
    rw [nI_1, nI_add, show ps_y0 p + n * ps_dy p + ps_dy p = ps_y0 p + (n + 1) * ps_dy p by rw [Nat.add_mul, Nat.one_mul]; omega]
    exact ih (n + 1) (by omega)
theorem w_Mod_lines {p w h : Nat} (hp : p < 8) (hw : w < 9) (hh : h < 9) (hq : Q (some (.inl (nI (ps_rw p w h)))) M) : pm_PC S (d + 3) 106 [.inl (nI p), .inl (nI w), .inl (nI h)] M Q := by
  refine e_Mod_lines (k_Mod_lines_0 (w_Mod_firstY hp (k_Mod_lines_6 ?_)))
  by_cases h0 : ps_pt p w = 0
  · have er : ps_rw p w h = 0 := by unfold ps_rw; rw [if_pos h0]
    rw [er] at hq
    refine k_Mod_lines_8 (fun _ => k_Mod_lines_37 hq) (fun _ => k_Mod_lines_14 (w_Mod_columns hp hw (k_Mod_lines_19 (fun _ => k_Mod_lines_37 hq) (fun z => absurd ?_ z))))
    rw [h0]
    decide
  · have := w_lin_loop (S := S) (d := d) hp hw hh h0 hq (ps_rw p w h) 0 (by omega)
    rw [Nat.zero_mul, Nat.add_zero] at this
    exact this
theorem w_Mod_lineBytes {p w a b : Nat} (hp : p < 8) (hw : w < 9) (ha : a ≤ 4) (hb : b ≤ 8) (hq : Q (some (.inl (nI (ps_sz p w a b)))) M) : pm_PC S (d + 3) 107 [.inl (nI p), .inl (nI w), .inl (nI a), .inl (nI b)] M Q := by
  have hpt : ps_pt p w ≤ 8 := (ps_pt_e p hp w hw).2.2.2.2.2.2.2.2.1
  have h1 := Nat.mul_le_mul (Nat.mul_le_mul hpt ha) hb
  refine e_Mod_lineBytes (k_Mod_lineBytes_0 (w_Mod_columns hp hw (k_Mod_lineBytes_5 ?_)))
  rw [show (7 : Int32) = nI 7 from rfl, pk_mul, pk_mul, nI_add, nm_div8 (by omega)]
  exact hq
theorem w_Mod_unit {a b : Nat} (ha : a ≤ 4) (hb : b ≤ 8) (hq : Q (some (.inl (nI (ps_un a b)))) M) : pm_PC S (d + 1) 108 [.inl (nI a), .inl (nI b)] M Q := by
  have h1 := Nat.mul_le_mul ha hb
  have e : nI a * nI b / 8 = nI (a * b / 8) := by rw [pk_mul, nm_div8 (by omega)]
  unfold ps_un at hq
  refine e_Mod_unit (k_Mod_unit_0 (fun z => k_Mod_unit_19 (k_Mod_unit_20 ?_)) (fun z => k_Mod_unit_10 (k_Mod_unit_20 ?_)))
  · rw [e, show (1 : Int32) = nI 1 from rfl, nI_leI (by omega) (by decide)] at z
    rw [Nat.max_eq_left z] at hq
    exact hq
  · rw [e, show (1 : Int32) = nI 1 from rfl, nI_leI (by omega) (by decide)] at z
    rw [e]
    rw [Nat.max_eq_right (by omega)] at hq
    exact hq
/-! a row's byte, bit by bit -/
def mo_1 (dp : Nat) (sn : Nat → Nat) (N b : Nat) : Nat := if b / dp < N then sn (b / dp) / 2 ^ (dp - 1 - b % dp) % 2 else 0
def mo_v (dp : Nat) (sn : Nat → Nat) (N k : Nat) : Nat → Nat
  | 0 => 0
  | n + 1 => 2 * mo_v dp sn N k n + mo_1 dp sn N (8 * k + n)
theorem mo_1_lt (dp : Nat) (sn : Nat → Nat) (N b : Nat) : mo_1 dp sn N b < 2 := by
  unfold mo_1
  split
  · exact Nat.mod_lt _ (by decide)
  · decide
theorem mo_v_lt (dp : Nat) (sn : Nat → Nat) (N k : Nat) : ∀ n, mo_v dp sn N k n < 2 ^ n
  | 0 => Nat.one_pos
  | n + 1 => by
    have h1 := mo_v_lt dp sn N k n
    have h2 := mo_1_lt dp sn N (8 * k + n)
    unfold mo_v
    rw [Nat.pow_succ]
    omega
theorem mo_tb (v o j : Nat) (ho : o < 2) : (2 * v + o).testBit (j + 1) = v.testBit j := by
  rw [Nat.testBit_succ]
  congr 1
  omega
theorem mo_v_tb (dp : Nat) (sn : Nat → Nat) (N k : Nat) : ∀ n j, j < n → (mo_v dp sn N k n).testBit j = decide (mo_1 dp sn N (8 * k + (n - 1 - j)) = 1)
  | 0, j, h => absurd h (Nat.not_lt_zero j)
  | n + 1, 0, h => by
    have h2 := mo_1_lt dp sn N (8 * k + n)
    unfold mo_v
    rw [Nat.testBit_zero, show n + 1 - 1 - 0 = n by omega]
    congr 1
    apply propext
    constructor <;> intro q <;> omega
  | n + 1, j + 1, h => by
    have h2 := mo_1_lt dp sn N (8 * k + n)
    unfold mo_v
    rw [mo_tb _ _ _ h2, mo_v_tb dp sn N k n j (by omega), show n + 1 - 1 - (j + 1) = n - 1 - j by omega]
/-- the class's way, in naturals -/
def rb_n (dp : Nat) (sn : Nat → Nat) : Nat → Nat → Nat
  | 0, _ => 0
  | m + 1, k => if k = m * dp / 8 then rb_n dp sn m k ||| (sn m <<< (8 - dp - m * dp % 8)) else rb_n dp sn m k
theorem rb_f_n {dp : Nat} (hdp : dp = 1 ∨ dp = 2 ∨ dp = 4 ∨ dp = 8) {s : Nat → Int32} {sn : Nat → Nat} : ∀ (N k : Nat), (∀ m, m < N → s m = nI (sn m) ∧ sn m < 2 ^ dp) → rb_f dp s N k = nI (rb_n dp sn N k) ∧ rb_n dp sn N k < 2 ^ 8
  | 0, _, _ => ⟨rfl, by unfold rb_n; decide⟩
  | N + 1, k, h => by
    obtain ⟨i1, i2⟩ := rb_f_n hdp N k (fun m hm => h m (by omega))
    obtain ⟨j1, j2⟩ := h N (by omega)
    unfold rb_f rb_n
    by_cases e : k = N * dp / 8
    · rw [if_pos e, if_pos e, i1, j1]
      have hs : sn N * 2 ^ (8 - dp - N * dp % 8) < 2 ^ 8 := by
        have h3 : 2 ^ (8 - dp - N * dp % 8) ≤ 2 ^ (8 - dp) := Nat.pow_le_pow_right (by decide) (by omega)
        have h4 : sn N * 2 ^ (8 - dp - N * dp % 8) ≤ (2 ^ dp - 1) * 2 ^ (8 - dp) := Nat.mul_le_mul (by omega) h3
        rcases hdp with rfl | rfl | rfl | rfl <;> omega
      rw [nb_shl (by omega) (by omega), nb_or, Nat.shiftLeft_eq]
      exact ⟨rfl, Nat.or_lt_two_pow i2 hs⟩
    · rw [if_neg e, if_neg e]
      exact ⟨i1, i2⟩
theorem rb_n_tb {dp : Nat} (hdp : dp = 1 ∨ dp = 2 ∨ dp = 4 ∨ dp = 8) {sn : Nat → Nat} : ∀ (N k : Nat), (∀ m, m < N → sn m < 2 ^ dp) → ∀ j, j < 8 → (rb_n dp sn N k).testBit j = decide (mo_1 dp sn N (8 * k + (7 - j)) = 1)
  | 0, k, _, j, _ => by
    unfold rb_n mo_1
    rw [if_neg (Nat.not_lt_zero _)]
    simp
  | N + 1, k, h, j, hj => by
    have ih := rb_n_tb hdp N k (fun m hm => h m (by omega)) j hj
    have hN := h N (by omega)
    have key : mo_1 dp sn (N + 1) (8 * k + (7 - j)) = if (8 * k + (7 - j)) / dp = N then sn N / 2 ^ (dp - 1 - (8 * k + (7 - j)) % dp) % 2 else mo_1 dp sn N (8 * k + (7 - j)) := by
      unfold mo_1
      by_cases e : (8 * k + (7 - j)) / dp = N
      · rw [if_pos e, if_pos (by omega), e]
      · rw [if_neg e]
        by_cases e2 : (8 * k + (7 - j)) / dp < N
        · rw [if_pos e2, if_pos (by omega)]
        · rw [if_neg e2, if_neg (by omega)]
    rw [key]
    unfold rb_n
    by_cases e : k = N * dp / 8
    · rw [if_pos e, Nat.testBit_or, ih, Nat.testBit_shiftLeft]
      by_cases e3 : (8 * k + (7 - j)) / dp = N
      · rw [if_pos e3]
        have e4 : mo_1 dp sn N (8 * k + (7 - j)) = 0 := by
          unfold mo_1
          rw [if_neg (by omega)]
        have e5 : 8 - dp - N * dp % 8 ≤ j := by rcases hdp with rfl | rfl | rfl | rfl <;> omega
        have e6 : j - (8 - dp - N * dp % 8) = dp - 1 - (8 * k + (7 - j)) % dp := by rcases hdp with rfl | rfl | rfl | rfl <;> omega
        rw [e4, e6, Nat.testBit_eq_decide_div_mod_eq]
        simp [e5]
      · rw [if_neg e3]
        have e7 : (decide (8 - dp - N * dp % 8 ≤ j) && (sn N).testBit (j - (8 - dp - N * dp % 8))) = false := by
          by_cases e8 : 8 - dp - N * dp % 8 ≤ j
          · have e9 : (sn N).testBit (j - (8 - dp - N * dp % 8)) = false := by
              apply Nat.testBit_lt_two_pow
              refine Nat.lt_of_lt_of_le hN (Nat.pow_le_pow_right (by decide) ?_)
              rcases hdp with rfl | rfl | rfl | rfl <;> omega
            rw [e9, Bool.and_false]
          · rw [decide_eq_false e8, Bool.false_and]
        rw [show (decide (j ≥ 8 - dp - N * dp % 8) && (sn N).testBit (j - (8 - dp - N * dp % 8))) = false from e7, Bool.or_false]
    · rw [if_neg e, ih]
      by_cases e3 : (8 * k + (7 - j)) / dp = N
      · exfalso
        rcases hdp with rfl | rfl | rfl | rfl <;> omega
      · rw [if_neg e3]
theorem mo_rb {dp : Nat} (hdp : dp = 1 ∨ dp = 2 ∨ dp = 4 ∨ dp = 8) {s : Nat → Int32} {sn : Nat → Nat} {N k : Nat} (h : ∀ m, m < N → s m = nI (sn m) ∧ sn m < 2 ^ dp) : rb_f dp s N k = nI (mo_v dp sn N k 8) := by
  obtain ⟨h1, h2⟩ := rb_f_n hdp N k h
  rw [h1]
  congr 1
  apply Nat.eq_of_testBit_eq
  intro j
  by_cases hj : j < 8
  · rw [rb_n_tb hdp N k (fun m hm => (h m hm).2) j hj, mo_v_tb dp sn N k 8 j hj]
  · have h3 := mo_v_lt dp sn N k 8
    rw [Nat.testBit_lt_two_pow (Nat.lt_of_lt_of_le h2 (Nat.pow_le_pow_right (by decide) (by omega))), Nat.testBit_lt_two_pow (Nat.lt_of_lt_of_le h3 (Nat.pow_le_pow_right (by decide) (by omega)))]
end MOD
