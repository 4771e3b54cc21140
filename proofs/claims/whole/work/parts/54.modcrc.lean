/-! SevenPassImageModel: CHECK and SUM, four bytes of a number. -/
theorem bv_ext {x y : BitVec 32} (h : ∀ i, i < 32 → x.getLsbD i = y.getLsbD i) : x = y := BitVec.eq_of_getLsbD_eq h
def bc_1 (v : BitVec 32) : BitVec 32 := (v >>> 1) ^^^ (if v.getLsbD 0 then 0xEDB88320#32 else 0#32)
def bc_n : Nat → BitVec 32 → BitVec 32
  | 0, x => x
  | n + 1, x => bc_n n (bc_1 x)
theorem bc_1_lin (a b : BitVec 32) : bc_1 (a ^^^ b) = bc_1 a ^^^ bc_1 b := by
  unfold bc_1
  rw [BitVec.ushiftRight_xor_distrib, BitVec.getLsbD_xor]
  apply bv_ext
  intro i hi
  simp only [BitVec.getLsbD_xor]
  generalize (a >>> 1).getLsbD i = A
  generalize (b >>> 1).getLsbD i = B
  cases a.getLsbD 0 <;> cases b.getLsbD 0 <;> simp <;> generalize (0xEDB88320#32).getLsbD i = P <;> cases A <;> cases B <;> cases P <;> rfl
theorem bc_n_lin : ∀ n (a b : BitVec 32), bc_n n (a ^^^ b) = bc_n n a ^^^ bc_n n b
  | 0, _, _ => rfl
  | n + 1, a, b => by
    show bc_n n (bc_1 (a ^^^ b)) = _
    rw [bc_1_lin, bc_n_lin n]
    rfl
theorem bc_n_sh (z : BitVec 32) (hz : ∀ i, i < 8 → z.getLsbD i = false) : ∀ n j, j + n ≤ 8 → bc_n n (z >>> j) = z >>> (j + n)
  | 0, _, _ => rfl
  | n + 1, j, h => by
    have e : bc_1 (z >>> j) = z >>> (j + 1) := by
      unfold bc_1
      rw [BitVec.getLsbD_ushiftRight, Nat.add_zero, hz j (by omega), BitVec.shiftRight_add]
      simp
    show bc_n n (bc_1 (z >>> j)) = _
    rw [e, bc_n_sh z hz n (j + 1) (by omega)]
    congr 1
    omega
theorem us_1 (x : Int32) : (pm_iushr x 1).toBitVec = x.toBitVec >>> 1 := BitVec.eq_of_toNat_eq (by
  rw [BitVec.toNat_ushiftRight, Nat.shiftRight_eq_div_pow]
  exact pk_ushr x 1 1 (by decide))
theorem us_8 (x : Int32) : (pm_iushr x 8).toBitVec = x.toBitVec >>> 8 := BitVec.eq_of_toNat_eq (by
  rw [BitVec.toNat_ushiftRight, Nat.shiftRight_eq_div_pow]
  exact pk_ushr x 8 8 (by decide))
theorem cr_1_bv (x : Int32) : (cr_1 x).toBitVec = bc_1 x.toBitVec := by
  have hb : x.toBitVec.getLsbD 0 = decide (x.toBitVec.toNat % 2 = 1) := by
    unfold BitVec.getLsbD
    rw [Nat.testBit_zero]
  have h1 : x &&& 1 = nI (x.toBitVec.toNat % 2) := pk_and x 1 (by decide)
  unfold cr_1 bc_1
  have hm : x.toBitVec.toNat % 2 = 0 ∨ x.toBitVec.toNat % 2 = 1 := by omega
  rcases hm with hm | hm
  · rw [h1, hb, hm, if_neg (by decide), us_1]
    simp
  · rw [h1, hb, hm, if_pos (by decide), Int32.toBitVec_xor, us_1]
    simp
theorem cr_n_bv : ∀ n (x : Int32), (cr_n n x).toBitVec = bc_n n x.toBitVec
  | 0, _ => rfl
  | n + 1, x => by
    show (cr_n n (cr_1 x)).toBitVec = bc_n n (bc_1 x.toBitVec)
    rw [cr_n_bv n, cr_1_bv]
theorem bm_hi : ∀ i, i < 32 → (0xffffff00#32).getLsbD i = decide (8 ≤ i) ∧ (255#32).getLsbD i = decide (i < 8) := by decide +kernel
theorem bc_split (c x : BitVec 32) : bc_n 8 (c ^^^ x) = bc_n 8 ((c &&& 255#32) ^^^ x) ^^^ (c >>> 8) := by
  have e1 : c ^^^ x = ((c &&& 255#32) ^^^ x) ^^^ (c &&& 0xffffff00#32) := by
    apply bv_ext
    intro i hi
    simp only [BitVec.getLsbD_xor, BitVec.getLsbD_and]
    rw [(bm_hi i hi).1, (bm_hi i hi).2]
    by_cases h : i < 8
    · rw [decide_eq_true h, decide_eq_false (by omega)]
      cases c.getLsbD i <;> cases x.getLsbD i <;> rfl
    · rw [decide_eq_false h, decide_eq_true (by omega)]
      cases c.getLsbD i <;> cases x.getLsbD i <;> rfl
  have e2 : bc_n 8 (c &&& 0xffffff00#32) = c >>> 8 := by
    have h := bc_n_sh (c &&& 0xffffff00#32) (fun i hi => by rw [BitVec.getLsbD_and, (bm_hi i (by omega)).1, decide_eq_false (by omega), Bool.and_false]) 8 0 (by decide)
    rw [BitVec.ushiftRight_zero] at h
    rw [h]
    apply bv_ext
    intro i hi
    rw [BitVec.getLsbD_ushiftRight, BitVec.getLsbD_ushiftRight, BitVec.getLsbD_and]
    by_cases h2 : 0 + 8 + i < 32
    · rw [(bm_hi _ h2).1, decide_eq_true (by omega), Bool.and_true]
    · rw [BitVec.getLsbD_of_ge c _ (by omega), Bool.false_and]
  rw [e1, bc_n_lin, e2]
theorem by_255 {x : Int32} (h : ∃ n : Nat, n < 256 ∧ x = nI n) : x &&& 255 = x := by
  obtain ⟨n, hn, rfl⟩ := h
  rw [pk_andN (by omega) 8 (by decide), Nat.mod_eq_of_lt hn]
theorem cr_b_mo {c x : Int32} (hx : ∃ n : Nat, n < 256 ∧ x = nI n) : cr_n 8 ((c &&& 255) ^^^ x) ^^^ pm_iushr c 8 = cr_b c x := by
  unfold cr_b
  rw [by_255 hx]
  apply Int32.toBitVec_inj.mp
  rw [Int32.toBitVec_xor, cr_n_bv, cr_n_bv, us_8, Int32.toBitVec_xor, Int32.toBitVec_xor, Int32.toBitVec_and]
  exact (bc_split _ _).symm
section MOD
variable {S d : Nat} {Q : pm_Q} {M : pm_M}
theorem w_sh_loop {l0 : Int32} : ∀ (k i : Nat) (v : Int32), i + k = 8 → Q (some (.inl (cr_n k v))) M → pm_R S (pm_PC S d) Q 115 4 [some (.inl l0), some (.inl v), some (.inl (nI i))] [] M := by
  intro k
  induction k with
  | zero =>
    intro i v hi hq
    have e : i = 8 := by omega
    subst e
    exact k_Mod_shifted_4 (fun _ => k_Mod_shifted_36 hq) (fun z => absurd (by decide) z)
  | succ k ih =>
    intro i v hi hq
    have hq : Q (some (.inl (cr_n k (cr_1 v)))) M := hq
    unfold cr_1 at hq
    refine k_Mod_shifted_4 (fun z => absurd z (nI_ge (b := 8) (by omega) (by decide))) (fun _ => k_Mod_shifted_10 (fun z => k_Mod_shifted_26 (k_Mod_shifted_29 ?_)) (fun z => k_Mod_shifted_17 (k_Mod_shifted_29 ?_)))
    · rw [if_neg z] at hq
      rw [nI_1]
      exact ih (i + 1) _ (by omega) hq
    · rw [if_pos (Classical.not_not.mp z)] at hq
      rw [nI_1]
      exact ih (i + 1) _ (by omega) hq
theorem w_Mod_shifted {v : Int32} (hq : Q (some (.inl (cr_n 8 v))) M) : pm_PC S (d + 1) 115 [.inl v] M Q :=
  e_Mod_shifted (k_Mod_shifted_0 (w_sh_loop 8 0 v (by decide) hq))
theorem w_ck_loop {F : List Int32} {x1 : Option pm_V} {j : Nat} (hF : mo_f M F) (hb : fx_b F) (hj : j ≤ F.length) : ∀ (k i : Nat) (v : Int32), i + k = j → Q (some (.inl ((by_sl F i k).foldl cr_b v ^^^ (-1)))) M → pm_R S (pm_PC S (d + 1)) Q 116 5 [some (.inr (.inr 19)), x1, some (.inl (nI j)), some (.inl v), some (.inl (nI i))] [] M := by
  have h700 := hF.2.1
  intro k
  induction k with
  | zero =>
    intro i v hi hq
    have e : i = j := by omega
    subst e
    exact k_Mod_check_5 (fun _ => k_Mod_check_39 (by rw [by_sl_0] at hq; exact hq)) (fun z => absurd (nI_le (Nat.le_refl _) (by omega)) z)
  | succ k ih =>
    intro i v hi hq
    have hi2 : i < F.length := by omega
    refine k_Mod_check_5 (fun z => absurd z (nI_ge (by omega) (by omega))) (fun _ => k_Mod_check_11 (vp_in_nI (by omega) (by decide)) ?_)
    rw [nI_clamp (by omega), hF.at hi2, List.getElem?_eq_getElem hi2, Option.getD_some]
    refine w_Mod_shifted (k_Mod_check_27 ?_)
    rw [cr_b_mo (hb i _ (List.getElem?_eq_getElem hi2)), nI_1]
    rw [by_sl_succ hi2] at hq
    exact ih (i + 1) _ (by omega) hq
theorem w_Mod_check {F : List Int32} {i j : Nat} (hF : mo_f M F) (hb : fx_b F) (hij : i ≤ j) (hj : j ≤ F.length) (hq : Q (some (.inl (cr_l (by_sl F i (j - i))))) M) : pm_PC S (d + 2) 116 [.inr (.inr 19), .inl (nI i), .inl (nI j)] M Q :=
  e_Mod_check (k_Mod_check_0 (w_ck_loop hF hb hj (j - i) i (-1) (by omega) hq))
/-! SUM -/
theorem i64_of {v : Nat} (h : v < 2 ^ 31) : (nI v).toInt64 = Int64.ofNat v := by
  apply Int64.toInt_inj.mp
  rw [Int32.toInt_toInt64, nI_toInt h, Int64.toInt_ofNat_of_lt (by omega)]
theorem i64_rem {a m : Nat} (ha : a < 2 ^ 62) (h0 : 0 < m) (hm : m < 2 ^ 62) : pm_lrem (Int64.ofNat a) (Int64.ofNat m) = Int64.ofNat (a % m) := by
  unfold pm_lrem
  have h1 : a / m * m ≤ a := Nat.div_mul_le_self a m
  rw [← Int64.ofNat_div (by omega) (by omega), ← Int64.ofNat_mul, ← Int64.ofNat_sub _ _ h1]
  congr 1
  have := Nat.div_add_mod a m
  rw [Nat.mul_comm] at this
  omega
/-- the two sums, in naturals -/
def sn_s (p : Nat × Nat) (x : Int32) : Nat × Nat := (p.1 + x.toNatClampNeg, p.2 + (p.1 + x.toNatClampNeg))
theorem sn_su {x : Int32} (hx : ∃ n : Nat, n < 256 ∧ x = nI n) {p : Nat × Nat} (h1 : p.1 < 2 ^ 30) (h2 : p.2 < 2 ^ 30) : su_s (nI (p.1 % 65521), nI (p.2 % 65521)) x = (nI ((sn_s p x).1 % 65521), nI ((sn_s p x).2 % 65521)) := by
  obtain ⟨n, hn, rfl⟩ := hx
  unfold su_s sn_s
  rw [nI_clamp (by omega)]
  have hr : ∀ a : Nat, a < 2 ^ 31 → pm_irem (nI a) 65521 = nI (a % 65521) := fun a ha => pk_rem (d := 65521) ha (by decide) (by decide)
  have e1 : pm_irem (nI (p.1 % 65521) + nI n) 65521 = nI ((p.1 + n) % 65521) := by
    rw [nI_add, hr _ (by omega)]
    congr 1
    omega
  have e2 : pm_irem (nI (p.2 % 65521) + nI ((p.1 + n) % 65521)) 65521 = nI ((p.2 + (p.1 + n)) % 65521) := by
    rw [nI_add, hr _ (by omega)]
    congr 1
    omega
  show (pm_irem (nI (p.1 % 65521) + nI n) 65521, pm_irem (nI (p.2 % 65521) + pm_irem (nI (p.1 % 65521) + nI n) 65521) 65521) = _
  rw [e1, e2]
theorem w_sm_loop {D : List Int32} (hD : mo_d M D) (hb : fx_b D) : ∀ (k i : Nat) (p : Nat × Nat), i + k = D.length → p.1 ≤ 1 + 256 * i → p.2 ≤ 100000 * i → Q (some (.inl (pm_ishl ((by_sl D i k).foldl su_s (nI (p.1 % 65521), nI (p.2 % 65521))).2 16 ||| ((by_sl D i k).foldl su_s (nI (p.1 % 65521), nI (p.2 % 65521))).1))) M → pm_R S (pm_PC S d) Q 117 7 [some (.inr (.inr 19)), some (.inr (.inl (Int64.ofNat p.1))), none, some (.inr (.inl (Int64.ofNat p.2))), none, some (.inl (nI i))] [] M := by
  have h300 := hD.2.1
  intro k
  induction k with
  | zero =>
    intro i p hi hp1 hp2 hq
    have e : i = D.length := by omega
    refine k_Mod_sum_7 (fun _ => k_Mod_sum_37 ?_) (fun z => absurd ?_ z)
    · rw [show (65521 : Int64) = Int64.ofNat 65521 from rfl, i64_rem (by omega) (by decide) (by decide), i64_rem (by omega) (by decide) (by decide), show (65536 : Int64) = Int64.ofNat 65536 from rfl, ← Int64.ofNat_mul, ← Int64.ofNat_add, Int64.toInt32_ofNat']
      rw [by_sl_0] at hq
      have e2 : pm_ishl (nI (p.2 % 65521)) 16 ||| nI (p.1 % 65521) = Int32.ofNat (p.1 % 65521 + p.2 % 65521 * 65536) := by
        rw [show (16 : Int32) = nI 16 from rfl, nb_shl (by decide) (by omega), nb_or]
        show nI _ = nI _
        congr 1
        rw [Nat.mul_comm (p.2 % 65521), ← Nat.two_pow_add_eq_or_of_lt (show p.1 % 65521 < 2 ^ 16 by omega)]
        omega
      rw [← e2]
      exact hq
    · rw [hD.1, e]
      exact nI_le (Nat.le_refl _) (by omega)
  | succ k ih =>
    intro i p hi hp1 hp2 hq
    have hi2 : i < D.length := by omega
    have hx := hb i _ (List.getElem?_eq_getElem hi2)
    refine k_Mod_sum_7 (fun z => absurd (by rw [hD.1] at z; exact z) (nI_ge (by omega) (by omega))) (fun _ => k_Mod_sum_16 (vp_in_nI (by omega) (by decide)) ?_)
    rw [nI_clamp (by omega), hD.at hi2, List.getElem?_eq_getElem hi2, Option.getD_some]
    rw [by_sl_succ hi2, List.foldl_cons, sn_su hx (by omega) (by omega)] at hq
    obtain ⟨n, hn, en⟩ := hx
    have ec : (D[i]).toNatClampNeg = n := by rw [en]; exact nI_clamp (by omega)
    have e64 : (D[i]).toInt64 = Int64.ofNat (D[i]).toNatClampNeg := by rw [ec, en, i64_of (by omega)]
    rw [e64, ← Int64.ofNat_add, ← Int64.ofNat_add, nI_1]
    refine ih (i + 1) (sn_s p D[i]) (by omega) ?_ ?_ hq
    · show p.1 + (D[i]).toNatClampNeg ≤ _
      omega
    · show p.2 + (p.1 + (D[i]).toNatClampNeg) ≤ _
      omega
theorem w_Mod_sum {D : List Int32} (hD : mo_d M D) (hb : fx_b D) (hq : Q (some (.inl (su_l D))) M) : pm_PC S (d + 1) 117 [.inr (.inr 19)] M Q := by
  refine e_Mod_sum (k_Mod_sum_0 (w_sm_loop hD hb D.length 0 (1, 0) (by omega) (by decide) (by decide) ?_))
  have e : by_sl D 0 D.length = D := by simp [by_sl]
  rw [e]
  exact hq
theorem w_Mod_put4 {F : List Int32} {v : Int32} (hF : mo_f M F) (hc : F.length + 4 ≤ 700) (hq : ∀ M', mo_f M' (F ++ by_be v) → mo_ag [6] [22] M M' → Q none M') : pm_PC S (d + 2) 119 [.inr (.inr 19), .inl v] M Q := by
  refine e_Mod_put4 (k_Mod_put4_0 (w_Mod_put hF (by omega) (fun M1 f1 j1 a1 => k_Mod_put4_8 ?_)))
  refine w_Mod_put f1 (by simp; omega) (fun M2 f2 j2 a2 => k_Mod_put4_16 ?_)
  refine w_Mod_put f2 (by simp; omega) (fun M3 f3 j3 a3 => k_Mod_put4_24 ?_)
  refine w_Mod_put f3 (by simp; omega) (fun M4 f4 j4 a4 => k_Mod_put4_29 (hq M4 ?_ ?_))
  · have e0 : pm_iushr v 0 &&& 255 = v &&& 255 := by
      congr 1
    unfold by_be
    rw [e0]
    simpa using f4
  · have cv : ∀ {N N' : pm_M}, (∀ j, j ≠ 6 → N' 19 j = N 19 j) → pm_ag [19, 22] N N' → mo_ag [6] [22] N N' := fun h1 h2 => ⟨h2, fun j hj => h1 j (fun e => hj (by rw [e]; simp))⟩
    exact (((cv j1 a1).tr (cv j2 a2)).tr (cv j3 a3)).tr (cv j4 a4)
end MOD
