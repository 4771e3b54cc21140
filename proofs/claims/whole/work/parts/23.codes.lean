/-! Codes: the lengths and distances, functions of ints. -/
def cd_lb (x : Int32) : Int32 := if x < 265 then 0 else if x = 285 then 0 else (x - 261) / 4
def cd_ll (x : Int32) : Int32 := if x < 265 then x - 254 else if x = 285 then 258 else 3 + pm_ishl (4 + pm_irem (x - 261) 4) (cd_lb x)
def cd_db (x : Int32) : Int32 := if x < 4 then 0 else x / 2 - 1
def cd_ld (x : Int32) : Int32 := if x < 4 then x + 1 else 1 + pm_ishl (2 + pm_irem x 2) (cd_db x)
def cd_cl (len : Int32) : Nat → Int32 → Int32
  | 0, c => c
  | k + 1, c => if len < cd_ll (c + 1) then c else cd_cl len k (c + 1)
def cd_co (len : Int32) : Int32 := if len = 258 then 285 else cd_cl len 27 257
def cd_dl (dist : Int32) : Nat → Int32 → Int32
  | 0, c => c
  | k + 1, c => if dist < cd_ld (c + 1) then c else cd_dl dist k (c + 1)
def cd_no (dist : Int32) : Int32 := cd_dl dist 29 0
theorem w_Codes_lengthBits {S d : Nat} {Q : pm_Q} {M : pm_M} {x : Int32} (hq : Q (some (.inl (cd_lb x))) M) : pm_PC S (d + 1) 20 [.inl x] M Q := by
  refine e_Codes_lengthBits (k_Codes_lengthBits_0 (fun h => k_Codes_lengthBits_14 (k_Codes_lengthBits_25 ?_)) (fun h => k_Codes_lengthBits_7 (fun h2 => k_Codes_lengthBits_18 (k_Codes_lengthBits_25 ?_)) (fun h2 => k_Codes_lengthBits_14 (k_Codes_lengthBits_25 ?_))))
  · rw [cd_lb, if_pos h] at hq; exact hq
  · rw [cd_lb, if_neg h, if_neg h2] at hq; exact hq
  · rw [cd_lb, if_neg h, if_pos (Classical.not_not.mp h2)] at hq; exact hq
theorem w_Codes_leastLength {S d : Nat} {Q : pm_Q} {M : pm_M} {x : Int32} (hq : Q (some (.inl (cd_ll x))) M) : pm_PC S (d + 2) 21 [.inl x] M Q := by
  refine e_Codes_leastLength (k_Codes_leastLength_0 (fun h => k_Codes_leastLength_13 (fun h2 => k_Codes_leastLength_24 (w_Codes_lengthBits (k_Codes_leastLength_38 ?_))) (fun h2 => k_Codes_leastLength_20 ?_)) (fun h => k_Codes_leastLength_7 ?_))
  · rw [cd_ll, if_neg (Int32.not_lt.mpr h), if_neg h2] at hq; exact hq
  · rw [cd_ll, if_neg (Int32.not_lt.mpr h), if_pos (Classical.not_not.mp h2)] at hq; exact hq
  · rw [cd_ll, if_pos (Int32.not_le.mp h)] at hq; exact hq
theorem w_Codes_distanceBits {S d : Nat} {Q : pm_Q} {M : pm_M} {x : Int32} (hq : Q (some (.inl (cd_db x))) M) : pm_PC S (d + 1) 23 [.inl x] M Q := by
  refine e_Codes_distanceBits (k_Codes_distanceBits_0 (fun h => k_Codes_distanceBits_9 (k_Codes_distanceBits_14 ?_)) (fun h => k_Codes_distanceBits_5 (k_Codes_distanceBits_14 ?_)))
  · rw [cd_db, if_neg (Int32.not_lt.mpr h)] at hq; exact hq
  · rw [cd_db, if_pos (Int32.not_le.mp h)] at hq; exact hq
theorem w_Codes_leastDistance {S d : Nat} {Q : pm_Q} {M : pm_M} {x : Int32} (hq : Q (some (.inl (cd_ld x))) M) : pm_PC S (d + 2) 24 [.inl x] M Q := by
  refine e_Codes_leastDistance (k_Codes_leastDistance_0 (fun h => k_Codes_leastDistance_11 (w_Codes_distanceBits (k_Codes_leastDistance_21 (k_Codes_leastDistance_23 ?_)))) (fun h => k_Codes_leastDistance_5 (k_Codes_leastDistance_23 ?_)))
  · rw [cd_ld, if_neg (Int32.not_lt.mpr h)] at hq; exact hq
  · rw [cd_ld, if_pos (Int32.not_le.mp h)] at hq; exact hq
theorem w_cl_loop {S d : Nat} {Q : pm_Q} {M : pm_M} {x : Int32} : ∀ (k : Nat), k ≤ 27 → Q (some (.inl (cd_cl x k (nI (284 - k))))) M → pm_R S (pm_PC S (d + 2)) Q 22 15 [some (.inl x), some (.inl (nI (284 - k)))] [] M := by
  intro k
  induction k with
  | zero => intro _ hq; exact k_Codes_codeOfLength_15 (fun _ => k_Codes_codeOfLength_38 hq) (fun h => absurd (by decide) h)
  | succ k ih =>
    intro hk hq
    have e1 : nI (284 - (k + 1)) + 1 = nI (284 - k) := by rw [nI_1]; congr 1; omega
    rw [cd_cl, e1] at hq
    refine k_Codes_codeOfLength_15 (fun h => absurd h (nI_ge (a := 284 - (k + 1)) (b := 284) (by omega) (by decide))) (fun _ => k_Codes_codeOfLength_22 ?_)
    rw [e1]
    refine w_Codes_leastLength (k_Codes_codeOfLength_28 (fun h => k_Codes_codeOfLength_38 ?_) (fun h => k_Codes_codeOfLength_32 ?_))
    · rw [if_pos h] at hq; exact hq
    · rw [if_neg h] at hq
      rw [e1]
      exact ih (by omega) hq
theorem w_Codes_codeOfLength {S d : Nat} {Q : pm_Q} {M : pm_M} {x : Int32} (hq : Q (some (.inl (cd_co x))) M) : pm_PC S (d + 3) 22 [.inl x] M Q := by
  refine e_Codes_codeOfLength (k_Codes_codeOfLength_0 (fun h => k_Codes_codeOfLength_11 ?_) (fun h => k_Codes_codeOfLength_7 ?_))
  · rw [cd_co, if_neg h] at hq
    exact w_cl_loop 27 (by decide) hq
  · rw [cd_co, if_pos (Classical.not_not.mp h)] at hq
    exact hq
theorem w_dl_loop {S d : Nat} {Q : pm_Q} {M : pm_M} {x : Int32} : ∀ (k : Nat), k ≤ 29 → Q (some (.inl (cd_dl x k (nI (29 - k))))) M → pm_R S (pm_PC S (d + 2)) Q 25 2 [some (.inl x), some (.inl (nI (29 - k)))] [] M := by
  intro k
  induction k with
  | zero => intro _ hq; exact k_Codes_numberOfDistance_2 (fun _ => k_Codes_numberOfDistance_24 hq) (fun h => absurd (by decide) h)
  | succ k ih =>
    intro hk hq
    have e1 : nI (29 - (k + 1)) + 1 = nI (29 - k) := by rw [nI_1]; congr 1; omega
    rw [cd_dl, e1] at hq
    refine k_Codes_numberOfDistance_2 (fun h => absurd h (nI_ge (a := 29 - (k + 1)) (b := 29) (by omega) (by decide))) (fun _ => k_Codes_numberOfDistance_8 ?_)
    rw [e1]
    refine w_Codes_leastDistance (k_Codes_numberOfDistance_14 (fun h => k_Codes_numberOfDistance_24 ?_) (fun h => k_Codes_numberOfDistance_18 ?_))
    · rw [if_pos h] at hq; exact hq
    · rw [if_neg h] at hq
      rw [e1]
      exact ih (by omega) hq
theorem w_Codes_numberOfDistance {S d : Nat} {Q : pm_Q} {M : pm_M} {x : Int32} (hq : Q (some (.inl (cd_no x))) M) : pm_PC S (d + 3) 25 [.inl x] M Q :=
  e_Codes_numberOfDistance (k_Codes_numberOfDistance_0 (w_dl_loop 29 (by decide) hq))
