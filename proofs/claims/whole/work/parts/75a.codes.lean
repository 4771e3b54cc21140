/-! Every word that the machine and the constructors need stands in the table: by its place. Printed by tblwords.py. -/
def tb_k : List Cond → List Nat → Bool
  | [], [] => true
  | w :: ws, i :: is => decide (lw_tbl[i]? = some w) && tb_k ws is
  | _, _ => false
theorem tb_s : ∀ {ws : List Cond} {is : List Nat}, tb_k ws is = true → ∀ w ∈ ws, w ∈ lw_tbl
  | [], _, _, _, h => absurd h List.not_mem_nil
  | w :: ws, [], h, _, _ => by simp [tb_k] at h
  | w :: ws, i :: is, h, v, hv => by
    simp only [tb_k, Bool.and_eq_true, decide_eq_true_eq] at h
    rcases List.mem_cons.mp hv with e | e
    · subst e
      exact List.mem_of_getElem? h.1
    · exact tb_s h.2 v e
theorem tb_r1 {w : Cond} (h : w ∈ tables_1_1) : w ∈ lw_tbl := List.mem_append_right _ (List.mem_append_left _ h)
theorem tb_r2 {w : Cond} (h : w ∈ tables_1_2) : w ∈ lw_tbl := List.mem_append_right _ (List.mem_append_right _ (List.mem_append_left _ h))
theorem tb_r3 {w : Cond} (h : w ∈ tables_1_3) : w ∈ lw_tbl := List.mem_append_right _ (List.mem_append_right _ (List.mem_append_right _ (List.mem_append_left _ h)))
theorem tb_r4 {w : Cond} (h : w ∈ tables_1_4) : w ∈ lw_tbl := List.mem_append_right _ (List.mem_append_right _ (List.mem_append_right _ (List.mem_append_right _ h)))
theorem tb_c0 : Cond.code (pm_y 0) (pm_b 0) (pm_ml 0) (pm_rt 0) ∈ lw_tbl := (tb_r1 (List.mem_of_getElem? (i := 208) rfl))
theorem tb_c1 : Cond.code (pm_y 1) (pm_b 1) (pm_ml 1) (pm_rt 1) ∈ lw_tbl := (tb_r2 (List.mem_of_getElem? (i := 114) rfl))
theorem tb_c2 : Cond.code (pm_y 2) (pm_b 2) (pm_ml 2) (pm_rt 2) ∈ lw_tbl := (tb_r2 (List.mem_of_getElem? (i := 88) rfl))
theorem tb_c3 : Cond.code (pm_y 3) (pm_b 3) (pm_ml 3) (pm_rt 3) ∈ lw_tbl := (tb_r2 (List.mem_of_getElem? (i := 118) rfl))
theorem tb_c4 : Cond.code (pm_y 4) (pm_b 4) (pm_ml 4) (pm_rt 4) ∈ lw_tbl := (tb_r3 (List.mem_of_getElem? (i := 114) rfl))
theorem tb_c5 : Cond.code (pm_y 5) (pm_b 5) (pm_ml 5) (pm_rt 5) ∈ lw_tbl := (tb_r2 (List.mem_of_getElem? (i := 10) rfl))
theorem tb_c6 : Cond.code (pm_y 6) (pm_b 6) (pm_ml 6) (pm_rt 6) ∈ lw_tbl := (tb_r2 (List.mem_of_getElem? (i := 224) rfl))
theorem tb_c7 : Cond.code (pm_y 7) (pm_b 7) (pm_ml 7) (pm_rt 7) ∈ lw_tbl := (tb_r2 (List.mem_of_getElem? (i := 172) rfl))
theorem tb_c8 : Cond.code (pm_y 8) (pm_b 8) (pm_ml 8) (pm_rt 8) ∈ lw_tbl := (tb_r3 (List.mem_of_getElem? (i := 126) rfl))
theorem tb_c9 : Cond.code (pm_y 9) (pm_b 9) (pm_ml 9) (pm_rt 9) ∈ lw_tbl := (tb_r2 (List.mem_of_getElem? (i := 202) rfl))
theorem tb_c10 : Cond.code (pm_y 10) (pm_b 10) (pm_ml 10) (pm_rt 10) ∈ lw_tbl := (tb_r2 (List.mem_of_getElem? (i := 195) rfl))
theorem tb_c11 : Cond.code (pm_y 11) (pm_b 11) (pm_ml 11) (pm_rt 11) ∈ lw_tbl := (tb_r2 (List.mem_of_getElem? (i := 167) rfl))
theorem tb_c12 : Cond.code (pm_y 12) (pm_b 12) (pm_ml 12) (pm_rt 12) ∈ lw_tbl := (tb_r2 (List.mem_of_getElem? (i := 105) rfl))
theorem tb_c13 : Cond.code (pm_y 13) (pm_b 13) (pm_ml 13) (pm_rt 13) ∈ lw_tbl := (tb_r2 (List.mem_of_getElem? (i := 109) rfl))
theorem tb_c14 : Cond.code (pm_y 14) (pm_b 14) (pm_ml 14) (pm_rt 14) ∈ lw_tbl := (tb_r2 (List.mem_of_getElem? (i := 122) rfl))
theorem tb_c15 : Cond.code (pm_y 15) (pm_b 15) (pm_ml 15) (pm_rt 15) ∈ lw_tbl := (tb_r2 (List.mem_of_getElem? (i := 150) rfl))
theorem tb_c16 : Cond.code (pm_y 16) (pm_b 16) (pm_ml 16) (pm_rt 16) ∈ lw_tbl := (tb_r3 (List.mem_of_getElem? (i := 14) rfl))
theorem tb_c17 : Cond.code (pm_y 17) (pm_b 17) (pm_ml 17) (pm_rt 17) ∈ lw_tbl := (tb_r3 (List.mem_of_getElem? (i := 22) rfl))
theorem tb_c18 : Cond.code (pm_y 18) (pm_b 18) (pm_ml 18) (pm_rt 18) ∈ lw_tbl := (tb_r3 (List.mem_of_getElem? (i := 48) rfl))
theorem tb_c19 : Cond.code (pm_y 19) (pm_b 19) (pm_ml 19) (pm_rt 19) ∈ lw_tbl := (tb_r3 (List.mem_of_getElem? (i := 31) rfl))
theorem tb_c20 : Cond.code (pm_y 20) (pm_b 20) (pm_ml 20) (pm_rt 20) ∈ lw_tbl := (tb_r2 (List.mem_of_getElem? (i := 142) rfl))
theorem tb_c21 : Cond.code (pm_y 21) (pm_b 21) (pm_ml 21) (pm_rt 21) ∈ lw_tbl := (tb_r2 (List.mem_of_getElem? (i := 139) rfl))
theorem tb_c22 : Cond.code (pm_y 22) (pm_b 22) (pm_ml 22) (pm_rt 22) ∈ lw_tbl := (tb_r2 (List.mem_of_getElem? (i := 136) rfl))
theorem tb_c23 : Cond.code (pm_y 23) (pm_b 23) (pm_ml 23) (pm_rt 23) ∈ lw_tbl := (tb_r2 (List.mem_of_getElem? (i := 161) rfl))
theorem tb_c24 : Cond.code (pm_y 24) (pm_b 24) (pm_ml 24) (pm_rt 24) ∈ lw_tbl := (tb_r2 (List.mem_of_getElem? (i := 158) rfl))
theorem tb_c25 : Cond.code (pm_y 25) (pm_b 25) (pm_ml 25) (pm_rt 25) ∈ lw_tbl := (tb_r2 (List.mem_of_getElem? (i := 155) rfl))
theorem tb_c26 : Cond.code (pm_y 26) (pm_b 26) (pm_ml 26) (pm_rt 26) ∈ lw_tbl := (tb_r1 (List.mem_of_getElem? (i := 198) rfl))
theorem tb_c27 : Cond.code (pm_y 27) (pm_b 27) (pm_ml 27) (pm_rt 27) ∈ lw_tbl := (tb_r1 (List.mem_of_getElem? (i := 201) rfl))
theorem tb_c28 : Cond.code (pm_y 28) (pm_b 28) (pm_ml 28) (pm_rt 28) ∈ lw_tbl := (tb_r1 (List.mem_of_getElem? (i := 205) rfl))
theorem tb_c29 : Cond.code (pm_y 29) (pm_b 29) (pm_ml 29) (pm_rt 29) ∈ lw_tbl := (tb_r1 (List.mem_of_getElem? (i := 229) rfl))
theorem tb_c30 : Cond.code (pm_y 30) (pm_b 30) (pm_ml 30) (pm_rt 30) ∈ lw_tbl := (tb_r1 (List.mem_of_getElem? (i := 225) rfl))
theorem tb_c31 : Cond.code (pm_y 31) (pm_b 31) (pm_ml 31) (pm_rt 31) ∈ lw_tbl := (tb_r1 (List.mem_of_getElem? (i := 237) rfl))
theorem tb_c32 : Cond.code (pm_y 32) (pm_b 32) (pm_ml 32) (pm_rt 32) ∈ lw_tbl := (tb_r1 (List.mem_of_getElem? (i := 221) rfl))
theorem tb_c33 : Cond.code (pm_y 33) (pm_b 33) (pm_ml 33) (pm_rt 33) ∈ lw_tbl := (tb_r2 (List.mem_of_getElem? (i := 16) rfl))
theorem tb_c34 : Cond.code (pm_y 34) (pm_b 34) (pm_ml 34) (pm_rt 34) ∈ lw_tbl := (tb_r2 (List.mem_of_getElem? (i := 13) rfl))
theorem tb_c35 : Cond.code (pm_y 35) (pm_b 35) (pm_ml 35) (pm_rt 35) ∈ lw_tbl := (tb_r2 (List.mem_of_getElem? (i := 24) rfl))
theorem tb_c36 : Cond.code (pm_y 36) (pm_b 36) (pm_ml 36) (pm_rt 36) ∈ lw_tbl := (tb_r2 (List.mem_of_getElem? (i := 20) rfl))
theorem tb_c37 : Cond.code (pm_y 37) (pm_b 37) (pm_ml 37) (pm_rt 37) ∈ lw_tbl := (tb_r2 (List.mem_of_getElem? (i := 40) rfl))
theorem tb_c38 : Cond.code (pm_y 38) (pm_b 38) (pm_ml 38) (pm_rt 38) ∈ lw_tbl := (tb_r2 (List.mem_of_getElem? (i := 44) rfl))
theorem tb_c39 : Cond.code (pm_y 39) (pm_b 39) (pm_ml 39) (pm_rt 39) ∈ lw_tbl := (tb_r2 (List.mem_of_getElem? (i := 36) rfl))
theorem tb_c40 : Cond.code (pm_y 40) (pm_b 40) (pm_ml 40) (pm_rt 40) ∈ lw_tbl := (tb_r2 (List.mem_of_getElem? (i := 92) rfl))
theorem tb_c41 : Cond.code (pm_y 41) (pm_b 41) (pm_ml 41) (pm_rt 41) ∈ lw_tbl := (tb_r2 (List.mem_of_getElem? (i := 52) rfl))
theorem tb_c42 : Cond.code (pm_y 42) (pm_b 42) (pm_ml 42) (pm_rt 42) ∈ lw_tbl := (tb_r3 (List.mem_of_getElem? (i := 79) rfl))
theorem tb_c43 : Cond.code (pm_y 43) (pm_b 43) (pm_ml 43) (pm_rt 43) ∈ lw_tbl := (tb_r2 (List.mem_of_getElem? (i := 71) rfl))
theorem tb_c44 : Cond.code (pm_y 44) (pm_b 44) (pm_ml 44) (pm_rt 44) ∈ lw_tbl := (tb_r2 (List.mem_of_getElem? (i := 74) rfl))
theorem tb_c45 : Cond.code (pm_y 45) (pm_b 45) (pm_ml 45) (pm_rt 45) ∈ lw_tbl := (tb_r2 (List.mem_of_getElem? (i := 67) rfl))
theorem tb_c46 : Cond.code (pm_y 46) (pm_b 46) (pm_ml 46) (pm_rt 46) ∈ lw_tbl := (tb_r2 (List.mem_of_getElem? (i := 63) rfl))
theorem tb_c47 : Cond.code (pm_y 47) (pm_b 47) (pm_ml 47) (pm_rt 47) ∈ lw_tbl := (tb_r2 (List.mem_of_getElem? (i := 84) rfl))
theorem tb_c48 : Cond.code (pm_y 48) (pm_b 48) (pm_ml 48) (pm_rt 48) ∈ lw_tbl := (tb_r3 (List.mem_of_getElem? (i := 74) rfl))
theorem tb_c49 : Cond.code (pm_y 49) (pm_b 49) (pm_ml 49) (pm_rt 49) ∈ lw_tbl := (tb_r2 (List.mem_of_getElem? (i := 5) rfl))
theorem tb_c50 : Cond.code (pm_y 50) (pm_b 50) (pm_ml 50) (pm_rt 50) ∈ lw_tbl := (tb_r3 (List.mem_of_getElem? (i := 64) rfl))
theorem tb_c51 : Cond.code (pm_y 51) (pm_b 51) (pm_ml 51) (pm_rt 51) ∈ lw_tbl := (tb_r3 (List.mem_of_getElem? (i := 70) rfl))
theorem tb_c52 : Cond.code (pm_y 52) (pm_b 52) (pm_ml 52) (pm_rt 52) ∈ lw_tbl := (tb_r2 (List.mem_of_getElem? (i := 99) rfl))
theorem tb_c53 : Cond.code (pm_y 53) (pm_b 53) (pm_ml 53) (pm_rt 53) ∈ lw_tbl := (tb_r2 (List.mem_of_getElem? (i := 127) rfl))
theorem tb_c54 : Cond.code (pm_y 54) (pm_b 54) (pm_ml 54) (pm_rt 54) ∈ lw_tbl := (tb_r2 (List.mem_of_getElem? (i := 133) rfl))
theorem tb_c55 : Cond.code (pm_y 55) (pm_b 55) (pm_ml 55) (pm_rt 55) ∈ lw_tbl := (tb_r2 (List.mem_of_getElem? (i := 146) rfl))
theorem tb_c56 : Cond.code (pm_y 56) (pm_b 56) (pm_ml 56) (pm_rt 56) ∈ lw_tbl := (tb_r3 (List.mem_of_getElem? (i := 2) rfl))
theorem tb_c57 : Cond.code (pm_y 57) (pm_b 57) (pm_ml 57) (pm_rt 57) ∈ lw_tbl := (tb_r3 (List.mem_of_getElem? (i := 10) rfl))
theorem tb_c58 : Cond.code (pm_y 58) (pm_b 58) (pm_ml 58) (pm_rt 58) ∈ lw_tbl := (tb_r3 (List.mem_of_getElem? (i := 6) rfl))
theorem tb_c59 : Cond.code (pm_y 59) (pm_b 59) (pm_ml 59) (pm_rt 59) ∈ lw_tbl := (tb_r3 (List.mem_of_getElem? (i := 56) rfl))
theorem tb_c60 : Cond.code (pm_y 60) (pm_b 60) (pm_ml 60) (pm_rt 60) ∈ lw_tbl := (tb_r3 (List.mem_of_getElem? (i := 18) rfl))
theorem tb_c61 : Cond.code (pm_y 61) (pm_b 61) (pm_ml 61) (pm_rt 61) ∈ lw_tbl := (tb_r3 (List.mem_of_getElem? (i := 27) rfl))
theorem tb_c62 : Cond.code (pm_y 62) (pm_b 62) (pm_ml 62) (pm_rt 62) ∈ lw_tbl := (tb_r3 (List.mem_of_getElem? (i := 36) rfl))
theorem tb_c63 : Cond.code (pm_y 63) (pm_b 63) (pm_ml 63) (pm_rt 63) ∈ lw_tbl := (tb_r3 (List.mem_of_getElem? (i := 40) rfl))
theorem tb_c64 : Cond.code (pm_y 64) (pm_b 64) (pm_ml 64) (pm_rt 64) ∈ lw_tbl := (tb_r3 (List.mem_of_getElem? (i := 44) rfl))
theorem tb_c65 : Cond.code (pm_y 65) (pm_b 65) (pm_ml 65) (pm_rt 65) ∈ lw_tbl := (tb_r3 (List.mem_of_getElem? (i := 52) rfl))
theorem tb_c66 : Cond.code (pm_y 66) (pm_b 66) (pm_ml 66) (pm_rt 66) ∈ lw_tbl := (tb_r2 (List.mem_of_getElem? (i := 177) rfl))
theorem tb_c67 : Cond.code (pm_y 67) (pm_b 67) (pm_ml 67) (pm_rt 67) ∈ lw_tbl := (tb_r2 (List.mem_of_getElem? (i := 186) rfl))
theorem tb_c68 : Cond.code (pm_y 68) (pm_b 68) (pm_ml 68) (pm_rt 68) ∈ lw_tbl := (tb_r2 (List.mem_of_getElem? (i := 191) rfl))
theorem tb_c69 : Cond.code (pm_y 69) (pm_b 69) (pm_ml 69) (pm_rt 69) ∈ lw_tbl := (tb_r2 (List.mem_of_getElem? (i := 220) rfl))
theorem tb_c70 : Cond.code (pm_y 70) (pm_b 70) (pm_ml 70) (pm_rt 70) ∈ lw_tbl := (tb_r3 (List.mem_of_getElem? (i := 122) rfl))
theorem tb_c71 : Cond.code (pm_y 71) (pm_b 71) (pm_ml 71) (pm_rt 71) ∈ lw_tbl := (tb_r2 (List.mem_of_getElem? (i := 211) rfl))
theorem tb_c72 : Cond.code (pm_y 72) (pm_b 72) (pm_ml 72) (pm_rt 72) ∈ lw_tbl := (tb_r2 (List.mem_of_getElem? (i := 215) rfl))
theorem tb_c73 : Cond.code (pm_y 73) (pm_b 73) (pm_ml 73) (pm_rt 73) ∈ lw_tbl := (tb_r2 (List.mem_of_getElem? (i := 228) rfl))
theorem tb_c74 : Cond.code (pm_y 74) (pm_b 74) (pm_ml 74) (pm_rt 74) ∈ lw_tbl := (tb_r2 (List.mem_of_getElem? (i := 232) rfl))
theorem tb_c75 : Cond.code (pm_y 75) (pm_b 75) (pm_ml 75) (pm_rt 75) ∈ lw_tbl := (tb_r2 (List.mem_of_getElem? (i := 236) rfl))
theorem tb_c76 : Cond.code (pm_y 76) (pm_b 76) (pm_ml 76) (pm_rt 76) ∈ lw_tbl := (tb_r3 (List.mem_of_getElem? (i := 61) rfl))
theorem tb_c77 : Cond.code (pm_y 77) (pm_b 77) (pm_ml 77) (pm_rt 77) ∈ lw_tbl := (tb_r1 (List.mem_of_getElem? (i := 195) rfl))
theorem tb_c78 : Cond.code (pm_y 78) (pm_b 78) (pm_ml 78) (pm_rt 78) ∈ lw_tbl := (tb_r1 (List.mem_of_getElem? (i := 212) rfl))
theorem tb_c79 : Cond.code (pm_y 79) (pm_b 79) (pm_ml 79) (pm_rt 79) ∈ lw_tbl := (tb_r1 (List.mem_of_getElem? (i := 217) rfl))
theorem tb_c80 : Cond.code (pm_y 80) (pm_b 80) (pm_ml 80) (pm_rt 80) ∈ lw_tbl := (tb_r1 (List.mem_of_getElem? (i := 233) rfl))
theorem tb_c81 : Cond.code (pm_y 81) (pm_b 81) (pm_ml 81) (pm_rt 81) ∈ lw_tbl := (tb_r2 (List.mem_of_getElem? (i := 1) rfl))
theorem tb_c82 : Cond.code (pm_y 82) (pm_b 82) (pm_ml 82) (pm_rt 82) ∈ lw_tbl := (tb_r2 (List.mem_of_getElem? (i := 207) rfl))
theorem tb_c83 : Cond.code (pm_y 83) (pm_b 83) (pm_ml 83) (pm_rt 83) ∈ lw_tbl := (tb_r3 (List.mem_of_getElem? (i := 84) rfl))
theorem tb_c84 : Cond.code (pm_y 84) (pm_b 84) (pm_ml 84) (pm_rt 84) ∈ lw_tbl := (tb_r3 (List.mem_of_getElem? (i := 88) rfl))
theorem tb_c85 : Cond.code (pm_y 85) (pm_b 85) (pm_ml 85) (pm_rt 85) ∈ lw_tbl := (tb_r3 (List.mem_of_getElem? (i := 92) rfl))
theorem tb_c86 : Cond.code (pm_y 86) (pm_b 86) (pm_ml 86) (pm_rt 86) ∈ lw_tbl := (tb_r3 (List.mem_of_getElem? (i := 97) rfl))
theorem tb_c87 : Cond.code (pm_y 87) (pm_b 87) (pm_ml 87) (pm_rt 87) ∈ lw_tbl := (tb_r3 (List.mem_of_getElem? (i := 105) rfl))
theorem tb_c88 : Cond.code (pm_y 88) (pm_b 88) (pm_ml 88) (pm_rt 88) ∈ lw_tbl := (tb_r3 (List.mem_of_getElem? (i := 100) rfl))
theorem tb_c89 : Cond.code (pm_y 89) (pm_b 89) (pm_ml 89) (pm_rt 89) ∈ lw_tbl := (tb_r3 (List.mem_of_getElem? (i := 110) rfl))
theorem tb_c90 : Cond.code (pm_y 90) (pm_b 90) (pm_ml 90) (pm_rt 90) ∈ lw_tbl := (tb_r3 (List.mem_of_getElem? (i := 118) rfl))
theorem tb_c91 : Cond.code (pm_y 91) (pm_b 91) (pm_ml 91) (pm_rt 91) ∈ lw_tbl := (tb_r3 (List.mem_of_getElem? (i := 131) rfl))
theorem tb_c92 : Cond.code (pm_y 92) (pm_b 92) (pm_ml 92) (pm_rt 92) ∈ lw_tbl := (tb_r3 (List.mem_of_getElem? (i := 135) rfl))
theorem tb_c93 : Cond.code (pm_y 93) (pm_b 93) (pm_ml 93) (pm_rt 93) ∈ lw_tbl := (tb_r3 (List.mem_of_getElem? (i := 233) rfl))
theorem tb_c94 : Cond.code (pm_y 94) (pm_b 94) (pm_ml 94) (pm_rt 94) ∈ lw_tbl := (tb_r3 (List.mem_of_getElem? (i := 230) rfl))
theorem tb_c95 : Cond.code (pm_y 95) (pm_b 95) (pm_ml 95) (pm_rt 95) ∈ lw_tbl := (tb_r3 (List.mem_of_getElem? (i := 227) rfl))
theorem tb_c96 : Cond.code (pm_y 96) (pm_b 96) (pm_ml 96) (pm_rt 96) ∈ lw_tbl := (tb_r3 (List.mem_of_getElem? (i := 224) rfl))
theorem tb_c97 : Cond.code (pm_y 97) (pm_b 97) (pm_ml 97) (pm_rt 97) ∈ lw_tbl := (tb_r3 (List.mem_of_getElem? (i := 237) rfl))
theorem tb_c98 : Cond.code (pm_y 98) (pm_b 98) (pm_ml 98) (pm_rt 98) ∈ lw_tbl := (tb_r4 (List.mem_of_getElem? (i := 6) rfl))
theorem tb_c99 : Cond.code (pm_y 99) (pm_b 99) (pm_ml 99) (pm_rt 99) ∈ lw_tbl := (tb_r4 (List.mem_of_getElem? (i := 2) rfl))
theorem tb_c100 : Cond.code (pm_y 100) (pm_b 100) (pm_ml 100) (pm_rt 100) ∈ lw_tbl := (tb_r4 (List.mem_of_getElem? (i := 10) rfl))
theorem tb_c101 : Cond.code (pm_y 101) (pm_b 101) (pm_ml 101) (pm_rt 101) ∈ lw_tbl := (tb_r4 (List.mem_of_getElem? (i := 30) rfl))
theorem tb_c102 : Cond.code (pm_y 102) (pm_b 102) (pm_ml 102) (pm_rt 102) ∈ lw_tbl := (tb_r4 (List.mem_of_getElem? (i := 24) rfl))
theorem tb_c103 : Cond.code (pm_y 103) (pm_b 103) (pm_ml 103) (pm_rt 103) ∈ lw_tbl := (tb_r4 (List.mem_of_getElem? (i := 33) rfl))
theorem tb_c104 : Cond.code (pm_y 104) (pm_b 104) (pm_ml 104) (pm_rt 104) ∈ lw_tbl := (tb_r4 (List.mem_of_getElem? (i := 36) rfl))
theorem tb_c105 : Cond.code (pm_y 105) (pm_b 105) (pm_ml 105) (pm_rt 105) ∈ lw_tbl := (tb_r4 (List.mem_of_getElem? (i := 27) rfl))
theorem tb_c106 : Cond.code (pm_y 106) (pm_b 106) (pm_ml 106) (pm_rt 106) ∈ lw_tbl := (tb_r4 (List.mem_of_getElem? (i := 21) rfl))
theorem tb_c107 : Cond.code (pm_y 107) (pm_b 107) (pm_ml 107) (pm_rt 107) ∈ lw_tbl := (tb_r4 (List.mem_of_getElem? (i := 43) rfl))
theorem tb_c108 : Cond.code (pm_y 108) (pm_b 108) (pm_ml 108) (pm_rt 108) ∈ lw_tbl := (tb_r4 (List.mem_of_getElem? (i := 50) rfl))
theorem tb_c109 : Cond.code (pm_y 109) (pm_b 109) (pm_ml 109) (pm_rt 109) ∈ lw_tbl := (tb_r4 (List.mem_of_getElem? (i := 54) rfl))
theorem tb_c110 : Cond.code (pm_y 110) (pm_b 110) (pm_ml 110) (pm_rt 110) ∈ lw_tbl := (tb_r4 (List.mem_of_getElem? (i := 60) rfl))
theorem tb_c111 : Cond.code (pm_y 111) (pm_b 111) (pm_ml 111) (pm_rt 111) ∈ lw_tbl := (tb_r4 (List.mem_of_getElem? (i := 57) rfl))
theorem tb_c112 : Cond.code (pm_y 112) (pm_b 112) (pm_ml 112) (pm_rt 112) ∈ lw_tbl := (tb_r4 (List.mem_of_getElem? (i := 47) rfl))
theorem tb_c113 : Cond.code (pm_y 113) (pm_b 113) (pm_ml 113) (pm_rt 113) ∈ lw_tbl := (tb_r4 (List.mem_of_getElem? (i := 40) rfl))
theorem tb_c114 : Cond.code (pm_y 114) (pm_b 114) (pm_ml 114) (pm_rt 114) ∈ lw_tbl := (tb_r4 (List.mem_of_getElem? (i := 18) rfl))
theorem tb_c115 : Cond.code (pm_y 115) (pm_b 115) (pm_ml 115) (pm_rt 115) ∈ lw_tbl := (tb_r4 (List.mem_of_getElem? (i := 86) rfl))
theorem tb_c116 : Cond.code (pm_y 116) (pm_b 116) (pm_ml 116) (pm_rt 116) ∈ lw_tbl := (tb_r4 (List.mem_of_getElem? (i := 83) rfl))
theorem tb_c117 : Cond.code (pm_y 117) (pm_b 117) (pm_ml 117) (pm_rt 117) ∈ lw_tbl := (tb_r4 (List.mem_of_getElem? (i := 127) rfl))
theorem tb_c118 : Cond.code (pm_y 118) (pm_b 118) (pm_ml 118) (pm_rt 118) ∈ lw_tbl := (tb_r4 (List.mem_of_getElem? (i := 67) rfl))
theorem tb_c119 : Cond.code (pm_y 119) (pm_b 119) (pm_ml 119) (pm_rt 119) ∈ lw_tbl := (tb_r4 (List.mem_of_getElem? (i := 75) rfl))
theorem tb_c120 : Cond.code (pm_y 120) (pm_b 120) (pm_ml 120) (pm_rt 120) ∈ lw_tbl := (tb_r4 (List.mem_of_getElem? (i := 99) rfl))
theorem tb_c121 : Cond.code (pm_y 121) (pm_b 121) (pm_ml 121) (pm_rt 121) ∈ lw_tbl := (tb_r4 (List.mem_of_getElem? (i := 95) rfl))
theorem tb_c122 : Cond.code (pm_y 122) (pm_b 122) (pm_ml 122) (pm_rt 122) ∈ lw_tbl := (tb_r4 (List.mem_of_getElem? (i := 114) rfl))
theorem tb_c123 : Cond.code (pm_y 123) (pm_b 123) (pm_ml 123) (pm_rt 123) ∈ lw_tbl := (tb_r4 (List.mem_of_getElem? (i := 117) rfl))
theorem tb_c124 : Cond.code (pm_y 124) (pm_b 124) (pm_ml 124) (pm_rt 124) ∈ lw_tbl := (tb_r4 (List.mem_of_getElem? (i := 110) rfl))
theorem tb_c125 : Cond.code (pm_y 125) (pm_b 125) (pm_ml 125) (pm_rt 125) ∈ lw_tbl := (tb_r4 (List.mem_of_getElem? (i := 123) rfl))
theorem tb_c126 : Cond.code (pm_y 126) (pm_b 126) (pm_ml 126) (pm_rt 126) ∈ lw_tbl := (tb_r4 (List.mem_of_getElem? (i := 120) rfl))
theorem tb_c127 : Cond.code (pm_y 127) (pm_b 127) (pm_ml 127) (pm_rt 127) ∈ lw_tbl := (tb_r4 (List.mem_of_getElem? (i := 107) rfl))
theorem tb_c128 : Cond.code (pm_y 128) (pm_b 128) (pm_ml 128) (pm_rt 128) ∈ lw_tbl := (tb_r4 (List.mem_of_getElem? (i := 103) rfl))
theorem tb_c129 : Cond.code (pm_y 129) (pm_b 129) (pm_ml 129) (pm_rt 129) ∈ lw_tbl := (tb_r4 (List.mem_of_getElem? (i := 91) rfl))
theorem tb_c130 : Cond.code (pm_y 130) (pm_b 130) (pm_ml 130) (pm_rt 130) ∈ lw_tbl := (tb_r4 (List.mem_of_getElem? (i := 71) rfl))
theorem tb_c131 : Cond.code (pm_y 131) (pm_b 131) (pm_ml 131) (pm_rt 131) ∈ lw_tbl := (tb_r4 (List.mem_of_getElem? (i := 79) rfl))
theorem tb_c132 : Cond.code (pm_y 132) (pm_b 132) (pm_ml 132) (pm_rt 132) ∈ lw_tbl := (tb_r4 (List.mem_of_getElem? (i := 14) rfl))
theorem tb_c133 : Cond.code (pm_y 133) (pm_b 133) (pm_ml 133) (pm_rt 133) ∈ lw_tbl := (tb_r4 (List.mem_of_getElem? (i := 63) rfl))
theorem tb_c134 : Cond.code (pm_y 134) (pm_b 134) (pm_ml 134) (pm_rt 134) ∈ lw_tbl := (tb_r4 (List.mem_of_getElem? (i := 141) rfl))
theorem tb_c135 : Cond.code (pm_y 135) (pm_b 135) (pm_ml 135) (pm_rt 135) ∈ lw_tbl := (tb_r4 (List.mem_of_getElem? (i := 137) rfl))
theorem tb_c136 : Cond.code (pm_y 136) (pm_b 136) (pm_ml 136) (pm_rt 136) ∈ lw_tbl := (tb_r4 (List.mem_of_getElem? (i := 133) rfl))
theorem tb_c137 : Cond.code (pm_y 137) (pm_b 137) (pm_ml 137) (pm_rt 137) ∈ lw_tbl := (tb_r4 (List.mem_of_getElem? (i := 156) rfl))
theorem tb_c138 : Cond.code (pm_y 138) (pm_b 138) (pm_ml 138) (pm_rt 138) ∈ lw_tbl := (tb_r4 (List.mem_of_getElem? (i := 160) rfl))
theorem tb_c139 : Cond.code (pm_y 139) (pm_b 139) (pm_ml 139) (pm_rt 139) ∈ lw_tbl := (tb_r4 (List.mem_of_getElem? (i := 151) rfl))
theorem tb_c140 : Cond.code (pm_y 140) (pm_b 140) (pm_ml 140) (pm_rt 140) ∈ lw_tbl := (tb_r4 (List.mem_of_getElem? (i := 164) rfl))
theorem tb_c141 : Cond.code (pm_y 141) (pm_b 141) (pm_ml 141) (pm_rt 141) ∈ lw_tbl := (tb_r4 (List.mem_of_getElem? (i := 174) rfl))
theorem tb_c142 : Cond.code (pm_y 142) (pm_b 142) (pm_ml 142) (pm_rt 142) ∈ lw_tbl := (tb_r4 (List.mem_of_getElem? (i := 178) rfl))
theorem tb_c143 : Cond.code (pm_y 143) (pm_b 143) (pm_ml 143) (pm_rt 143) ∈ lw_tbl := (tb_r4 (List.mem_of_getElem? (i := 187) rfl))
theorem tb_c144 : Cond.code (pm_y 144) (pm_b 144) (pm_ml 144) (pm_rt 144) ∈ lw_tbl := (tb_r4 (List.mem_of_getElem? (i := 195) rfl))
theorem tb_c145 : Cond.code (pm_y 145) (pm_b 145) (pm_ml 145) (pm_rt 145) ∈ lw_tbl := (tb_r4 (List.mem_of_getElem? (i := 199) rfl))
theorem tb_c146 : Cond.code (pm_y 146) (pm_b 146) (pm_ml 146) (pm_rt 146) ∈ lw_tbl := (tb_r4 (List.mem_of_getElem? (i := 182) rfl))
theorem tb_c147 : Cond.code (pm_y 147) (pm_b 147) (pm_ml 147) (pm_rt 147) ∈ lw_tbl := (tb_r4 (List.mem_of_getElem? (i := 191) rfl))
theorem tb_c148 : Cond.code (pm_y 148) (pm_b 148) (pm_ml 148) (pm_rt 148) ∈ lw_tbl := (tb_r4 (List.mem_of_getElem? (i := 170) rfl))
theorem tb_c149 : Cond.code (pm_y 149) (pm_b 149) (pm_ml 149) (pm_rt 149) ∈ lw_tbl := (tb_r4 (List.mem_of_getElem? (i := 203) rfl))
theorem tb_c150 : Cond.code (pm_y 150) (pm_b 150) (pm_ml 150) (pm_rt 150) ∈ lw_tbl := (tb_r4 (List.mem_of_getElem? (i := 211) rfl))
theorem tb_c151 : Cond.code (pm_y 151) (pm_b 151) (pm_ml 151) (pm_rt 151) ∈ lw_tbl := (tb_r4 (List.mem_of_getElem? (i := 207) rfl))
theorem tb_c152 : Cond.code (pm_y 152) (pm_b 152) (pm_ml 152) (pm_rt 152) ∈ lw_tbl := (tb_r4 (List.mem_of_getElem? (i := 147) rfl))
theorem tb_c153 : Cond.code (pm_y 153) (pm_b 153) (pm_ml 153) (pm_rt 153) ∈ lw_tbl := (tb_r4 (List.mem_of_getElem? (i := 215) rfl))
theorem tb_c154 : Cond.code (pm_y 154) (pm_b 154) (pm_ml 154) (pm_rt 154) ∈ lw_tbl := (tb_r4 (List.mem_of_getElem? (i := 219) rfl))
theorem tb_c155 : Cond.code (pm_y 155) (pm_b 155) (pm_ml 155) (pm_rt 155) ∈ lw_tbl := (tb_r4 (List.mem_of_getElem? (i := 223) rfl))
theorem tb_c156 : Cond.code (pm_y 156) (pm_b 156) (pm_ml 156) (pm_rt 156) ∈ lw_tbl := (tb_r4 (List.mem_of_getElem? (i := 227) rfl))
theorem tb_c157 : Cond.code (pm_y 157) (pm_b 157) (pm_ml 157) (pm_rt 157) ∈ lw_tbl := (tb_r4 (List.mem_of_getElem? (i := 231) rfl))
theorem tb_c158 : Cond.code (pm_y 158) (pm_b 158) (pm_ml 158) (pm_rt 158) ∈ lw_tbl := (tb_r4 (List.mem_of_getElem? (i := 235) rfl))
theorem tb_c159 : Cond.code (pm_y 159) (pm_b 159) (pm_ml 159) (pm_rt 159) ∈ lw_tbl := (tb_r4 (List.mem_of_getElem? (i := 239) rfl))
theorem tb_cs0 : ∀ j ∈ List.range' 0 20, Cond.code (pm_y j) (pm_b j) (pm_ml j) (pm_rt j) ∈ lw_tbl := by
  show ∀ j ∈ [0, 1, 2, 3, 4, 5, 6, 7, 8, 9, 10, 11, 12, 13, 14, 15, 16, 17, 18, 19], Cond.code (pm_y j) (pm_b j) (pm_ml j) (pm_rt j) ∈ lw_tbl
  exact List.forall_mem_cons.mpr ⟨tb_c0, List.forall_mem_cons.mpr ⟨tb_c1, List.forall_mem_cons.mpr ⟨tb_c2, List.forall_mem_cons.mpr ⟨tb_c3, List.forall_mem_cons.mpr ⟨tb_c4, List.forall_mem_cons.mpr ⟨tb_c5, List.forall_mem_cons.mpr ⟨tb_c6, List.forall_mem_cons.mpr ⟨tb_c7, List.forall_mem_cons.mpr ⟨tb_c8, List.forall_mem_cons.mpr ⟨tb_c9, List.forall_mem_cons.mpr ⟨tb_c10, List.forall_mem_cons.mpr ⟨tb_c11, List.forall_mem_cons.mpr ⟨tb_c12, List.forall_mem_cons.mpr ⟨tb_c13, List.forall_mem_cons.mpr ⟨tb_c14, List.forall_mem_cons.mpr ⟨tb_c15, List.forall_mem_cons.mpr ⟨tb_c16, List.forall_mem_cons.mpr ⟨tb_c17, List.forall_mem_cons.mpr ⟨tb_c18, List.forall_mem_cons.mpr ⟨tb_c19, fun _ h => absurd h List.not_mem_nil⟩⟩⟩⟩⟩⟩⟩⟩⟩⟩⟩⟩⟩⟩⟩⟩⟩⟩⟩⟩
theorem tb_cs1 : ∀ j ∈ List.range' 20 20, Cond.code (pm_y j) (pm_b j) (pm_ml j) (pm_rt j) ∈ lw_tbl := by
  show ∀ j ∈ [20, 21, 22, 23, 24, 25, 26, 27, 28, 29, 30, 31, 32, 33, 34, 35, 36, 37, 38, 39], Cond.code (pm_y j) (pm_b j) (pm_ml j) (pm_rt j) ∈ lw_tbl
  exact List.forall_mem_cons.mpr ⟨tb_c20, List.forall_mem_cons.mpr ⟨tb_c21, List.forall_mem_cons.mpr ⟨tb_c22, List.forall_mem_cons.mpr ⟨tb_c23, List.forall_mem_cons.mpr ⟨tb_c24, List.forall_mem_cons.mpr ⟨tb_c25, List.forall_mem_cons.mpr ⟨tb_c26, List.forall_mem_cons.mpr ⟨tb_c27, List.forall_mem_cons.mpr ⟨tb_c28, List.forall_mem_cons.mpr ⟨tb_c29, List.forall_mem_cons.mpr ⟨tb_c30, List.forall_mem_cons.mpr ⟨tb_c31, List.forall_mem_cons.mpr ⟨tb_c32, List.forall_mem_cons.mpr ⟨tb_c33, List.forall_mem_cons.mpr ⟨tb_c34, List.forall_mem_cons.mpr ⟨tb_c35, List.forall_mem_cons.mpr ⟨tb_c36, List.forall_mem_cons.mpr ⟨tb_c37, List.forall_mem_cons.mpr ⟨tb_c38, List.forall_mem_cons.mpr ⟨tb_c39, fun _ h => absurd h List.not_mem_nil⟩⟩⟩⟩⟩⟩⟩⟩⟩⟩⟩⟩⟩⟩⟩⟩⟩⟩⟩⟩
theorem tb_cs2 : ∀ j ∈ List.range' 40 20, Cond.code (pm_y j) (pm_b j) (pm_ml j) (pm_rt j) ∈ lw_tbl := by
  show ∀ j ∈ [40, 41, 42, 43, 44, 45, 46, 47, 48, 49, 50, 51, 52, 53, 54, 55, 56, 57, 58, 59], Cond.code (pm_y j) (pm_b j) (pm_ml j) (pm_rt j) ∈ lw_tbl
  exact List.forall_mem_cons.mpr ⟨tb_c40, List.forall_mem_cons.mpr ⟨tb_c41, List.forall_mem_cons.mpr ⟨tb_c42, List.forall_mem_cons.mpr ⟨tb_c43, List.forall_mem_cons.mpr ⟨tb_c44, List.forall_mem_cons.mpr ⟨tb_c45, List.forall_mem_cons.mpr ⟨tb_c46, List.forall_mem_cons.mpr ⟨tb_c47, List.forall_mem_cons.mpr ⟨tb_c48, List.forall_mem_cons.mpr ⟨tb_c49, List.forall_mem_cons.mpr ⟨tb_c50, List.forall_mem_cons.mpr ⟨tb_c51, List.forall_mem_cons.mpr ⟨tb_c52, List.forall_mem_cons.mpr ⟨tb_c53, List.forall_mem_cons.mpr ⟨tb_c54, List.forall_mem_cons.mpr ⟨tb_c55, List.forall_mem_cons.mpr ⟨tb_c56, List.forall_mem_cons.mpr ⟨tb_c57, List.forall_mem_cons.mpr ⟨tb_c58, List.forall_mem_cons.mpr ⟨tb_c59, fun _ h => absurd h List.not_mem_nil⟩⟩⟩⟩⟩⟩⟩⟩⟩⟩⟩⟩⟩⟩⟩⟩⟩⟩⟩⟩
theorem tb_cs3 : ∀ j ∈ List.range' 60 20, Cond.code (pm_y j) (pm_b j) (pm_ml j) (pm_rt j) ∈ lw_tbl := by
  show ∀ j ∈ [60, 61, 62, 63, 64, 65, 66, 67, 68, 69, 70, 71, 72, 73, 74, 75, 76, 77, 78, 79], Cond.code (pm_y j) (pm_b j) (pm_ml j) (pm_rt j) ∈ lw_tbl
  exact List.forall_mem_cons.mpr ⟨tb_c60, List.forall_mem_cons.mpr ⟨tb_c61, List.forall_mem_cons.mpr ⟨tb_c62, List.forall_mem_cons.mpr ⟨tb_c63, List.forall_mem_cons.mpr ⟨tb_c64, List.forall_mem_cons.mpr ⟨tb_c65, List.forall_mem_cons.mpr ⟨tb_c66, List.forall_mem_cons.mpr ⟨tb_c67, List.forall_mem_cons.mpr ⟨tb_c68, List.forall_mem_cons.mpr ⟨tb_c69, List.forall_mem_cons.mpr ⟨tb_c70, List.forall_mem_cons.mpr ⟨tb_c71, List.forall_mem_cons.mpr ⟨tb_c72, List.forall_mem_cons.mpr ⟨tb_c73, List.forall_mem_cons.mpr ⟨tb_c74, List.forall_mem_cons.mpr ⟨tb_c75, List.forall_mem_cons.mpr ⟨tb_c76, List.forall_mem_cons.mpr ⟨tb_c77, List.forall_mem_cons.mpr ⟨tb_c78, List.forall_mem_cons.mpr ⟨tb_c79, fun _ h => absurd h List.not_mem_nil⟩⟩⟩⟩⟩⟩⟩⟩⟩⟩⟩⟩⟩⟩⟩⟩⟩⟩⟩⟩
theorem tb_cs4 : ∀ j ∈ List.range' 80 20, Cond.code (pm_y j) (pm_b j) (pm_ml j) (pm_rt j) ∈ lw_tbl := by
  show ∀ j ∈ [80, 81, 82, 83, 84, 85, 86, 87, 88, 89, 90, 91, 92, 93, 94, 95, 96, 97, 98, 99], Cond.code (pm_y j) (pm_b j) (pm_ml j) (pm_rt j) ∈ lw_tbl
  exact List.forall_mem_cons.mpr ⟨tb_c80, List.forall_mem_cons.mpr ⟨tb_c81, List.forall_mem_cons.mpr ⟨tb_c82, List.forall_mem_cons.mpr ⟨tb_c83, List.forall_mem_cons.mpr ⟨tb_c84, List.forall_mem_cons.mpr ⟨tb_c85, List.forall_mem_cons.mpr ⟨tb_c86, List.forall_mem_cons.mpr ⟨tb_c87, List.forall_mem_cons.mpr ⟨tb_c88, List.forall_mem_cons.mpr ⟨tb_c89, List.forall_mem_cons.mpr ⟨tb_c90, List.forall_mem_cons.mpr ⟨tb_c91, List.forall_mem_cons.mpr ⟨tb_c92, List.forall_mem_cons.mpr ⟨tb_c93, List.forall_mem_cons.mpr ⟨tb_c94, List.forall_mem_cons.mpr ⟨tb_c95, List.forall_mem_cons.mpr ⟨tb_c96, List.forall_mem_cons.mpr ⟨tb_c97, List.forall_mem_cons.mpr ⟨tb_c98, List.forall_mem_cons.mpr ⟨tb_c99, fun _ h => absurd h List.not_mem_nil⟩⟩⟩⟩⟩⟩⟩⟩⟩⟩⟩⟩⟩⟩⟩⟩⟩⟩⟩⟩
theorem tb_cs5 : ∀ j ∈ List.range' 100 20, Cond.code (pm_y j) (pm_b j) (pm_ml j) (pm_rt j) ∈ lw_tbl := by
  show ∀ j ∈ [100, 101, 102, 103, 104, 105, 106, 107, 108, 109, 110, 111, 112, 113, 114, 115, 116, 117, 118, 119], Cond.code (pm_y j) (pm_b j) (pm_ml j) (pm_rt j) ∈ lw_tbl
  exact List.forall_mem_cons.mpr ⟨tb_c100, List.forall_mem_cons.mpr ⟨tb_c101, List.forall_mem_cons.mpr ⟨tb_c102, List.forall_mem_cons.mpr ⟨tb_c103, List.forall_mem_cons.mpr ⟨tb_c104, List.forall_mem_cons.mpr ⟨tb_c105, List.forall_mem_cons.mpr ⟨tb_c106, List.forall_mem_cons.mpr ⟨tb_c107, List.forall_mem_cons.mpr ⟨tb_c108, List.forall_mem_cons.mpr ⟨tb_c109, List.forall_mem_cons.mpr ⟨tb_c110, List.forall_mem_cons.mpr ⟨tb_c111, List.forall_mem_cons.mpr ⟨tb_c112, List.forall_mem_cons.mpr ⟨tb_c113, List.forall_mem_cons.mpr ⟨tb_c114, List.forall_mem_cons.mpr ⟨tb_c115, List.forall_mem_cons.mpr ⟨tb_c116, List.forall_mem_cons.mpr ⟨tb_c117, List.forall_mem_cons.mpr ⟨tb_c118, List.forall_mem_cons.mpr ⟨tb_c119, fun _ h => absurd h List.not_mem_nil⟩⟩⟩⟩⟩⟩⟩⟩⟩⟩⟩⟩⟩⟩⟩⟩⟩⟩⟩⟩
theorem tb_cs6 : ∀ j ∈ List.range' 120 20, Cond.code (pm_y j) (pm_b j) (pm_ml j) (pm_rt j) ∈ lw_tbl := by
  show ∀ j ∈ [120, 121, 122, 123, 124, 125, 126, 127, 128, 129, 130, 131, 132, 133, 134, 135, 136, 137, 138, 139], Cond.code (pm_y j) (pm_b j) (pm_ml j) (pm_rt j) ∈ lw_tbl
  exact List.forall_mem_cons.mpr ⟨tb_c120, List.forall_mem_cons.mpr ⟨tb_c121, List.forall_mem_cons.mpr ⟨tb_c122, List.forall_mem_cons.mpr ⟨tb_c123, List.forall_mem_cons.mpr ⟨tb_c124, List.forall_mem_cons.mpr ⟨tb_c125, List.forall_mem_cons.mpr ⟨tb_c126, List.forall_mem_cons.mpr ⟨tb_c127, List.forall_mem_cons.mpr ⟨tb_c128, List.forall_mem_cons.mpr ⟨tb_c129, List.forall_mem_cons.mpr ⟨tb_c130, List.forall_mem_cons.mpr ⟨tb_c131, List.forall_mem_cons.mpr ⟨tb_c132, List.forall_mem_cons.mpr ⟨tb_c133, List.forall_mem_cons.mpr ⟨tb_c134, List.forall_mem_cons.mpr ⟨tb_c135, List.forall_mem_cons.mpr ⟨tb_c136, List.forall_mem_cons.mpr ⟨tb_c137, List.forall_mem_cons.mpr ⟨tb_c138, List.forall_mem_cons.mpr ⟨tb_c139, fun _ h => absurd h List.not_mem_nil⟩⟩⟩⟩⟩⟩⟩⟩⟩⟩⟩⟩⟩⟩⟩⟩⟩⟩⟩⟩
theorem tb_cs7 : ∀ j ∈ List.range' 140 20, Cond.code (pm_y j) (pm_b j) (pm_ml j) (pm_rt j) ∈ lw_tbl := by
  show ∀ j ∈ [140, 141, 142, 143, 144, 145, 146, 147, 148, 149, 150, 151, 152, 153, 154, 155, 156, 157, 158, 159], Cond.code (pm_y j) (pm_b j) (pm_ml j) (pm_rt j) ∈ lw_tbl
  exact List.forall_mem_cons.mpr ⟨tb_c140, List.forall_mem_cons.mpr ⟨tb_c141, List.forall_mem_cons.mpr ⟨tb_c142, List.forall_mem_cons.mpr ⟨tb_c143, List.forall_mem_cons.mpr ⟨tb_c144, List.forall_mem_cons.mpr ⟨tb_c145, List.forall_mem_cons.mpr ⟨tb_c146, List.forall_mem_cons.mpr ⟨tb_c147, List.forall_mem_cons.mpr ⟨tb_c148, List.forall_mem_cons.mpr ⟨tb_c149, List.forall_mem_cons.mpr ⟨tb_c150, List.forall_mem_cons.mpr ⟨tb_c151, List.forall_mem_cons.mpr ⟨tb_c152, List.forall_mem_cons.mpr ⟨tb_c153, List.forall_mem_cons.mpr ⟨tb_c154, List.forall_mem_cons.mpr ⟨tb_c155, List.forall_mem_cons.mpr ⟨tb_c156, List.forall_mem_cons.mpr ⟨tb_c157, List.forall_mem_cons.mpr ⟨tb_c158, List.forall_mem_cons.mpr ⟨tb_c159, fun _ h => absurd h List.not_mem_nil⟩⟩⟩⟩⟩⟩⟩⟩⟩⟩⟩⟩⟩⟩⟩⟩⟩⟩⟩⟩
theorem tb_c {j : Nat} (hj : j < 160) : Cond.code (pm_y j) (pm_b j) (pm_ml j) (pm_rt j) ∈ lw_tbl := by
  by_cases h0 : j < 20
  · exact tb_cs0 j (List.mem_range'_1.mpr ⟨by omega, by omega⟩)
  by_cases h1 : j < 40
  · exact tb_cs1 j (List.mem_range'_1.mpr ⟨by omega, by omega⟩)
  by_cases h2 : j < 60
  · exact tb_cs2 j (List.mem_range'_1.mpr ⟨by omega, by omega⟩)
  by_cases h3 : j < 80
  · exact tb_cs3 j (List.mem_range'_1.mpr ⟨by omega, by omega⟩)
  by_cases h4 : j < 100
  · exact tb_cs4 j (List.mem_range'_1.mpr ⟨by omega, by omega⟩)
  by_cases h5 : j < 120
  · exact tb_cs5 j (List.mem_range'_1.mpr ⟨by omega, by omega⟩)
  by_cases h6 : j < 140
  · exact tb_cs6 j (List.mem_range'_1.mpr ⟨by omega, by omega⟩)
  exact tb_cs7 j (List.mem_range'_1.mpr ⟨by omega, by omega⟩)
