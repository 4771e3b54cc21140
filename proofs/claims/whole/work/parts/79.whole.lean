set_option maxHeartbeats 4000000 in
set_option maxRecDepth 100000 in
/-- YOUR PART: from the entry, for every script of at most 2560 ints, the law comes to its end with true -/
theorem whole_start {p : Program} {e : Env} {s : State} {m : MethodId} {below : List Frame} {meth : Method} {c : Code} (l : Launch) {b L : Nat} {xs : Nat → Int32} (hL : L ≤ 2560) (C0 : lw_At p s m meth c b L xs) : W p l e room_1 s m #[Value.ref b] below meth c s.heap [] 0 0 (lw_Z below #[Value.ref b] s) (entryFrame m ([Value.ref b] : List Value).toArray 4) := by
  obtain ⟨hx, hb, hr, hml, hown, hts, hX, hbl, hlocks, hgv⟩ := C0
  have hpw : ∀ w ∈ pm_ws, w.before #[Value.ref b] s = true := fun w hw => hts w (tb_pm w hw)
  have hcw : ∀ w ∈ cw_ws, w.before #[Value.ref b] s = true := fun w hw => hts w (tb_cw w hw)
  obtain ⟨dC, dI, cA, hK⟩ := st_K hcw
  have hN : cw_N s := fun q hq => va_Nw.of rfl (hts _ (tb_cn q hq))
  have hA : ∀ a : Nat, a < s.heap.size → ¬ (fun q : Nat => s.heap.size ≤ q) a := fun a h1 h2 => absurd h1 (Nat.not_lt.mpr h2)
  obtain ⟨a26, t26, z26⟩ := st_t26 hts hgv hA
  obtain ⟨a27, t27, z27⟩ := st_t27 hts hgv hA
  obtain ⟨a28, t28, z28⟩ := st_t28 hts hgv hA
  obtain ⟨a29, t29, z29⟩ := st_t29 hts hgv hA
  obtain ⟨a30, t30, z30⟩ := st_t30 hts hgv hA
  refine st_made (A := fun q : Nat => s.heap.size ≤ q) (fun _ h => h) hx hb hml hown hcw hK hN ⟨Nat.le_of_ble_eq_true rfl, Nat.le_of_ble_eq_true rfl, Nat.le_of_ble_eq_true rfl, Nat.le_of_ble_eq_true rfl⟩ (fun q0 q1 q2 q3 q4 q5 q6 q7 q8 q9 q10 q11 q12 q13 q14 q15 q16 q17 q18 q19 q20 q21 q22 q23 q24 q25 ls H locs hl hP hD hS => ?_)
  have hI : pm_I (dC, dI) cA (st_ad [q0, q1, q2, q3, q4, q5, q6, q7, q8, q9, q10, q11, q12, q13, q14, q15, q16, q17, q18, q19, q20, q21, q22, q23, q24, q25, a26, a27, a28, a29, a30, b]) (fun q : Nat => s.heap.size ≤ q) L (st_M xs) s s.heap := by
    refine ⟨hK, fun q hq => va_Nw.of rfl (hts _ (tb_nF q hq)), fun q hq => va_Nw.of rfl (hts _ (tb_nM q hq)), fun k h1 h2 => ?_, fun q hq => ?_⟩
    · have hk : k = 26 ∨ k = 27 ∨ k = 28 ∨ k = 29 ∨ k = 30 ∨ k = 31 := by omega
      rcases hk with rfl | rfl | rfl | rfl | rfl | rfl
      · exact t26
      · exact t27
      · exact t28
      · exact t29
      · exact t30
      · obtain ⟨scr, x1, x2, x3, x4, x5⟩ := hX
        exact ⟨scr, x1, x2, x3, Nat.le_of_eq x4.symm, by rw [x4]; rfl, x5, hA b hbl⟩
    · obtain ⟨i, hi⟩ := List.getElem?_of_mem hq
      rcases i with _ | _ | _ | _ | _ | i
      · cases hi; exact z26
      · cases hi; exact z27
      · cases hi; exact z28
      · cases hi; exact z29
      · cases hi; exact z30
      · cases hi
  have hH : pm_H (dC, dI) cA (st_ad [q0, q1, q2, q3, q4, q5, q6, q7, q8, q9, q10, q11, q12, q13, q14, q15, q16, q17, q18, q19, q20, q21, q22, q23, q24, q25, a26, a27, a28, a29, a30, b]) (fun q : Nat => s.heap.size ≤ q) (st_M xs) (st_M xs) H := ⟨by rw [st_w]; exact hP, by rw [st_w]; exact hD, fun _ _ => rfl⟩
  have hLR : pm_LR (st_ad [q0, q1, q2, q3, q4, q5, q6, q7, q8, q9, q10, q11, q12, q13, q14, q15, q16, q17, q18, q19, q20, q21, q22, q23, q24, q25, a26, a27, a28, a29, a30, b]) ls 4 [some (.inr (.inr 31)), some (.inr (.inr 0)), some (.inr (.inr 19)), none] := by
    refine ⟨rfl, hl.1, hl.2.1, fun i v h => ?_⟩
    rcases i with _ | _ | _ | _ | i
    · cases h; exact lv_at hl 2 rfl
    · cases h; exact lv_at hl 1 rfl
    · cases h; exact lv_at hl 0 rfl
    · cases h
    · cases h
  refine pm_walk (pm_PC L 8) 160 (fun r _ => r = some (.inl 1)) (by decide) hx hb hml hown hpw hI (Nat.le_of_ble_eq_true rfl) (Nat.le_of_ble_eq_true rfl) (Nat.le_of_ble_eq_true rfl) (Nat.le_of_ble_eq_true rfl) (fun a vs M Q h => pm_met 8 a vs M Q h) ?_ ?_ ?_ 16 [some (.inr (.inr 31)), some (.inr (.inr 0)), some (.inr (.inr 19)), none] [] (st_M xs) (w_law (d := 0) (by omega) (st_lw xs) (fun _ => rfl)) ls H locs hLR hH hS
  · intro pc ls H locs v M hdg _ hq _ hS
    cases hq
    exact va_forget (fun q hq => hS.2.2 q hq) (W.widen (k := 600000) (n := 7302250) (Nat.le_of_ble_eq_true rfl) (Nat.le_of_ble_eq_true rfl) (lw_ret hx hb hr hlocks hdg))
  · intro pc ls H locs v M _ hrt
    have h : (some FieldType.boolean : Option FieldType) = some .long := hrt
    cases h
  · intro pc ls H locs M _ hrt
    have h : (some FieldType.boolean : Option FieldType) = none := hrt
    cases h
