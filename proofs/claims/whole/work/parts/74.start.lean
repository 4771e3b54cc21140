/-! The start: the memory behind the two constructors, the classes of the tables. -/
def st_M (xs : Nat → Int32) : pm_M := fun k => match k with
  | 0 => fun j => ([0, 0, 0, 15, 17, 0] : List Int32).getD j 0
  | 12 => fun j => ([0, 0, 0, 1] : List Int32).getD j 0
  | 15 => fun j => ([0, 0, 1, 1, 1] : List Int32).getD j 0
  | 17 => fun j => ([0, 0, 1, 1, 1] : List Int32).getD j 0
  | 19 => fun j => ([0, 1, 1, 1] : List Int32).getD j 0
  | 26 => fun i => nI (ps_x0 i)
  | 27 => fun i => nI (ps_y0 i)
  | 28 => fun i => nI (ps_dx i)
  | 29 => fun i => nI (ps_dy i)
  | 30 => fun i => nI (ps_sg i)
  | 31 => xs
  | _ => fun _ => 0
theorem st_lw (xs : Nat → Int32) : lw_i (st_M xs) := by
  refine ⟨0, 1, 1, 1, fun _ _ _ => 0, [], 0, fun _ => 0, ?_, ?_, ?_, ?_, ?_, ?_⟩
  · exact ⟨Or.inl ⟨rfl, Or.inl rfl⟩, ⟨by decide, by decide⟩, ⟨by decide, by decide⟩⟩
  · exact fun _ _ _ _ _ _ => ⟨0, by decide, rfl⟩
  · intro i x h
    simp at h
  · exact ⟨15, 17, Or.inl ⟨rfl, rfl⟩, rfl, rfl, ⟨⟨rfl, rfl, rfl, rfl⟩, fun _ _ _ _ _ _ => rfl⟩, ⟨rfl, Nat.zero_le _, fun i x h => by simp at h⟩, rfl, fun _ _ => rfl⟩
  · exact ⟨⟨rfl, rfl, rfl, rfl⟩, fun _ _ _ _ _ _ => rfl, ⟨rfl, Nat.zero_le _, fun i x h => by simp at h⟩, rfl, fun _ _ => rfl⟩
  · exact fun _ _ => ⟨rfl, rfl, rfl, rfl, rfl⟩
def st_ad (L : List Nat) (k : Nat) : Nat := L.getD k 0
abbrev st_W (cA : ClassId) (q0 q1 q2 q3 q4 q5 q6 q7 q8 q9 q10 q11 q12 q13 q14 q15 q16 q17 q18 q19 q20 q21 q22 q23 q24 q25 : Nat) : va_W := [(q0, .inr (7, [.ref q1, .ref q4, .ref q10, .ref q15, .ref q17, .int 0])), (q1, .inr (2, [.ref q2, .int 0])), (q2, .inr (1, [.ref q3, .int 0])), (q3, .inl (cA, (700, .inl fun _ => 0))), (q4, .inr (3, [.ref q5, .ref q7, .int 0, .int 0, .int 0, .int 0])), (q5, .inr (1, [.ref q6, .int 0])), (q6, .inl (cA, (300, .inl fun _ => 0))), (q7, .inr (0, [.ref q8, .int 0, .int 0])), (q8, .inr (1, [.ref q9, .int 0])), (q9, .inl (cA, (700, .inl fun _ => 0))), (q10, .inr (6, [.ref q11, .ref q12])), (q11, .inl (cA, (5, .inl fun _ => 0))), (q12, .inr (5, [.ref q13, .ref q14, .int 0, .int 1])), (q13, .inl (cA, (32, .inl fun _ => 0))), (q14, .inl (cA, (32, .inl fun _ => 0))), (q15, .inr (4, [.ref q16, .int 0, .int 1, .int 1, .int 1])), (q16, .inl (cA, (256, .inl fun _ => 0))), (q17, .inr (4, [.ref q18, .int 0, .int 1, .int 1, .int 1])), (q18, .inl (cA, (256, .inl fun _ => 0))), (q19, .inr (8, [.int 0, .int 1, .int 1, .int 1, .ref q20, .ref q21, .int 0, .ref q22, .ref q23, .ref q24, .int 0, .int 0, .int 0, .ref q25, .int 0, .int 0, .int 0, .int 0, .int 0, .int 0, .int 0, .int 0, .int 0, .int 0, .int 0, .int 0])), (q20, .inl (cA, (256, .inl fun _ => 0))), (q21, .inl (cA, (256, .inl fun _ => 0))), (q22, .inl (cA, (700, .inl fun _ => 0))), (q23, .inl (cA, (5, .inl fun _ => 0))), (q24, .inl (cA, (5, .inl fun _ => 0))), (q25, .inl (cA, (300, .inl fun _ => 0)))]
set_option maxRecDepth 100000 in
theorem st_w {cA : ClassId} {xs : Nat → Int32} {q0 q1 q2 q3 q4 q5 q6 q7 q8 q9 q10 q11 q12 q13 q14 q15 q16 q17 q18 q19 q20 q21 q22 q23 q24 q25 a26 a27 a28 a29 a30 b : Nat} : pm_w (st_ad [q0, q1, q2, q3, q4, q5, q6, q7, q8, q9, q10, q11, q12, q13, q14, q15, q16, q17, q18, q19, q20, q21, q22, q23, q24, q25, a26, a27, a28, a29, a30, b]) cA (st_M xs) = st_W cA q0 q1 q2 q3 q4 q5 q6 q7 q8 q9 q10 q11 q12 q13 q14 q15 q16 q17 q18 q19 q20 q21 q22 q23 q24 q25 := rfl
theorem cw_inst : ∀ {a : Nat}, a < 9 → Cond.instantiable (pm_q a).1 (pm_q a).2.2 ∈ cw_ws
  | 0, _ => cw_m (i := 6) rfl
  | 1, _ => cw_m (i := 10) rfl
  | 2, _ => cw_m (i := 14) rfl
  | 3, _ => cw_m (i := 18) rfl
  | 4, _ => cw_m (i := 22) rfl
  | 5, _ => cw_m (i := 26) rfl
  | 6, _ => cw_m (i := 30) rfl
  | 7, _ => cw_m (i := 34) rfl
  | 8, _ => cw_m (i := 38) rfl
  | n + 9, h => absurd h (by omega)
theorem st_K {args : Array Value} {s : State} (hts : ∀ w ∈ cw_ws, w.before args s = true) : ∃ (dC : Nat → ClassId) (dI : Nat → Nat → Nat) (cA : ClassId), va_K (dC, dI) pm_cls [(cA, .int)] s := by
  have h : ∀ a : Nat, ∃ z : ClassId × (Nat → Nat), a < 9 → u_Kn s (pm_q a).1 (pm_q a).2.1 (pm_q a).2.2 z.1 z.2 := by
    intro a
    by_cases ha : a < 9
    · obtain ⟨c, i, h⟩ := u_known hts (cw_u ha) (hts _ (cw_inst ha))
      exact ⟨(c, i), fun _ => h⟩
    · obtain ⟨c, i, h⟩ := u_known hts (cw_u (a := 0) (by decide)) (hts _ (cw_inst (a := 0) (by decide)))
      exact ⟨(c, i), fun z => absurd z ha⟩
  obtain ⟨f, hf⟩ := Classical.skolem.mp h
  obtain ⟨cA, kA, comp, h1, h2, h3⟩ := Cond.arrayClass_spec (hts (.arrayClass .int) (cw_m (i := 2) rfl))
  refine ⟨fun a => (f a).1, fun a => (f a).2, cA, fun c q hq => ?_, fun k q hq => ?_⟩
  · have hc : c < 9 := (List.getElem?_eq_some_iff.mp hq).1
    have e : q = pm_q c := by
      unfold pm_q
      rw [List.getD_eq_getElem?_getD, hq]
      rfl
    subst e
    exact hf c hc
  · have hz : k < 1 := (List.getElem?_eq_some_iff.mp hq).1
    rw [show k = 0 by omega] at hq
    cases hq
    exact ⟨fun n z => ⟨fun k h => (by cases h), kA, h2, comp, h3⟩, h1⟩
