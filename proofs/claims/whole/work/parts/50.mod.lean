/-! SevenPassImageModel: shape, samples, bytes of the file. -/
def mo_ks : List Nat := [19, 20, 21, 22, 23, 24, 25]
def mo_f (M : pm_M) (F : List Int32) : Prop := M 19 6 = nI F.length ∧ F.length ≤ 700 ∧ ∀ i x, F[i]? = some x → M 22 i = x
def mo_sh (M : pm_M) (kd dp w h : Nat) : Prop := M 19 0 = nI kd ∧ M 19 1 = nI dp ∧ M 19 2 = nI w ∧ M 19 3 = nI h
def mo_s (M : pm_M) (b kd w h : Nat) (f : Nat → Nat → Nat → Int32) : Prop := ∀ x y c, x < w → y < h → c < pc_pp kd → M b (32 * y + 4 * x + c) = f x y c
/-- the model's state -/
def mo_is (M : pm_M) (kd dp w h : Nat) (f : Nat → Nat → Nat → Int32) (F : List Int32) (cc : Int32) (rc : Nat → Int32) : Prop :=
  mo_sh M kd dp w h ∧ mo_s M 20 kd w h f ∧ mo_f M F ∧ M 19 10 = cc ∧ (∀ i, i < 5 → M 23 i = rc i)
theorem mo_f.at {M : pm_M} {F : List Int32} (h : mo_f M F) {i : Nat} (hi : i < F.length) : M 22 i = (F[i]?).getD (-1) := by
  rw [List.getElem?_eq_getElem hi]
  exact h.2.2 i _ (List.getElem?_eq_getElem hi)
section MOD
variable {S d : Nat} {Q : pm_Q} {M : pm_M} {kd dp w h : Nat} {f : Nat → Nat → Nat → Int32} {F : List Int32} {cc : Int32} {rc : Nat → Int32}
theorem w_Mod_within {v lo hi : Int32} (hy : ¬ v < lo → ¬ hi < v → Q (some (.inl 1)) M) (hn : (v < lo ∨ hi < v) → Q (some (.inl 0)) M) : pm_PC S (d + 1) 93 [.inl v, .inl lo, .inl hi] M Q :=
  e_Mod_within (k_Mod_within_0 (fun z => k_Mod_within_14 (k_Mod_within_15 (by decide) (hn (Or.inl z)))) (fun h1 => k_Mod_within_5 (fun z => k_Mod_within_14 (k_Mod_within_15 (by decide) (hn (Or.inr z)))) (fun h2 => k_Mod_within_10 (k_Mod_within_15 (by decide) (hy h1 h2)))))
def mo_pt (k : Int32) : Int32 := if k = 0 then 1 else if k = 2 then 3 else if k = 4 then 2 else if k = 6 then 4 else 0
theorem w_Mod_parts {k : Int32} (hq : Q (some (.inl (mo_pt k))) M) : pm_PC S (d + 1) 94 [.inl k] M Q := by
  unfold mo_pt at hq
  refine e_Mod_parts (k_Mod_parts_0 (fun h1 => k_Mod_parts_8 (fun h2 => k_Mod_parts_17 (fun h3 => k_Mod_parts_26 (fun h4 => k_Mod_parts_36 (k_Mod_parts_37 ?_)) (fun h4 => k_Mod_parts_32 (k_Mod_parts_37 ?_))) (fun h3 => k_Mod_parts_22 (k_Mod_parts_37 ?_))) (fun h2 => k_Mod_parts_13 (k_Mod_parts_37 ?_))) (fun h1 => k_Mod_parts_4 (k_Mod_parts_37 ?_)))
  · rw [if_neg h1, if_neg h2, if_neg h3, if_neg h4] at hq; exact hq
  · rw [if_neg h1, if_neg h2, if_neg h3, if_pos (Classical.not_not.mp h4)] at hq; exact hq
  · rw [if_neg h1, if_neg h2, if_pos (Classical.not_not.mp h3)] at hq; exact hq
  · rw [if_neg h1, if_pos (Classical.not_not.mp h2)] at hq; exact hq
  · rw [if_pos (Classical.not_not.mp h1)] at hq; exact hq
theorem mo_pt_nI (hk : kd = 0 ∨ kd = 2 ∨ kd = 4 ∨ kd = 6) : mo_pt (nI kd) = nI (pc_pp kd) := by
  rcases hk with rfl | rfl | rfl | rfl <;> decide
theorem w_parts_nI (hk : kd = 0 ∨ kd = 2 ∨ kd = 4 ∨ kd = 6) (hq : Q (some (.inl (nI (pc_pp kd)))) M) : pm_PC S (d + 1) 94 [.inl (nI kd)] M Q := w_Mod_parts (by rw [mo_pt_nI hk]; exact hq)
theorem mo_pt_0 {k : Int32} : mo_pt k ≤ 0 ↔ ¬ (k = 0 ∨ k = 2 ∨ k = 4 ∨ k = 6) := by
  unfold mo_pt
  constructor
  · rintro h (rfl | rfl | rfl | rfl) <;> revert h <;> decide
  · intro h
    rw [if_neg (fun z => h (Or.inl z)), if_neg (fun z => h (Or.inr (Or.inl z))), if_neg (fun z => h (Or.inr (Or.inr (Or.inl z)))), if_neg (fun z => h (Or.inr (Or.inr (Or.inr z))))]
    decide
theorem w_ip_end {k e x y b : Int32} {l4 : Option pm_V} (hb : (b = 1 ∧ (e = 8 ∨ k = 0 ∧ (e = 1 ∨ e = 2 ∨ e = 4))) ∨ (b = 0 ∧ ¬ (e = 8 ∨ k = 0 ∧ (e = 1 ∨ e = 2 ∨ e = 4)))) (hy : pc_v k e x y → Q (some (.inl 1)) M) (hn : ¬ pc_v k e x y → Q (some (.inl 0)) M) : pm_R S (pm_PC S (d + 1)) Q 95 30 [some (.inl k), some (.inl e), some (.inl x), some (.inl y), l4] [.inl b] M := by
  have no : (¬ pc_v k e x y) → ∀ l4, pm_R S (pm_PC S (d + 1)) Q 95 68 [some (.inl k), some (.inl e), some (.inl x), some (.inl y), l4] [] M := fun h l4 => k_Mod_isPicture_68 (k_Mod_isPicture_69 (by decide) (hn h))
  refine k_Mod_isPicture_30 (w_Mod_parts (k_Mod_isPicture_36 (fun z => no (fun v => ?_) _) (fun z => k_Mod_isPicture_39 (fun z2 => no (fun v => ?_) _) (fun z2 => k_Mod_isPicture_44 (w_Mod_within (fun w1 w2 => k_Mod_isPicture_51 (fun t => absurd t (by decide)) (fun _ => k_Mod_isPicture_54 (w_Mod_within (fun v1 v2 => k_Mod_isPicture_61 (fun t => absurd t (by decide)) (fun _ => k_Mod_isPicture_64 (k_Mod_isPicture_69 (by decide) (hy ⟨?_, w1, w2, v1, v2⟩)))) (fun t => k_Mod_isPicture_61 (fun _ => no (fun v => t.elim v.2.2.2.1 v.2.2.2.2) _) (fun t => absurd rfl t))))) (fun t => k_Mod_isPicture_51 (fun _ => no (fun v => t.elim v.2.1 v.2.2.1) _) (fun t => absurd rfl t)))))))
  · refine mo_pt_0.mp z ?_
    rcases v.1 with ⟨q, -⟩ | ⟨q | q | q, -⟩
    · exact Or.inl q
    · exact Or.inr (Or.inl q)
    · exact Or.inr (Or.inr (Or.inl q))
    · exact Or.inr (Or.inr (Or.inr q))
  · rcases hb with ⟨rfl, -⟩ | ⟨-, hb⟩
    · exact absurd z2 (by decide)
    · apply hb
      rcases v.1 with ⟨q, r | r | r | r⟩ | ⟨-, q⟩
      · exact Or.inr ⟨q, Or.inl r⟩
      · exact Or.inr ⟨q, Or.inr (Or.inl r)⟩
      · exact Or.inr ⟨q, Or.inr (Or.inr r)⟩
      · exact Or.inl r
      · exact Or.inl q
  · rcases hb with ⟨-, hb⟩ | ⟨rfl, -⟩
    · have z3 := Classical.not_not.mp (fun t => z (mo_pt_0.mpr t))
      rcases hb with q | ⟨q, r | r | r⟩
      · rcases z3 with t | t | t | t
        · exact Or.inl ⟨t, Or.inr (Or.inr (Or.inr q))⟩
        · exact Or.inr ⟨Or.inl t, q⟩
        · exact Or.inr ⟨Or.inr (Or.inl t), q⟩
        · exact Or.inr ⟨Or.inr (Or.inr t), q⟩
      · exact Or.inl ⟨q, Or.inl r⟩
      · exact Or.inl ⟨q, Or.inr (Or.inl r)⟩
      · exact Or.inl ⟨q, Or.inr (Or.inr (Or.inl r))⟩
    · exact absurd rfl z2
theorem w_Mod_isPicture {k e x y : Int32} (hy : pc_v k e x y → Q (some (.inl 1)) M) (hn : ¬ pc_v k e x y → Q (some (.inl 0)) M) : pm_PC S (d + 2) 95 [.inl k, .inl e, .inl x, .inl y] M Q := by
  refine e_Mod_isPicture (k_Mod_isPicture_0 (fun z => k_Mod_isPicture_25 (w_ip_end (Or.inl ⟨rfl, Or.inl z⟩) hy hn)) (fun z => k_Mod_isPicture_6 (fun z2 => k_Mod_isPicture_29 (w_ip_end (Or.inr ⟨rfl, fun t => t.elim z (fun t => z2 t.1)⟩) hy hn)) (fun z2 => k_Mod_isPicture_10 (fun z3 => k_Mod_isPicture_25 (w_ip_end (Or.inl ⟨rfl, Or.inr ⟨Classical.not_not.mp z2, Or.inl z3⟩⟩) hy hn)) (fun z3 => k_Mod_isPicture_15 (fun z4 => k_Mod_isPicture_25 (w_ip_end (Or.inl ⟨rfl, Or.inr ⟨Classical.not_not.mp z2, Or.inr (Or.inl z4)⟩⟩) hy hn)) (fun z4 => k_Mod_isPicture_20 (fun z5 => k_Mod_isPicture_29 (w_ip_end (Or.inr ⟨rfl, fun t => t.elim z (fun t => t.2.elim z3 (fun t => t.elim z4 z5))⟩) hy hn)) (fun z5 => k_Mod_isPicture_25 (w_ip_end (Or.inl ⟨rfl, Or.inr ⟨Classical.not_not.mp z2, Or.inr (Or.inr (Classical.not_not.mp z5))⟩⟩) hy hn)))))))
theorem w_mb_loop {l1 l2 l3 : Option pm_V} {x4 : Int32} : ∀ (k i : Nat) (M : pm_M), i + k = 256 → (∀ j, j < i → M 20 j = 0) → (∀ M', (∀ j, j < 256 → M' 20 j = 0) → pm_ag [20] M M' → Q (some (.inl 1)) M') → pm_R S (pm_PC S d) Q 96 37 [some (.inr (.inr 19)), l1, l2, l3, some (.inl x4), some (.inl (nI i))] [] M := by
  intro k
  induction k with
  | zero =>
    intro i M hi hd hq
    have e : i = 256 := by omega
    subst e
    exact k_Mod_begin_37 (fun _ => k_Mod_begin_59 (hq M hd pm_ag.rf)) (fun z => absurd (by decide) z)
  | succ k ih =>
    intro i M hi hd hq
    refine k_Mod_begin_37 (fun z => absurd z (nI_ge (b := 256) (by omega) (by decide))) (fun _ => k_Mod_begin_45 (vp_in_nI (by omega) (by decide)) ?_)
    rw [nI_clamp (by omega), nI_1]
    refine ih (i + 1) _ (by omega) (fun j hj => ?_) (fun M' h1 h2 => hq M' h1 ((pm_ag.up (by simp)).tr h2))
    by_cases e : j = i
    · subst e; exact pm_up_hit
    · rw [pm_up_off (Or.inr e)]; exact hd j (by omega)
theorem w_Mod_begin {K D W H : Int32} (hi : mo_is M kd dp w h f F cc rc) (hy : ∀ kd' dp' w' h', pc_ok kd' dp' w' h' → K = nI kd' → D = nI dp' → W = nI w' → H = nI h' → ∀ M', mo_is M' kd' dp' w' h' (fun _ _ _ => 0) F cc rc → pm_ag mo_ks M M' → Q (some (.inl 1)) M') (hn : ¬ pc_v K D W H → Q (some (.inl 0)) M) : pm_PC S (d + 3) 96 [.inr (.inr 19), .inl K, .inl D, .inl W, .inl H] M Q := by
  obtain ⟨i1, i2, i3, i4, i5⟩ := hi
  refine e_Mod_begin (k_Mod_begin_0 (w_Mod_isPicture (fun hv => k_Mod_begin_8 (fun _ => k_Mod_begin_13 ?_) (fun z => absurd (by decide) z)) (fun hv => k_Mod_begin_8 (fun z => absurd rfl z) (fun _ => k_Mod_begin_11 (hn hv)))))
  obtain ⟨kd', dp', w', h', hok, rfl, rfl, rfl, rfl⟩ := pc_v_ok hv
  have hw := hok.2.1
  have hh := hok.2.2
  refine w_mb_loop 256 0 _ (by decide) (fun j hj => absurd hj (Nat.not_lt_zero j)) (fun M' g1 g2 => hy kd' dp' w' h' hok rfl rfl rfl rfl M' ⟨⟨?_, ?_, ?_, ?_⟩, fun x y c hx hy' hc => g1 _ ?_, ⟨?_, i3.2.1, fun i x hx => ?_⟩, ?_, fun i hi => ?_⟩ ?_)
  · rw [g2 19 (by decide), pm_up_off (Or.inr (by decide)), pm_up_off (Or.inr (by decide)), pm_up_off (Or.inr (by decide)), pm_up_hit]
  · rw [g2 19 (by decide), pm_up_off (Or.inr (by decide)), pm_up_off (Or.inr (by decide)), pm_up_hit]
  · rw [g2 19 (by decide), pm_up_off (Or.inr (by decide)), pm_up_hit]
  · rw [g2 19 (by decide), pm_up_hit]
  · have := pc_pp_le kd'
    omega
  · rw [g2 19 (by decide), pm_up_off (Or.inr (by decide)), pm_up_off (Or.inr (by decide)), pm_up_off (Or.inr (by decide)), pm_up_off (Or.inr (by decide))]
    exact i3.1
  · rw [g2 22 (by decide), pm_up_off (Or.inl (by decide)), pm_up_off (Or.inl (by decide)), pm_up_off (Or.inl (by decide)), pm_up_off (Or.inl (by decide))]
    exact i3.2.2 i x hx
  · rw [g2 19 (by decide), pm_up_off (Or.inr (by decide)), pm_up_off (Or.inr (by decide)), pm_up_off (Or.inr (by decide)), pm_up_off (Or.inr (by decide))]
    exact i4
  · rw [g2 23 (by decide), pm_up_off (Or.inl (by decide)), pm_up_off (Or.inl (by decide)), pm_up_off (Or.inl (by decide)), pm_up_off (Or.inl (by decide))]
    exact i5 i hi
  · exact ((((pm_ag.up (by decide)).tr (pm_ag.up (by decide))).tr (pm_ag.up (by decide))).tr (pm_ag.up (by decide))).of g2 (by decide)
theorem w_Mod_shape (hi : mo_is M kd dp w h f F cc rc) (hq : Q (some (.inl (1000000 * nI kd + 10000 * nI dp + 100 * nI w + nI h))) M) : pm_PC S (d + 1) 97 [.inr (.inr 19)] M Q := by
  obtain ⟨i1, i2, i3, i4, i5⟩ := hi
  refine e_Mod_shape (k_Mod_shape_0 ?_)
  rw [i1.1, i1.2.1, i1.2.2.1, i1.2.2.2]
  exact hq
theorem mo_in {X : Int32} {n : Nat} (hn : 1 ≤ n ∧ n < 1000) (h1 : ¬ X < 0) (h2 : ¬ nI n - 1 < X) : ∃ x : Nat, x < n ∧ X = nI x := by
  obtain ⟨x, hx, rfl⟩ := nI_of h1
  rw [show (1 : Int32) = nI 1 from rfl, pk_sub hn.1, nI_ltI (by omega) hx] at h2
  exact ⟨x, by omega, rfl⟩
theorem mo_out {X : Int32} {n : Nat} (hn : 1 ≤ n ∧ n < 1000) (h : X < 0 ∨ nI n - 1 < X) : X < 0 ∨ nI n ≤ X := by
  rcases h with h | h
  · exact Or.inl h
  · by_cases hX : X < 0
    · exact Or.inl hX
    · obtain ⟨x, hx, rfl⟩ := nI_of hX
      rw [show (1 : Int32) = nI 1 from rfl, pk_sub hn.1, nI_ltI (by omega) hx] at h
      exact Or.inr (nI_le (by omega) hx)
theorem w_Mod_noSample {X Y C : Int32} (hok : pc_ok kd dp w h) (hs : mo_sh M kd dp w h) (hy : ∀ x y c : Nat, x < w → y < h → c < pc_pp kd → X = nI x → Y = nI y → C = nI c → Q (some (.inl 0)) M) (hn : (X < 0 ∨ nI w ≤ X ∨ Y < 0 ∨ nI h ≤ Y ∨ C < 0 ∨ nI (pc_pp kd) ≤ C) → Q (some (.inl 1)) M) : pm_PC S (d + 2) 98 [.inr (.inr 19), .inl X, .inl Y, .inl C] M Q := by
  have hw := hok.2.1
  have hh := hok.2.2
  have hpp := pc_pp_le kd
  refine e_Mod_noSample (k_Mod_noSample_0 ?_)
  rw [hs.2.2.1]
  refine w_Mod_within (fun x1 x2 => k_Mod_noSample_11 (fun t => absurd t (by decide)) (fun _ => k_Mod_noSample_14 ?_)) (fun t => k_Mod_noSample_11 (fun _ => k_Mod_noSample_45 (k_Mod_noSample_50 (by decide) (hn ?_))) (fun t => absurd rfl t))
  · rw [hs.2.2.2]
    refine w_Mod_within (fun y1 y2 => k_Mod_noSample_25 (fun t => absurd t (by decide)) (fun _ => k_Mod_noSample_28 ?_)) (fun t => k_Mod_noSample_25 (fun _ => k_Mod_noSample_45 (k_Mod_noSample_50 (by decide) (hn ?_))) (fun t => absurd rfl t))
    · rw [hs.1]
      refine w_parts_nI (pc_kd hok) (k_Mod_noSample_37 (w_Mod_within (fun c1 c2 => k_Mod_noSample_42 (fun _ => k_Mod_noSample_49 (k_Mod_noSample_50 (by decide) ?_)) (fun t => absurd (by decide) t)) (fun t => k_Mod_noSample_42 (fun t => absurd rfl t) (fun _ => k_Mod_noSample_45 (k_Mod_noSample_50 (by decide) (hn ?_))))))
      · obtain ⟨x, hx, ex⟩ := mo_in ⟨hw.1, by omega⟩ x1 x2
        obtain ⟨y, hy', ey⟩ := mo_in ⟨hh.1, by omega⟩ y1 y2
        obtain ⟨c, hc, ec⟩ := mo_in ⟨hpp.1, by omega⟩ c1 c2
        exact hy x y c hx hy' hc ex ey ec
      · rcases mo_out ⟨hpp.1, by omega⟩ t with t | t
        · exact Or.inr (Or.inr (Or.inr (Or.inr (Or.inl t))))
        · exact Or.inr (Or.inr (Or.inr (Or.inr (Or.inr t))))
    · rcases mo_out ⟨hh.1, by omega⟩ t with t | t
      · exact Or.inr (Or.inr (Or.inl t))
      · exact Or.inr (Or.inr (Or.inr (Or.inl t)))
  · rcases mo_out ⟨hw.1, by omega⟩ t with t | t
    · exact Or.inl t
    · exact Or.inr (Or.inl t)
theorem mo_ix {x y c : Nat} : 32 * nI y + 4 * nI x + nI c = nI (32 * y + 4 * x + c) := by
  rw [show (32 : Int32) = nI 32 from rfl, show (4 : Int32) = nI 4 from rfl, pk_mul, pk_mul, nI_add, nI_add]
theorem w_Mod_set {X Y C V : Int32} (hok : pc_ok kd dp w h) (hi : mo_is M kd dp w h f F cc rc) (hy : ∀ x y c v : Nat, x < w → y < h → c < pc_pp kd → v < 2 ^ dp → X = nI x → Y = nI y → C = nI c → V = nI v → ∀ M', mo_is M' kd dp w h (im_up f x y c V) F cc rc → pm_ag mo_ks M M' → Q (some (.inl 1)) M') (hn : (X < 0 ∨ nI w ≤ X ∨ Y < 0 ∨ nI h ≤ Y ∨ C < 0 ∨ nI (pc_pp kd) ≤ C ∨ V < 0 ∨ nI (2 ^ dp) ≤ V) → Q (some (.inl 0)) M) : pm_PC S (d + 3) 99 [.inr (.inr 19), .inl X, .inl Y, .inl C, .inl V] M Q := by
  have hw := hok.2.1
  have hh := hok.2.2
  have hpp := pc_pp_le kd
  have hdp : pm_ishl 1 (nI dp) = nI (2 ^ dp) ∧ 1 ≤ 2 ^ dp ∧ 2 ^ dp < 1000 := by rcases pc_dp hok with rfl | rfl | rfl | rfl <;> decide
  obtain ⟨i1, i2, i3, i4, i5⟩ := hi
  refine e_Mod_set (k_Mod_set_0 (w_Mod_noSample hok i1 (fun x y c hx hy' hc ex ey ec => k_Mod_set_7 (fun t => absurd rfl t) (fun _ => k_Mod_set_10 ?_)) (fun t => k_Mod_set_7 (fun _ => k_Mod_set_27 (hn ?_)) (fun t => absurd (by decide) t))))
  · rw [i1.2.1, hdp.1]
    refine w_Mod_within (fun v1 v2 => k_Mod_set_24 (fun _ => ?_) (fun t => absurd (by decide) t)) (fun t => k_Mod_set_24 (fun t => absurd rfl t) (fun _ => k_Mod_set_27 (hn ?_)))
    · obtain ⟨v, hv, ev⟩ := mo_in hdp.2 v1 v2
      subst ex ey ec
      refine k_Mod_set_29 ?_ ?_
      · rw [mo_ix]
        exact vp_in_nI (by omega) (by decide)
      · rw [mo_ix, nI_clamp (by omega)]
        have a : pm_ag [20] M (pm_up M 20 (32 * y + 4 * x + c) V) := pm_ag.up (by simp)
        refine hy x y c v hx hy' hc hv rfl rfl rfl ev _ ⟨?_, fun x2 y2 c2 hx2 hy2 hc2 => ?_, ?_, ?_, ?_⟩ (a.wd (by decide))
        · unfold mo_sh
          rw [a 19 (by decide)]
          exact i1
        · unfold im_up
          by_cases e : x2 = x ∧ y2 = y ∧ c2 = c
          · obtain ⟨rfl, rfl, rfl⟩ := e
            rw [if_pos ⟨rfl, rfl, rfl⟩, pm_up_hit]
          · rw [if_neg e, pm_up_off (Or.inr (fun q => e (by omega)))]
            exact i2 x2 y2 c2 hx2 hy2 hc2
        · unfold mo_f
          rw [a 19 (by decide), a 22 (by decide)]
          exact i3
        · rw [a 19 (by decide)]
          exact i4
        · rw [a 23 (by decide)]
          exact i5
    · rcases mo_out hdp.2 t with t | t
      · exact Or.inr (Or.inr (Or.inr (Or.inr (Or.inr (Or.inr (Or.inl t))))))
      · exact Or.inr (Or.inr (Or.inr (Or.inr (Or.inr (Or.inr (Or.inr t))))))
  · rcases t with t | t | t | t | t | t
    · exact Or.inl t
    · exact Or.inr (Or.inl t)
    · exact Or.inr (Or.inr (Or.inl t))
    · exact Or.inr (Or.inr (Or.inr (Or.inl t)))
    · exact Or.inr (Or.inr (Or.inr (Or.inr (Or.inl t))))
    · exact Or.inr (Or.inr (Or.inr (Or.inr (Or.inr (Or.inl t)))))
theorem w_Mod_get {X Y C : Int32} (hok : pc_ok kd dp w h) (hi : mo_is M kd dp w h f F cc rc) (hy : ∀ x y c : Nat, x < w → y < h → c < pc_pp kd → X = nI x → Y = nI y → C = nI c → Q (some (.inl (f x y c))) M) (hn : (X < 0 ∨ nI w ≤ X ∨ Y < 0 ∨ nI h ≤ Y ∨ C < 0 ∨ nI (pc_pp kd) ≤ C) → Q (some (.inl (-1))) M) : pm_PC S (d + 3) 100 [.inr (.inr 19), .inl X, .inl Y, .inl C] M Q := by
  have hw := hok.2.1
  have hh := hok.2.2
  have hpp := pc_pp_le kd
  obtain ⟨i1, i2, i3, i4, i5⟩ := hi
  refine e_Mod_get (k_Mod_get_0 (w_Mod_noSample hok i1 (fun x y c hx hy' hc ex ey ec => k_Mod_get_7 (fun _ => ?_) (fun t => absurd rfl t)) (fun t => k_Mod_get_7 (fun t => absurd t (by decide)) (fun _ => k_Mod_get_10 (k_Mod_get_29 (hn t))))))
  have hq := hy x y c hx hy' hc ex ey ec
  subst ex ey ec
  refine k_Mod_get_14 ?_ (k_Mod_get_29 ?_)
  · rw [mo_ix]
    exact vp_in_nI (by omega) (by decide)
  · rw [mo_ix, nI_clamp (by omega), i2 x y c hx hy' hc]
    exact hq
theorem w_Mod_length (hi : mo_is M kd dp w h f F cc rc) (hq : Q (some (.inl (nI F.length))) M) : pm_PC S (d + 1) 153 [.inr (.inr 19)] M Q := by
  refine e_Mod_length (k_Mod_length_0 ?_)
  rw [hi.2.2.1.1]
  exact hq
theorem mo_in0 {X : Int32} {n : Nat} (hn : n ≤ 700) (h1 : ¬ X < 0) (h2 : ¬ nI n - 1 < X) : ∃ x : Nat, x < n ∧ X = nI x := by
  by_cases h : 1 ≤ n
  · exact mo_in ⟨h, by omega⟩ h1 h2
  · have e : n = 0 := by omega
    subst e
    exact absurd (Int32.lt_of_lt_of_le (show nI 0 - 1 < 0 by decide) (Int32.not_lt.mp h1)) h2
theorem mo_out0 {X : Int32} {n : Nat} (hn : n ≤ 700) (h : X < 0 ∨ nI n - 1 < X) : X < 0 ∨ nI n ≤ X := by
  by_cases h1 : 1 ≤ n
  · exact mo_out ⟨h1, by omega⟩ h
  · have e : n = 0 := by omega
    subst e
    by_cases hX : X < 0
    · exact Or.inl hX
    · exact Or.inr (Int32.not_lt.mp hX)
theorem w_Mod_byteAt {k : Int32} (hi : mo_is M kd dp w h f F cc rc) (hq : Q (some (.inl (by_at F k))) M) : pm_PC S (d + 2) 154 [.inr (.inr 19), .inl k] M Q := by
  obtain ⟨i1, i2, i3, i4, i5⟩ := hi
  refine e_Mod_byteAt (k_Mod_byteAt_0 ?_)
  rw [i3.1]
  refine w_Mod_within (fun h1 h2 => k_Mod_byteAt_11 (fun t => absurd t (by decide)) (fun _ => ?_)) (fun t => k_Mod_byteAt_11 (fun _ => k_Mod_byteAt_23 (k_Mod_byteAt_24 ?_)) (fun t => absurd rfl t))
  · obtain ⟨i, hi, rfl⟩ := mo_in0 i3.2.1 h1 h2
    have := i3.2.1
    refine k_Mod_byteAt_14 (vp_in_nI (by omega) (by decide)) (k_Mod_byteAt_24 ?_)
    rw [nI_clamp (by omega), i3.at hi]
    rw [by_at_nI (by omega)] at hq
    exact hq
  · have e : by_at F k = -1 := by
      unfold by_at
      by_cases hk : k < 0
      · rw [if_pos hk]
      · rw [if_neg hk]
        obtain ⟨i, hi, rfl⟩ := nI_of hk
        have := i3.2.1
        rcases mo_out0 i3.2.1 t with t | t
        · exact absurd t hk
        · rw [nI_leI (by omega) hi] at t
          rw [nI_clamp hi, List.getElem?_eq_none t]
          rfl
    rw [e] at hq
    exact hq
theorem mo_file {M' : pm_M} {F' : List Int32} (hi : mo_is M kd dp w h f F cc rc) (hl : mo_f M' F') (h19 : ∀ j, j ≠ 6 → M' 19 j = M 19 j) (ha : pm_ag [19, 22] M M') : mo_is M' kd dp w h f F' cc rc ∧ pm_ag mo_ks M M' := by
  obtain ⟨i1, i2, i3, i4, i5⟩ := hi
  refine ⟨⟨?_, ?_, hl, ?_, ?_⟩, ha.wd (by decide)⟩
  · unfold mo_sh
    rw [h19 0 (by decide), h19 1 (by decide), h19 2 (by decide), h19 3 (by decide)]
    exact i1
  · unfold mo_s
    rw [ha 20 (by decide)]
    exact i2
  · rw [h19 10 (by decide)]
    exact i4
  · rw [ha 23 (by decide)]
    exact i5
theorem mo_f.set {i : Nat} {v : Int32} (h : mo_f M F) : mo_f (pm_up M 22 i v) (F.set i v) := by
  refine ⟨?_, ?_, fun j x hx => ?_⟩
  · rw [pm_up_off (Or.inl (by decide)), List.length_set]
    exact h.1
  · rw [List.length_set]
    exact h.2.1
  · rw [List.getElem?_set] at hx
    split at hx
    · rename_i e
      subst e
      split at hx
      · cases hx
        exact pm_up_hit
      · cases hx
    · rename_i e
      rw [pm_up_off (Or.inr (fun z => e z.symm))]
      exact h.2.2 j x hx
theorem w_Mod_poke {k v : Int32} (hi : mo_is M kd dp w h f F cc rc) (hy : ∀ i : Nat, i < F.length → k = nI i → ¬ v < 0 → ¬ 255 < v → ∀ M', mo_is M' kd dp w h f (F.set i v) cc rc → pm_ag mo_ks M M' → Q (some (.inl 1)) M') (hn : (k < 0 ∨ nI F.length ≤ k ∨ v < 0 ∨ 255 < v) → Q (some (.inl 0)) M) : pm_PC S (d + 2) 155 [.inr (.inr 19), .inl k, .inl v] M Q := by
  have hi0 := hi
  obtain ⟨i1, i2, i3, i4, i5⟩ := hi
  have h700 := i3.2.1
  refine e_Mod_poke (k_Mod_poke_0 ?_)
  rw [i3.1]
  refine w_Mod_within (fun h1 h2 => k_Mod_poke_11 (fun t => absurd t (by decide)) (fun _ => k_Mod_poke_14 (w_Mod_within (fun v1 v2 => k_Mod_poke_22 (fun _ => ?_) (fun t => absurd (by decide) t)) (fun t => k_Mod_poke_22 (fun t => absurd rfl t) (fun _ => k_Mod_poke_25 (hn (Or.inr (Or.inr t)))))))) (fun t => k_Mod_poke_11 (fun _ => k_Mod_poke_25 (hn ?_)) (fun t => absurd rfl t))
  · obtain ⟨i, hi, rfl⟩ := mo_in0 h700 h1 h2
    refine k_Mod_poke_27 (vp_in_nI (by omega) (by decide)) ?_
    rw [nI_clamp (by omega)]
    obtain ⟨q1, q2⟩ := mo_file hi0 (i3.set (i := i) (v := v)) (fun j hj => by rw [pm_up_off (Or.inl (by decide))]) (pm_ag.up (by decide))
    exact hy i hi rfl v1 v2 _ q1 q2
  · rcases mo_out0 h700 t with t | t
    · exact Or.inl t
    · exact Or.inr (Or.inl t)
theorem mo_f.push {v : Int32} (h : mo_f M F) (hc : F.length < 700) : mo_f (pm_up (pm_up M 22 F.length v) 19 6 (nI (F.length + 1))) (F ++ [v]) := by
  refine ⟨?_, ?_, fun j x hx => ?_⟩
  · rw [pm_up_hit, List.length_append]
    rfl
  · rw [List.length_append, List.length_singleton]
    omega
  · rw [pm_up_off (Or.inl (by decide))]
    by_cases e : j = F.length
    · subst e
      rw [List.getElem?_append_right (Nat.le_refl _), Nat.sub_self] at hx
      cases hx
      exact pm_up_hit
    · have hj : j < F.length := by
        by_cases hj : j < F.length
        · exact hj
        · rw [List.getElem?_eq_none (by rw [List.length_append, List.length_singleton]; omega)] at hx
          cases hx
      rw [List.getElem?_append_left hj] at hx
      rw [pm_up_off (Or.inr e)]
      exact h.2.2 j x hx
/-- a byte is put -/
theorem w_Mod_put {b : Int32} (hF : mo_f M F) (hc : F.length < 700) (hq : ∀ M', mo_f M' (F ++ [b &&& 255]) → (∀ j, j ≠ 6 → M' 19 j = M 19 j) → pm_ag [19, 22] M M' → Q none M') : pm_PC S (d + 1) 118 [.inr (.inr 19), .inl b] M Q := by
  have e6 : (M 19 6).toNatClampNeg = F.length := by rw [hF.1]; exact nI_clamp (by omega)
  refine e_Mod_put (k_Mod_put_0 (by rw [hF.1]; exact vp_in_nI hc (by decide)) ?_)
  rw [e6, hF.1, nI_1]
  refine hq _ (hF.push hc) (fun j hj => ?_) ((pm_ag.up (by decide)).tr (pm_ag.up (by decide)))
  rw [pm_up_off (Or.inr hj), pm_up_off (Or.inl (by decide))]
theorem w_Mod_append {v : Int32} (hi : mo_is M kd dp w h f F cc rc) (hy : F.length < 700 → ¬ v < 0 → ¬ 255 < v → ∀ M', mo_is M' kd dp w h f (F ++ [v]) cc rc → pm_ag mo_ks M M' → Q (some (.inl 1)) M') (hn : (700 ≤ F.length ∨ v < 0 ∨ 255 < v) → Q (some (.inl 0)) M) : pm_PC S (d + 2) 156 [.inr (.inr 19), .inl v] M Q := by
  have hi0 := hi
  obtain ⟨i1, i2, i3, i4, i5⟩ := hi
  have h700 := i3.2.1
  refine e_Mod_append (k_Mod_append_0 (w_Mod_within (fun v1 v2 => k_Mod_append_8 (fun t => absurd t (by decide)) (fun _ => k_Mod_append_11 (fun z => k_Mod_append_23 ?_) (fun z => k_Mod_append_21 (hn (Or.inl ?_))))) (fun t => k_Mod_append_8 (fun _ => k_Mod_append_21 (hn (Or.inr t))) (fun t => absurd rfl t))))
  · have hc : F.length < 700 := by
      by_cases hc : F.length < 700
      · exact hc
      · have e : F.length = 700 := by omega
        exact absurd (by rw [i3.1, e]; rfl) z
    have ev : v &&& 255 = v := by
      obtain ⟨n, hn9, rfl⟩ := nI_of v1
      rw [show (255 : Int32) = nI 255 from rfl, nI_ltI (by decide) hn9] at v2
      rw [pk_andN (by omega) 8 (by decide), Nat.mod_eq_of_lt (by omega)]
    refine w_Mod_put i3 hc (fun M' g1 g2 g3 => k_Mod_append_28 ?_)
    rw [ev] at g1
    obtain ⟨q1, q2⟩ := mo_file hi0 g1 g2 g3
    exact hy hc v1 v2 M' q1 q2
  · have z := Classical.not_not.mp z
    rw [i3.1] at z
    have := (nI_eq (a := F.length) (b := 700) (by omega) (by decide)).mp z
    omega
theorem w_Mod_trim {k : Int32} (hi : mo_is M kd dp w h f F cc rc) (hy : ∀ n : Nat, n ≤ F.length → k = nI n → ∀ M', mo_is M' kd dp w h f (F.take n) cc rc → pm_ag mo_ks M M' → Q (some (.inl 1)) M') (hn : (k < 0 ∨ nI F.length < k) → Q (some (.inl 0)) M) : pm_PC S (d + 2) 157 [.inr (.inr 19), .inl k] M Q := by
  have hi0 := hi
  obtain ⟨i1, i2, i3, i4, i5⟩ := hi
  have h700 := i3.2.1
  refine e_Mod_trim (k_Mod_trim_0 ?_)
  rw [i3.1]
  refine w_Mod_within (fun h1 h2 => k_Mod_trim_9 (fun _ => k_Mod_trim_14 ?_) (fun t => absurd (by decide) t)) (fun t => k_Mod_trim_9 (fun t => absurd rfl t) (fun _ => k_Mod_trim_12 (hn t)))
  obtain ⟨n, hn', rfl⟩ := nI_of h1
  rw [nI_ltI (by omega) hn'] at h2
  have hlen : (F.take n).length = n := by rw [List.length_take]; omega
  have hF' : mo_f (pm_up M 19 6 (nI n)) (F.take n) := by
    refine ⟨?_, ?_, fun j x hx => ?_⟩
    · rw [pm_up_hit, hlen]
    · rw [hlen]
      omega
    · rw [pm_up_off (Or.inl (by decide))]
      rw [List.getElem?_take] at hx
      split at hx
      · exact i3.2.2 j x hx
      · cases hx
  obtain ⟨q1, q2⟩ := mo_file (M' := pm_up M 19 6 (nI n)) hi0 hF' (fun j hj => pm_up_off (Or.inr hj)) (pm_ag.up (by decide))
  exact hy n (by omega) rfl _ q1 q2
theorem w_Mod_rows {k : Int32} (hi : mo_is M kd dp w h f F cc rc) (hy : ∀ n : Nat, n < 5 → k = nI n → Q (some (.inl (rc n))) M) (hn : (k < 0 ∨ 5 ≤ k) → Q (some (.inl (-1))) M) : pm_PC S (d + 2) 158 [.inr (.inr 19), .inl k] M Q := by
  obtain ⟨i1, i2, i3, i4, i5⟩ := hi
  refine e_Mod_rows (k_Mod_rows_0 (w_Mod_within (fun h1 h2 => k_Mod_rows_6 (fun t => absurd t (by decide)) (fun _ => ?_)) (fun t => k_Mod_rows_6 (fun _ => k_Mod_rows_18 (k_Mod_rows_19 (hn ?_))) (fun t => absurd rfl t))))
  · obtain ⟨n, hn', rfl⟩ := mo_in (n := 5) (by decide) h1 h2
    refine k_Mod_rows_9 (vp_in_nI hn' (by decide)) (k_Mod_rows_19 ?_)
    rw [nI_clamp (by omega), i5 n hn']
    exact hy n hn' rfl
  · exact mo_out (n := 5) (by decide) t
theorem w_Mod_copies (hi : mo_is M kd dp w h f F cc rc) (hq : Q (some (.inl cc)) M) : pm_PC S (d + 1) 159 [.inr (.inr 19)] M Q := by
  refine e_Mod_copies (k_Mod_copies_0 ?_)
  rw [hi.2.2.2.1]
  exact hq
end MOD
