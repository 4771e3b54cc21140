/-! SevenPassImage: its public methods but read and seal. -/
def im_ks : List Nat := [0, 1, 2, 3, 4, 5, 6, 7, 8, 9, 10, 11, 12, 13, 14, 15, 16, 17, 18]
/-- the object's state: shape, samples, file, copies, rows of each filter -/
def im_is (M : pm_M) (kd dp w h : Nat) (f : Nat → Nat → Nat → Int32) (F : List Int32) (cc : Int32) (rc : Nat → Int32) : Prop :=
  ∃ b b' : Nat, ((b = 15 ∧ b' = 17) ∨ (b = 17 ∧ b' = 15)) ∧ M 0 3 = nI b ∧ M 0 4 = nI b' ∧ pc_is M b kd dp w h f ∧ by_is M 2 F ∧ M 0 5 = cc ∧ (∀ i, i < 5 → M 11 i = rc i)
theorem im_b {b b' : Nat} (h : (b = 15 ∧ b' = 17) ∨ (b = 17 ∧ b' = 15)) : pc_b b ∧ pc_b b' := by
  rcases h with ⟨rfl, rfl⟩ | ⟨rfl, rfl⟩
  · exact ⟨Or.inl rfl, Or.inr rfl⟩
  · exact ⟨Or.inr rfl, Or.inl rfl⟩
theorem im_cl {M : pm_M} {j b : Nat} (hb : pc_b b) (h : M 0 j = nI b) : (M 0 j).toNatClampNeg = b := by
  rw [h]
  exact nI_clamp (by rcases hb with rfl | rfl <;> decide)
section IMG
variable {S d : Nat} {Q : pm_Q} {M : pm_M} {kd dp w h : Nat} {f : Nat → Nat → Nat → Int32} {F : List Int32} {cc : Int32} {rc : Nat → Int32}
theorem w_Img_begin {K D W H : Int32} (hi : im_is M kd dp w h f F cc rc) (hy : ∀ kd' dp' w' h', pc_ok kd' dp' w' h' → K = nI kd' → D = nI dp' → W = nI w' → H = nI h' → ∀ M', im_is M' kd' dp' w' h' (fun _ _ _ => 0) F cc rc → pm_ag im_ks M M' → Q (some (.inl 1)) M') (hn : ¬ pc_v K D W H → Q (some (.inl 0)) M) : pm_PC S (d + 3) 77 [.inr (.inr 0), .inl K, .inl D, .inl W, .inl H] M Q := by
  obtain ⟨b, b', hbb, i1, i2, i3, i4, i5, i6⟩ := hi
  obtain ⟨hb, hb'⟩ := im_b hbb
  refine e_Img_begin (k_Img_begin_0 (w_Pict_canBe (fun hv => k_Img_begin_8 (fun _ => k_Img_begin_13 ?_) (fun z => absurd (by decide) z)) (fun hv => k_Img_begin_8 (fun z => absurd rfl z) (fun _ => k_Img_begin_11 (hn hv)))))
  obtain ⟨kd', dp', w', h', hok, rfl, rfl, rfl, rfl⟩ := pc_v_ok hv
  rw [im_cl hb i1]
  have hk : ∀ k ∈ [b, b + 1], k ∈ im_ks := by rcases hb with rfl | rfl <;> decide
  have n0 : (0 : Nat) ∉ [b, b + 1] := by rcases hb with rfl | rfl <;> decide
  have n2 : (2 : Nat) ∉ [b, b + 1] := by rcases hb with rfl | rfl <;> decide
  have n3 : (2 + 1 : Nat) ∉ [b, b + 1] := by rcases hb with rfl | rfl <;> decide
  have n11 : (11 : Nat) ∉ [b, b + 1] := by rcases hb with rfl | rfl <;> decide
  refine k_Img_begin_17 hb (w_Pict_clearTo hb hok (fun M' g1 g2 => k_Img_begin_25 (hy kd' dp' w' h' hok rfl rfl rfl rfl M' ?_ (g2.wd hk))))
  exact ⟨b, b', hbb, by rw [g2 0 n0]; exact i1, by rw [g2 0 n0]; exact i2, g1, i4.keep g2 n2 n3, by rw [g2 0 n0]; exact i5, fun i hi => by rw [g2 11 n11]; exact i6 i hi⟩
theorem w_Img_shape (hi : im_is M kd dp w h f F cc rc) (hq : Q (some (.inl (1000000 * nI kd + 10000 * nI dp + 100 * nI w + nI h))) M) : pm_PC S (d + 1) 78 [.inr (.inr 0)] M Q := by
  obtain ⟨b, b', hbb, i1, i2, i3, i4, i5, i6⟩ := hi
  obtain ⟨hb, hb'⟩ := im_b hbb
  refine e_Img_shape (k_Img_shape_0 ?_)
  rw [im_cl hb i1]
  refine k_Img_shape_6 hb ?_
  rw [im_cl hb i1]
  refine k_Img_shape_17 hb ?_
  rw [im_cl hb i1]
  refine k_Img_shape_28 hb ?_
  rw [im_cl hb i1]
  refine k_Img_shape_37 hb ?_
  rw [i3.1.1, i3.1.2.1, i3.1.2.2.1, i3.1.2.2.2]
  exact hq
/-- a sample is changed -/
def im_up (f : Nat → Nat → Nat → Int32) (x y c : Nat) (v : Int32) : Nat → Nat → Nat → Int32 := fun x' y' c' => if x' = x ∧ y' = y ∧ c' = c then v else f x' y' c'
theorem pc_inj {x y c x' y' c' w p : Nat} (hx : x < w) (hx' : x' < w) (hc : c < p) (hc' : c' < p) (h : (y * w + x) * p + c = (y' * w + x') * p + c') : x = x' ∧ y = y' ∧ c = c' := by
  have e1 : ((y * w + x) * p + c) / p = ((y' * w + x') * p + c') / p := by rw [h]
  have e2 : ((y * w + x) * p + c) % p = ((y' * w + x') * p + c') % p := by rw [h]
  rw [Nat.mul_comm, Nat.mul_add_div (by omega), Nat.div_eq_of_lt hc, Nat.mul_comm _ p, Nat.mul_add_div (by omega), Nat.div_eq_of_lt hc'] at e1
  rw [Nat.mul_comm, Nat.mul_add_mod, Nat.mod_eq_of_lt hc, Nat.mul_comm _ p, Nat.mul_add_mod, Nat.mod_eq_of_lt hc'] at e2
  simp only [Nat.add_zero] at e1
  have e3 : (y * w + x) / w = (y' * w + x') / w := by rw [e1]
  have e4 : (y * w + x) % w = (y' * w + x') % w := by rw [e1]
  rw [Nat.mul_comm, Nat.mul_add_div (by omega), Nat.div_eq_of_lt hx, Nat.mul_comm _ w, Nat.mul_add_div (by omega), Nat.div_eq_of_lt hx'] at e3
  rw [Nat.mul_comm, Nat.mul_add_mod, Nat.mod_eq_of_lt hx, Nat.mul_comm _ w, Nat.mul_add_mod, Nat.mod_eq_of_lt hx'] at e4
  exact ⟨e4, by omega, e2⟩
theorem w_Img_set {X Y C V : Int32} (hok : pc_ok kd dp w h) (hi : im_is M kd dp w h f F cc rc) (hy : ∀ x y c v : Nat, x < w → y < h → c < pc_pp kd → v < 2 ^ dp → X = nI x → Y = nI y → C = nI c → V = nI v → ∀ M', im_is M' kd dp w h (im_up f x y c V) F cc rc → pm_ag im_ks M M' → Q (some (.inl 1)) M') (hn : (X < 0 ∨ nI w ≤ X ∨ Y < 0 ∨ nI h ≤ Y ∨ C < 0 ∨ nI (pc_pp kd) ≤ C ∨ V < 0 ∨ nI (2 ^ dp) ≤ V) → Q (some (.inl 0)) M) : pm_PC S (d + 4) 79 [.inr (.inr 0), .inl X, .inl Y, .inl C, .inl V] M Q := by
  obtain ⟨b, b', hbb, i1, i2, i3, i4, i5, i6⟩ := hi
  obtain ⟨hb, hb'⟩ := im_b hbb
  refine e_Img_set (k_Img_set_0 ?_)
  rw [im_cl hb i1]
  refine k_Img_set_4 hb (w_Pict_putSample hb hok i3.1 (fun x y c v hx hy' hc hv ex ey ec ev => k_Img_set_12 (by decide) (hy x y c v hx hy' hc hv ex ey ec ev _ ?_ ?_)) (fun z => k_Img_set_12 (by decide) (hn z)))
  · have hk : b + 1 ∈ [b + 1] := by simp
    have a := pm_ag.up (ks := [b + 1]) (M := M) (j := (y * w + x) * pc_pp kd + c) (x := V) hk
    have n0 : (0 : Nat) ∉ [b + 1] := by rcases hb with rfl | rfl <;> decide
    have n2 : (2 : Nat) ∉ [b + 1] := by rcases hb with rfl | rfl <;> decide
    have n3 : (2 + 1 : Nat) ∉ [b + 1] := by rcases hb with rfl | rfl <;> decide
    have n11 : (11 : Nat) ∉ [b + 1] := by rcases hb with rfl | rfl <;> decide
    have nb : b ∉ [b + 1] := by simp
    refine ⟨b, b', hbb, by rw [a 0 n0]; exact i1, by rw [a 0 n0]; exact i2, ⟨i3.1.keep a nb, fun x' y' c' hx2 hy2 hc2 => ?_⟩, i4.keep a n2 n3, by rw [a 0 n0]; exact i5, fun i hi => by rw [a 11 n11]; exact i6 i hi⟩
    unfold im_up
    by_cases e : x' = x ∧ y' = y ∧ c' = c
    · obtain ⟨rfl, rfl, rfl⟩ := e
      rw [if_pos ⟨rfl, rfl, rfl⟩, pm_up_hit]
    · rw [if_neg e, pm_up_off (Or.inr (fun q => e (pc_inj hx2 hx hc2 hc q)))]
      exact i3.2 x' y' c' hx2 hy2 hc2
  · have hk : b + 1 ∈ im_ks := by rcases hb with rfl | rfl <;> decide
    exact pm_ag.up hk
theorem w_Img_get {X Y C : Int32} (hok : pc_ok kd dp w h) (hi : im_is M kd dp w h f F cc rc) (hy : ∀ x y c : Nat, x < w → y < h → c < pc_pp kd → X = nI x → Y = nI y → C = nI c → Q (some (.inl (f x y c))) M) (hn : (X < 0 ∨ nI w ≤ X ∨ Y < 0 ∨ nI h ≤ Y ∨ C < 0 ∨ nI (pc_pp kd) ≤ C) → Q (some (.inl (-1))) M) : pm_PC S (d + 4) 80 [.inr (.inr 0), .inl X, .inl Y, .inl C] M Q := by
  obtain ⟨b, b', hbb, i1, i2, i3, i4, i5, i6⟩ := hi
  obtain ⟨hb, hb'⟩ := im_b hbb
  refine e_Img_get (k_Img_get_0 ?_)
  rw [im_cl hb i1]
  refine k_Img_get_4 hb (w_Pict_sampleAt hb hok i3.1 (fun x y c hx hy' hc ex ey ec => k_Img_get_10 ?_) (fun z => k_Img_get_10 (hn z)))
  rw [i3.2 x y c hx hy' hc]
  exact hy x y c hx hy' hc ex ey ec
theorem w_Img_write {s flt : Int32} (hok : pc_ok kd dp w h) (hst : ps_is M) (hi : im_is M kd dp w h f F cc rc) (hy : ∀ n : Nat, n ≤ 5 → flt = nI n → ∀ M', im_is M' kd dp w h f (fb_of kd dp w h s (pk_of (en_of kd dp w h f n s).1)) (nI (pk_cc (en_of kd dp w h f n s).1 ((en_of kd dp w h f n s).1.length + 1) 0)) (en_of kd dp w h f n s).2 → pm_ag im_ks M M' → Q (some (.inl (nI (fb_of kd dp w h s (pk_of (en_of kd dp w h f n s).1)).length))) M') (hn : (flt < 0 ∨ 5 < flt) → Q (some (.inl (-1))) M) : pm_PC S (d + 7) 81 [.inr (.inr 0), .inl s, .inl flt] M Q := by
  obtain ⟨b, b', hbb, i1, i2, i3, i4, i5, i6⟩ := hi
  obtain ⟨hb, hb'⟩ := im_b hbb
  refine e_Img_write (k_Img_write_0 (fun z => k_Img_write_9 (hn (Or.inl z))) (fun h1 => k_Img_write_4 (fun h2 => k_Img_write_11 ?_) (fun z => k_Img_write_9 (hn (Or.inr (Int32.not_le.mp z))))))
  obtain ⟨n, hn5, rfl⟩ := nI_of2 (n := 5) (by decide) h1 h2
  rw [im_cl hb i1]
  have hb5 : b ∉ en_ks := by rcases hb with rfl | rfl <;> decide
  have hb6 : b + 1 ∉ en_ks := by rcases hb with rfl | rfl <;> decide
  refine k_Img_write_19 hb (w_Coder_encode hb hok hn5 i3 hst (fun M1 g1 g2 a1 => k_Img_write_31 (w_Pack_pack g1 (fun M2 q1 q2 q3 a2 => k_Img_write_38 ?_))))
  have hD : (en_of kd dp w h f n s).1.length ≤ 300 := q2.2.1
  have hy' := hy n hn5 rfl
  clear hy
  generalize en_of kd dp w h f n s = R at g1 g2 q1 q2 q3 hy' hD
  have e03 : M2 0 = M 0 := by rw [a2 0 (by decide), a1 0 (by decide)]
  have A2 : pm_ag im_ks M M2 := (a1.wd (ks' := im_ks) (by decide)).of a2 (by decide)
  have a3 := pm_ag.up (ks := [0]) (M := M2) (k := 0) (j := 5) (x := M2 4 2) (by simp)
  rw [im_cl (M := M2) hb (by rw [e03]; exact i1)]
  have hbp : b ∉ [4, 7, 8, 9] := by rcases hb with rfl | rfl <;> decide
  have hbp1 : b + 1 ∉ [4, 7, 8, 9] := by rcases hb with rfl | rfl <;> decide
  have hb0 : b ∉ [0] := by rcases hb with rfl | rfl <;> decide
  have hb01 : b + 1 ∉ [0] := by rcases hb with rfl | rfl <;> decide
  have hb23 : b ∉ [2, 3] := by rcases hb with rfl | rfl <;> decide
  have hb231 : b + 1 ∉ [2, 3] := by rcases hb with rfl | rfl <;> decide
  have p3 := ((i3.keep a1 hb5 hb6).keep a2 hbp hbp1).keep a3 hb0 hb01
  refine k_Img_write_57 hb (w_File_build hb p3.1 (((hst.keep a1 (by decide)).keep a2 (by decide)).keep a3 (by decide)) (q1.keep a3 (by decide) (by decide)) (Nat.le_trans (pk_of_len hD) (by decide)) (fun M4 r1 a4 => k_Img_write_71 ?_))
  rw [r1.1]
  refine hy' M4 ⟨b, b', hbb, ?_, ?_, p3.keep a4 hb23 hb231, r1, ?_, fun i hi => ?_⟩ ((A2.of a3 (by decide)).of a4 (by decide))
  · rw [a4 0 (by decide), pm_up_off (Or.inr (by decide)), e03]; exact i1
  · rw [a4 0 (by decide), pm_up_off (Or.inr (by decide)), e03]; exact i2
  · rw [a4 0 (by decide), pm_up_hit]; exact q3
  · rw [a4 11 (by decide), pm_up_off (Or.inl (by decide)), a2 11 (by decide)]; exact g2 i hi
theorem w_Img_length (hi : im_is M kd dp w h f F cc rc) (hq : Q (some (.inl (nI F.length))) M) : pm_PC S (d + 1) 84 [.inr (.inr 0)] M Q := by
  obtain ⟨b, b', hbb, i1, i2, i3, i4, i5, i6⟩ := hi
  refine e_Img_length (k_Img_length_0 ?_)
  rw [i4.1]
  exact hq
theorem w_Img_byteAt {k : Int32} (hi : im_is M kd dp w h f F cc rc) (hq : Q (some (.inl (by_at F k))) M) : pm_PC S (d + 2) 85 [.inr (.inr 0), .inl k] M Q := by
  obtain ⟨b, b', hbb, i1, i2, i3, i4, i5, i6⟩ := hi
  exact e_Img_byteAt (k_Img_byteAt_0 (w_Bytes_at (Or.inl rfl) i4 (k_Img_byteAt_11 hq)))
theorem w_Img_isByte {b : Int32} (hy : ¬ b < 0 → ¬ 255 < b → Q (some (.inl 1)) M) (hn : (b < 0 ∨ 255 < b) → Q (some (.inl 0)) M) : pm_PC S (d + 1) 88 [.inl b] M Q :=
  e_Img_isByte (k_Img_isByte_0 (fun z => k_Img_isByte_15 (k_Img_isByte_16 (by decide) (hn (Or.inl z)))) (fun h1 => k_Img_isByte_4 (fun z => k_Img_isByte_15 (k_Img_isByte_16 (by decide) (hn (Or.inr z)))) (fun h2 => k_Img_isByte_11 (k_Img_isByte_16 (by decide) (hy h1 h2)))))
theorem im_file {M M' : pm_M} {F' : List Int32} (hi : im_is M kd dp w h f F cc rc) (hl : by_is M' 2 F') (ha : pm_ag [2, 2 + 1] M M') : im_is M' kd dp w h f F' cc rc ∧ pm_ag im_ks M M' := by
  obtain ⟨b, b', hbb, i1, i2, i3, i4, i5, i6⟩ := hi
  obtain ⟨hb, hb'⟩ := im_b hbb
  have hb23 : b ∉ [2, 2 + 1] := by rcases hb with rfl | rfl <;> decide
  have hb231 : b + 1 ∉ [2, 2 + 1] := by rcases hb with rfl | rfl <;> decide
  exact ⟨⟨b, b', hbb, by rw [ha 0 (by decide)]; exact i1, by rw [ha 0 (by decide)]; exact i2, i3.keep ha hb23 hb231, hl, by rw [ha 0 (by decide)]; exact i5, fun i hi => by rw [ha 11 (by decide)]; exact i6 i hi⟩, ha.wd (by decide)⟩
theorem w_Img_poke {k v : Int32} (hi : im_is M kd dp w h f F cc rc) (hy : ∀ i : Nat, i < F.length → k = nI i → ¬ v < 0 → ¬ 255 < v → ∀ M', im_is M' kd dp w h f (F.set i v) cc rc → pm_ag im_ks M M' → Q (some (.inl 1)) M') (hn : (k < 0 ∨ nI F.length ≤ k ∨ v < 0 ∨ 255 < v) → Q (some (.inl 0)) M) : pm_PC S (d + 2) 86 [.inr (.inr 0), .inl k, .inl v] M Q := by
  have hi0 := hi
  obtain ⟨b, b', hbb, i1, i2, i3, i4, i5, i6⟩ := hi
  refine e_Img_poke (k_Img_poke_0 (w_Img_isByte (fun v1 v2 => k_Img_poke_4 (fun z => absurd z (by decide)) (fun _ => k_Img_poke_7 ?_)) (fun z => k_Img_poke_4 (fun _ => k_Img_poke_26 (k_Img_poke_27 (by decide) (hn (by rcases z with z | z; exact Or.inr (Or.inr (Or.inl z)); exact Or.inr (Or.inr (Or.inr z)))))) (fun z => absurd rfl z))))
  by_cases hk : k < 0 ∨ nI F.length ≤ k
  · exact w_Bytes_changeF (Or.inl rfl) i4 hk (k_Img_poke_19 (fun _ => k_Img_poke_26 (k_Img_poke_27 (by decide) (hn (by rcases hk with z | z; exact Or.inl z; exact Or.inr (Or.inl z))))) (fun z => absurd rfl z))
  · obtain ⟨i, hi, rfl⟩ := nI_of (x := k) (fun z => hk (Or.inl z))
    have h700 := i4.lt (Or.inl rfl)
    have hlt : i < F.length := by
      have : ¬ F.length ≤ i := fun z => hk (Or.inr ((nI_leI (by omega) hi).mpr z))
      omega
    refine w_Bytes_change (Or.inl rfl) i4 hlt (fun M' g1 g2 => k_Img_poke_19 (fun z => absurd z (by decide)) (fun _ => k_Img_poke_22 (k_Img_poke_27 (by decide) ?_)))
    obtain ⟨q1, q2⟩ := im_file hi0 g1 g2
    exact hy i hlt rfl v1 v2 M' q1 q2
theorem w_Img_append {v : Int32} (hi : im_is M kd dp w h f F cc rc) (hy : F.length < 700 → ¬ v < 0 → ¬ 255 < v → ∀ M', im_is M' kd dp w h f (F ++ [v]) cc rc → pm_ag im_ks M M' → Q (some (.inl 1)) M') (hn : (700 ≤ F.length ∨ v < 0 ∨ 255 < v) → Q (some (.inl 0)) M) : pm_PC S (d + 2) 87 [.inr (.inr 0), .inl v] M Q := by
  have hi0 := hi
  have hcc : by_c 2 = 700 := rfl
  obtain ⟨b, b', hbb, i1, i2, i3, i4, i5, i6⟩ := hi
  refine e_Img_append (k_Img_append_0 (w_Img_isByte (fun v1 v2 => k_Img_append_4 (fun z => absurd z (by decide)) (fun _ => k_Img_append_7 ?_)) (fun z => k_Img_append_4 (fun _ => k_Img_append_25 (k_Img_append_26 (by decide) (hn (Or.inr z)))) (fun z => absurd rfl z))))
  by_cases hl : F.length < 700
  · refine w_Bytes_add (Or.inl rfl) i4 hl (fun M' g1 g2 => k_Img_append_18 (fun z => absurd z (by decide)) (fun _ => k_Img_append_21 (k_Img_append_26 (by decide) ?_)))
    obtain ⟨q1, q2⟩ := im_file hi0 g1 g2
    exact hy hl v1 v2 M' q1 q2
  · exact w_Bytes_addF (Or.inl rfl) i4 (by omega) (k_Img_append_18 (fun _ => k_Img_append_25 (k_Img_append_26 (by decide) (hn (Or.inl (by omega))))) (fun z => absurd rfl z))
theorem w_Img_trim {k : Int32} (hi : im_is M kd dp w h f F cc rc) (hy : ∀ n : Nat, n ≤ F.length → k = nI n → ∀ M', im_is M' kd dp w h f (F.take n) cc rc → pm_ag im_ks M M' → Q (some (.inl 1)) M') (hn : (k < 0 ∨ nI F.length < k) → Q (some (.inl 0)) M) : pm_PC S (d + 2) 89 [.inr (.inr 0), .inl k] M Q := by
  have hi0 := hi
  obtain ⟨b, b', hbb, i1, i2, i3, i4, i5, i6⟩ := hi
  refine e_Img_trim (k_Img_trim_0 ?_)
  by_cases hk : k < 0 ∨ nI F.length < k
  · exact w_Bytes_cutF (Or.inl rfl) i4 hk (k_Img_trim_11 (by decide) (hn hk))
  · obtain ⟨i, hi, rfl⟩ := nI_of (x := k) (fun z => hk (Or.inl z))
    have h700 := i4.lt (Or.inl rfl)
    have hle : i ≤ F.length := by
      have : ¬ F.length < i := fun z => hk (Or.inr ((nI_ltI (by omega) hi).mpr z))
      omega
    refine w_Bytes_cut (Or.inl rfl) i4 hle (fun M' g1 g2 => k_Img_trim_11 (by decide) ?_)
    obtain ⟨q1, q2⟩ := im_file hi0 g1 g2
    exact hy i hle rfl M' q1 q2
theorem w_Img_rows {k : Int32} (hi : im_is M kd dp w h f F cc rc) (hy : ∀ n : Nat, n < 5 → k = nI n → Q (some (.inl (rc n))) M) (hn : (k < 0 ∨ 5 ≤ k) → Q (some (.inl (-1))) M) : pm_PC S (d + 1) 91 [.inr (.inr 0), .inl k] M Q := by
  obtain ⟨b, b', hbb, i1, i2, i3, i4, i5, i6⟩ := hi
  refine e_Img_rows (k_Img_rows_0 (fun z => k_Img_rows_21 (k_Img_rows_22 (hn (Or.inl z)))) (fun h1 => k_Img_rows_4 (fun z => k_Img_rows_21 (k_Img_rows_22 (hn (Or.inr z)))) (fun h2 => ?_)))
  obtain ⟨i, hi, rfl⟩ := nI_of h1
  have hlt : i < 5 := by
    have : ¬ 5 ≤ i := fun z => h2 ((nI_leI (a := 5) (by decide) hi).mpr z)
    omega
  refine k_Img_rows_9 (vp_in_nI hlt (by decide)) (k_Img_rows_22 ?_)
  rw [nI_clamp hi, i6 i hlt]
  exact hy i hlt rfl
theorem w_Img_copies (hi : im_is M kd dp w h f F cc rc) (hq : Q (some (.inl cc)) M) : pm_PC S (d + 1) 92 [.inr (.inr 0)] M Q := by
  obtain ⟨b, b', hbb, i1, i2, i3, i4, i5, i6⟩ := hi
  refine e_Img_copies (k_Img_copies_0 ?_)
  rw [i5]
  exact hq
end IMG
