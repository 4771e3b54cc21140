/-! Picture: its shape, its samples, its passes. -/
theorem sw_at {offs : Array Int} {lo x : Int} {P : Int → Prop} (n0 : Nat) (o0 : Int) (hx : x = lo + n0) (ho : offs[n0]? = some o0) (h : P o0) : ∀ (n : Nat) (o : Int), offs[n]? = some o → x = lo + n → P o := by
  intro n o hn he
  have e : n = n0 := by omega
  subst e
  rw [ho] at hn
  cases hn
  exact h
theorem i32_of {x : Int32} {n : Nat} (hn : n < 2 ^ 31) (h : x.toInt = (n : Int)) : x = nI n := Int32.toInt_inj.mp (by rw [h, nI_toInt hn])
/-- a shape that a picture can be of -/
def pc_v (k d w h : Int32) : Prop := ((k = 0 ∧ (d = 1 ∨ d = 2 ∨ d = 4 ∨ d = 8)) ∨ ((k = 2 ∨ k = 4 ∨ k = 6) ∧ d = 8)) ∧ ¬ w < 1 ∧ ¬ 8 < w ∧ ¬ h < 1 ∧ ¬ 8 < h
def pc_d (k d : Int32) : Prop := (k = 0 ∧ (d = 1 ∨ d = 2 ∨ d = 4 ∨ d = 8)) ∨ ((k = 2 ∨ k = 4 ∨ k = 6) ∧ d = 8)
theorem w_Pict_depthFits {S d : Nat} {Q : pm_Q} {M : pm_M} {k e : Int32} (hy : pc_d k e → Q (some (.inl 1)) M) (hn : ¬ pc_d k e → Q (some (.inl 0)) M) : pm_PC S (d + 1) 27 [.inl k, .inl e] M Q := by
  have k0 : k = 0 → pm_R S (pm_PC S d) Q 27 44 [some (.inl k), some (.inl e)] [] M := by
    intro hk
    refine k_Pict_depthFits_44 (fun h => k_Pict_depthFits_65 (k_Pict_depthFits_70 (by decide) (hy (Or.inl ⟨hk, Or.inl h⟩)))) (fun h1 => k_Pict_depthFits_49 (fun h => k_Pict_depthFits_65 (k_Pict_depthFits_70 (by decide) (hy (Or.inl ⟨hk, Or.inr (Or.inl h)⟩)))) (fun h2 => k_Pict_depthFits_54 (fun h => k_Pict_depthFits_65 (k_Pict_depthFits_70 (by decide) (hy (Or.inl ⟨hk, Or.inr (Or.inr (Or.inl h))⟩)))) (fun h3 => k_Pict_depthFits_59 (fun h => k_Pict_depthFits_69 (k_Pict_depthFits_70 (by decide) (hn ?_))) (fun h => k_Pict_depthFits_65 (k_Pict_depthFits_70 (by decide) (hy (Or.inl ⟨hk, Or.inr (Or.inr (Or.inr (Classical.not_not.mp h)))⟩)))))))
    rintro (⟨-, z | z | z | z⟩ | ⟨-, z⟩)
    · exact h1 z
    · exact h2 z
    · exact h3 z
    · exact h z
    · exact h z
  have k2 : k = 2 ∨ k = 4 ∨ k = 6 → pm_R S (pm_PC S d) Q 27 71 [some (.inl k), some (.inl e)] [] M := by
    intro hk
    refine k_Pict_depthFits_71 (fun h => k_Pict_depthFits_81 (k_Pict_depthFits_82 (by decide) (hn ?_))) (fun h => k_Pict_depthFits_77 (k_Pict_depthFits_82 (by decide) (hy (Or.inr ⟨hk, Classical.not_not.mp h⟩))))
    rintro (⟨z, -⟩ | ⟨-, z⟩)
    · rcases hk with rfl | rfl | rfl <;> exact absurd z (by decide)
    · exact h z
  have kn : ¬ (k = 0 ∨ k = 2 ∨ k = 4 ∨ k = 6) → pm_R S (pm_PC S d) Q 27 83 [some (.inl k), some (.inl e)] [] M := by
    intro hk
    refine k_Pict_depthFits_83 (hn ?_)
    rintro (⟨z, -⟩ | ⟨z, -⟩)
    · exact hk (Or.inl z)
    · exact hk (Or.inr z)
  refine e_Pict_depthFits (k_Pict_depthFits_0 (fun h => kn ?_) (fun n o h e => ?_))
  · rintro (rfl | rfl | rfl | rfl) <;> exact absurd h (by decide)
  · rw [Int.zero_add] at e
    rcases n with _ | _ | _ | _ | _ | _ | _ | n
    · have hk := i32_of (by decide) e
      cases h
      exact k0 hk
    · have hk := i32_of (by decide) e
      cases h
      exact kn (by rw [hk]; decide)
    · have hk := i32_of (by decide) e
      cases h
      exact k2 (Or.inl hk)
    · have hk := i32_of (by decide) e
      cases h
      exact kn (by rw [hk]; decide)
    · have hk := i32_of (by decide) e
      cases h
      exact k2 (Or.inr (Or.inl hk))
    · have hk := i32_of (by decide) e
      cases h
      exact kn (by rw [hk]; decide)
    · have hk := i32_of (by decide) e
      cases h
      exact k2 (Or.inr (Or.inr hk))
    · exact absurd h (by simp)
theorem w_Pict_canBe {S d : Nat} {Q : pm_Q} {M : pm_M} {k e w h : Int32} (hy : pc_v k e w h → Q (some (.inl 1)) M) (hn : ¬ pc_v k e w h → Q (some (.inl 0)) M) : pm_PC S (d + 2) 26 [.inl k, .inl e, .inl w, .inl h] M Q := by
  refine e_Pict_canBe (k_Pict_canBe_0 (w_Pict_depthFits (fun hd => ?_) (fun hd => ?_)))
  · refine k_Pict_canBe_5 (fun z => absurd z (by decide)) (fun _ => k_Pict_canBe_8 (fun z => k_Pict_canBe_34 (k_Pict_canBe_35 (by decide) (hn (fun v => v.2.1 z)))) (fun h1 => k_Pict_canBe_13 (fun z => k_Pict_canBe_34 (k_Pict_canBe_35 (by decide) (hn (fun v => v.2.2.1 z)))) (fun h2 => k_Pict_canBe_19 (fun z => k_Pict_canBe_34 (k_Pict_canBe_35 (by decide) (hn (fun v => v.2.2.2.1 z)))) (fun h3 => k_Pict_canBe_24 (fun z => k_Pict_canBe_34 (k_Pict_canBe_35 (by decide) (hn (fun v => v.2.2.2.2 z)))) (fun h4 => k_Pict_canBe_30 (k_Pict_canBe_35 (by decide) (hy ⟨hd, h1, h2, h3, h4⟩)))))))
  · exact k_Pict_canBe_5 (fun _ => k_Pict_canBe_34 (k_Pict_canBe_35 (by decide) (hn (fun v => hd v.1)))) (fun z => absurd rfl z)
/-- a shape in naturals -/
def pc_ok (kd dp w h : Nat) : Prop := ((kd = 0 ∧ (dp = 1 ∨ dp = 2 ∨ dp = 4 ∨ dp = 8)) ∨ ((kd = 2 ∨ kd = 4 ∨ kd = 6) ∧ dp = 8)) ∧ (1 ≤ w ∧ w ≤ 8) ∧ (1 ≤ h ∧ h ≤ 8)
theorem pc_v_ok {k d w h : Int32} (hv : pc_v k d w h) : ∃ kd dp w' h' : Nat, pc_ok kd dp w' h' ∧ k = nI kd ∧ d = nI dp ∧ w = nI w' ∧ h = nI h' := by
  obtain ⟨h1, h2, h3, h4, h5⟩ := hv
  have small : ∀ x : Int32, ¬ x < 1 → ¬ 8 < x → ∃ n : Nat, (1 ≤ n ∧ n ≤ 8) ∧ x = nI n := by
    intro x a b
    obtain ⟨j, hj, rfl⟩ := nI_of (x := x) (fun z => a (Int32.lt_trans z (by decide)))
    rw [show (1 : Int32) = nI 1 from rfl, nI_ltI hj (by decide)] at a
    rw [show (8 : Int32) = nI 8 from rfl, nI_ltI (by decide) hj] at b
    exact ⟨j, by omega, rfl⟩
  obtain ⟨w', hw, rfl⟩ := small w h2 h3
  obtain ⟨h', hh, rfl⟩ := small h h4 h5
  rcases h1 with ⟨rfl, rfl | rfl | rfl | rfl⟩ | ⟨rfl | rfl | rfl, rfl⟩
  · exact ⟨0, 1, w', h', ⟨Or.inl ⟨rfl, by simp⟩, hw, hh⟩, rfl, rfl, rfl, rfl⟩
  · exact ⟨0, 2, w', h', ⟨Or.inl ⟨rfl, by simp⟩, hw, hh⟩, rfl, rfl, rfl, rfl⟩
  · exact ⟨0, 4, w', h', ⟨Or.inl ⟨rfl, by simp⟩, hw, hh⟩, rfl, rfl, rfl, rfl⟩
  · exact ⟨0, 8, w', h', ⟨Or.inl ⟨rfl, by simp⟩, hw, hh⟩, rfl, rfl, rfl, rfl⟩
  · exact ⟨2, 8, w', h', ⟨Or.inr ⟨by simp, rfl⟩, hw, hh⟩, rfl, rfl, rfl, rfl⟩
  · exact ⟨4, 8, w', h', ⟨Or.inr ⟨by simp, rfl⟩, hw, hh⟩, rfl, rfl, rfl, rfl⟩
  · exact ⟨6, 8, w', h', ⟨Or.inr ⟨by simp, rfl⟩, hw, hh⟩, rfl, rfl, rfl, rfl⟩
def pc_b (b : Nat) : Prop := b = 15 ∨ b = 17
def pc_pp (kd : Nat) : Nat := if kd = 2 then 3 else if kd = 4 then 2 else if kd = 6 then 4 else 1
theorem pc_rf {b : Nat} (h : pc_b b) : pm_rf b 0 = b + 1 := by rcases h with rfl | rfl <;> rfl
theorem pc_wl {b : Nat} (h : pc_b b) : pm_wl (b + 1) = 256 := by rcases h with rfl | rfl <;> rfl
theorem pc_ln {S b : Nat} (h : pc_b b) : pm_ln S (b + 1) = 256 := by rcases h with rfl | rfl <;> rfl
/-- the picture at b has this shape -/
def pc_sh (M : pm_M) (b kd dp w h : Nat) : Prop := M b 1 = nI kd ∧ M b 2 = nI dp ∧ M b 3 = nI w ∧ M b 4 = nI h
/-- and these samples, by x, y, c -/
def pc_is (M : pm_M) (b kd dp w h : Nat) (f : Nat → Nat → Nat → Int32) : Prop := pc_sh M b kd dp w h ∧ ∀ x y c, x < w → y < h → c < pc_pp kd → M (b + 1) ((y * w + x) * pc_pp kd + c) = f x y c
theorem pc_sh.keep {M M' : pm_M} {b kd dp w h : Nat} {ks : List Nat} (hs : pc_sh M b kd dp w h) (ha : pm_ag ks M M') (h1 : b ∉ ks) : pc_sh M' b kd dp w h := by
  unfold pc_sh
  rw [ha b h1]
  exact hs
theorem pc_is.keep {M M' : pm_M} {b kd dp w h : Nat} {f : Nat → Nat → Nat → Int32} {ks : List Nat} (hs : pc_is M b kd dp w h f) (ha : pm_ag ks M M') (h1 : b ∉ ks) (h2 : b + 1 ∉ ks) : pc_is M' b kd dp w h f :=
  ⟨hs.1.keep ha h1, by rw [ha (b + 1) h2]; exact hs.2⟩
def fl_b (b : Nat) : Prop := b = 11 ∨ b = 13 ∨ b = 14 ∨ b = 16 ∨ b = 18
theorem fl_ln {S b : Nat} (h : fl_b b) : pm_ln S b = pm_wl b := by rcases h with rfl | rfl | rfl | rfl | rfl <;> rfl
theorem fl_le {b : Nat} (h : fl_b b) : pm_wl b ≤ 256 := by rcases h with rfl | rfl | rfl | rfl | rfl <;> decide
theorem w_fill_loop {S b : Nat} {call : pm_C} {Q : pm_Q} {v : Int32} (hb : fl_b b) : ∀ (k i : Nat) (M : pm_M), i + k = pm_wl b → (∀ j, j < i → M b j = v) → (∀ M', (∀ j, j < pm_wl b → M' b j = v) → pm_ag [b] M M' → Q none M') → pm_R S call Q 0 5 [some (.inr (.inr b)), some (.inl v), some (.inl (nI i)), some (.inl (nI (pm_wl b)))] [] M := by
  have hle := fl_le hb
  intro k
  induction k with
  | zero =>
    intro i M hi hd hq
    exact k_Arr_fill_5 (fun _ => k_Arr_fill_20 (hq M (fun j hj => hd j (by omega)) pm_ag.rf)) (fun h => absurd (nI_le (by omega) (by omega)) h)
  | succ k ih =>
    intro i M hi hd hq
    refine k_Arr_fill_5 (fun h => absurd h (nI_ge (by omega) (by omega))) (fun _ => k_Arr_fill_10 hb (vp_in_nI (by omega) (by omega)) ?_)
    rw [nI_clamp (by omega), nI_1]
    refine ih (i + 1) _ (by omega) (fun j hj => ?_) (fun M' h1 h2 => hq M' h1 ((pm_ag.up (by simp)).tr h2))
    by_cases e : j = i
    · subst e; exact pm_up_hit
    · rw [pm_up_off (Or.inr e)]; exact hd j (by omega)
theorem w_Arr_fill {S d b : Nat} {Q : pm_Q} {M : pm_M} {v : Int32} (hb : fl_b b) (hq : ∀ M', (∀ j, j < pm_wl b → M' b j = v) → pm_ag [b] M M' → Q none M') : pm_PC S (d + 1) 0 [.inr (.inr b), .inl v] M Q := by
  refine e_Arr_fill (k_Arr_fill_0 hb ?_)
  rw [fl_ln hb]
  exact w_fill_loop hb (pm_wl b) 0 M (by omega) (fun j hj => absurd hj (Nat.not_lt_zero j)) hq
theorem pc_fl {b : Nat} (h : pc_b b) : fl_b (b + 1) := by rcases h with rfl | rfl <;> simp [fl_b]
theorem w_Pict_clearTo {S d b : Nat} {Q : pm_Q} {M : pm_M} {kd dp w h : Nat} (hb : pc_b b) (hok : pc_ok kd dp w h) (hq : ∀ M', pc_is M' b kd dp w h (fun _ _ _ => 0) → pm_ag [b, b + 1] M M' → Q none M') : pm_PC S (d + 2) 28 [.inr (.inr b), .inl (nI kd), .inl (nI dp), .inl (nI w), .inl (nI h)] M Q := by
  refine e_Pict_clearTo (k_Pict_clearTo_0 hb ?_)
  rw [pc_rf hb]
  refine w_Arr_fill (pc_fl hb) (fun M' g1 g2 => k_Pict_clearTo_29 (hq M' ⟨?_, fun x y c hx hy hc => ?_⟩ ?_))
  · unfold pc_sh
    rw [g2 b (by simp)]
    refine ⟨?_, ?_, ?_, pm_up_hit⟩
    · rw [pm_up_off (Or.inr (by decide)), pm_up_off (Or.inr (by decide)), pm_up_off (Or.inr (by decide)), pm_up_hit]
    · rw [pm_up_off (Or.inr (by decide)), pm_up_off (Or.inr (by decide)), pm_up_hit]
    · rw [pm_up_off (Or.inr (by decide)), pm_up_hit]
  · refine g1 _ ?_
    rw [pc_wl hb]
    have hpp : pc_pp kd ≤ 4 := by unfold pc_pp; split <;> (try split) <;> (try split) <;> omega
    obtain ⟨-, hw, hh⟩ := hok
    have h1 : y * w + x ≤ 63 := by
      have : y * w ≤ 7 * w := Nat.mul_le_mul_right w (by omega)
      omega
    have h2 : (y * w + x) * pc_pp kd ≤ 63 * pc_pp kd := Nat.mul_le_mul_right _ h1
    omega
  · have a : pm_ag [b, b + 1] M (pm_up (pm_up (pm_up (pm_up M b 1 (nI kd)) b 2 (nI dp)) b 3 (nI w)) b 4 (nI h)) := (((pm_ag.up (by simp)).tr (pm_ag.up (by simp))).tr (pm_ag.up (by simp))).tr (pm_ag.up (by simp))
    exact a.of g2 (by simp)
