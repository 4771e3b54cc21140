/-! The law: both answer alike, call after call. -/
def lw_s (M : pm_M) (kd dp w h : Nat) (f : Nat → Nat → Nat → Int32) (F : List Int32) (cc : Int32) (rc : Nat → Int32) : Prop := pc_ok kd dp w h ∧ sm_ok kd dp w h f ∧ fx_b F ∧ im_is M kd dp w h f F cc rc ∧ mo_is M kd dp w h f F cc rc ∧ ps_is M
def lw_i (M : pm_M) : Prop := ∃ kd dp w h f F cc rc, lw_s M kd dp w h f F cc rc
theorem mo_is.kp {M M' : pm_M} {kd dp w h : Nat} {f : Nat → Nat → Nat → Int32} {F : List Int32} {cc : Int32} {rc : Nat → Int32} (hi : mo_is M kd dp w h f F cc rc) (ha : pm_ag im_ks M M') : mo_is M' kd dp w h f F cc rc := by
  obtain ⟨i1, i2, i3, i4, i5⟩ := hi
  refine ⟨?_, ?_, ?_, ?_, ?_⟩
  · unfold mo_sh; rw [ha 19 (by decide)]; exact i1
  · unfold mo_s; rw [ha 20 (by decide)]; exact i2
  · unfold mo_f; rw [ha 19 (by decide), ha 22 (by decide)]; exact i3
  · rw [ha 19 (by decide)]; exact i4
  · rw [ha 23 (by decide)]; exact i5
theorem im_is.kp {M M' : pm_M} {kd dp w h : Nat} {f : Nat → Nat → Nat → Int32} {F : List Int32} {cc : Int32} {rc : Nat → Int32} (hi : im_is M kd dp w h f F cc rc) (ha : pm_ag mo_ks M M') : im_is M' kd dp w h f F cc rc :=
  hi.keep ha (by decide) (by decide) (by decide) (by decide) (fun b hb _ => by rcases hb with rfl | rfl <;> decide)
theorem sm_ok_up {kd dp w h : Nat} {f : Nat → Nat → Nat → Int32} {x y c v : Nat} {V : Int32} (hs : sm_ok kd dp w h f) (hv : v < 2 ^ dp) (e : V = nI v) : sm_ok kd dp w h (im_up f x y c V) := by
  intro x' y' c' h1 h2 h3
  unfold im_up
  split
  · exact ⟨v, hv, e⟩
  · exact hs x' y' c' h1 h2 h3
theorem in_out {X Y C : Int32} {x y c w h p : Nat} (hw : w < 1000) (hh : h < 1000) (hp : p < 1000) (hx : x < w) (hy : y < h) (hc : c < p) (ex : X = nI x) (ey : Y = nI y) (ec : C = nI c) : ¬ (X < 0 ∨ nI w ≤ X ∨ Y < 0 ∨ nI h ≤ Y ∨ C < 0 ∨ nI p ≤ C) := by
  rintro (z | z | z | z | z | z)
  · exact nI_pos (by omega) (ex ▸ z)
  · exact nI_ge hx (by omega) (ex ▸ z)
  · exact nI_pos (by omega) (ey ▸ z)
  · exact nI_ge hy (by omega) (ey ▸ z)
  · exact nI_pos (by omega) (ec ▸ z)
  · exact nI_ge hc (by omega) (ec ▸ z)
theorem by_le {v : Int32} (h1 : ¬ v < 0) (h2 : ¬ 255 < v) : ∃ n : Nat, n < 256 ∧ v = nI n := by
  obtain ⟨n, hn, rfl⟩ := nI_of h1
  rw [show (255 : Int32) = nI 255 from rfl, nI_ltI (by decide) hn] at h2
  exact ⟨n, by omega, rfl⟩
theorem fx_b.tk {F : List Int32} (h : fx_b F) (n : Nat) : fx_b (F.take n) := by
  intro i x hx
  rw [List.getElem?_take] at hx
  split at hx
  · exact h i x hx
  · cases hx
theorem fx_b.sl {F F' : List Int32} {k : Nat} (h : fx_b F) (hs : fx_seal F k = some F') : fx_b F' := by
  unfold fx_seal at hs
  split at hs
  · cases hs
  · cases hs
    exact (((h.st (pk_andE _ 8 (by decide))).st (pk_andE _ 8 (by decide))).st (pk_andE _ 8 (by decide))).st (pk_andE _ 8 (by decide))
theorem pc_ok_v {kd dp w h : Nat} (hok : pc_ok kd dp w h) : pc_v (nI kd) (nI dp) (nI w) (nI h) := by
  obtain ⟨h1, h2, h3⟩ := hok
  have r : ∀ n : Nat, 1 ≤ n ∧ n ≤ 8 → ¬ nI n < 1 ∧ ¬ 8 < nI n := by
    intro n hn
    rw [show (1 : Int32) = nI 1 from rfl, show (8 : Int32) = nI 8 from rfl, nI_ltI (by omega) (by decide), nI_ltI (by decide) (by omega)]
    omega
  refine ⟨?_, (r w h2).1, (r w h2).2, (r h h3).1, (r h h3).2⟩
  rcases h1 with ⟨rfl, rfl | rfl | rfl | rfl⟩ | ⟨rfl | rfl | rfl, rfl⟩
  · exact Or.inl ⟨rfl, Or.inl rfl⟩
  · exact Or.inl ⟨rfl, Or.inr (Or.inl rfl)⟩
  · exact Or.inl ⟨rfl, Or.inr (Or.inr (Or.inl rfl))⟩
  · exact Or.inl ⟨rfl, Or.inr (Or.inr (Or.inr rfl))⟩
  · exact Or.inr ⟨Or.inl rfl, rfl⟩
  · exact Or.inr ⟨Or.inr (Or.inl rfl), rfl⟩
  · exact Or.inr ⟨Or.inr (Or.inr rfl), rfl⟩
section LAW
variable {S d : Nat} {Q : pm_Q}
theorem w_law_step {M : pm_M} {i : Nat} (hS : S < 2 ^ 31) (hiS : i + 5 ≤ S) (hI : lw_i M) (go : ∀ M', lw_i M' → pm_R S (pm_PC S (d + 8)) Q 160 502 [some (.inr (.inr 31)), some (.inr (.inr 0)), some (.inr (.inr 19)), some (.inl (nI i))] [] M') : pm_R S (pm_PC S (d + 8)) Q 160 26 [some (.inr (.inr 31)), some (.inr (.inr 0)), some (.inr (.inr 19)), some (.inl (nI i))] [] M := by
  obtain ⟨kd, dp, w, h, f, F, cc, rc, hok, hsm, hfb, hi, hm, hst⟩ := hI
  have hw := hok.2.1
  have hh := hok.2.2
  have hpp := pc_pp_le kd
  have h700 : F.length ≤ 700 := hm.2.2.1.2.1
  have v1 : vp_in (nI i + 1) S := by rw [nI_1]; exact vp_in_nI (by omega) hS
  have v2 : vp_in (nI i + 2) S := by rw [show (2 : Int32) = nI 2 from rfl, nI_add]; exact vp_in_nI (by omega) hS
  have v3 : vp_in (nI i + 3) S := by rw [show (3 : Int32) = nI 3 from rfl, nI_add]; exact vp_in_nI (by omega) hS
  have v4 : vp_in (nI i + 4) S := by rw [show (4 : Int32) = nI 4 from rfl, nI_add]; exact vp_in_nI (by omega) hS
  -- the state after both have moved
  have nxt : ∀ {M1 M2 : pm_M} {kd' dp' w' h' : Nat} {f' : Nat → Nat → Nat → Int32} {F' : List Int32} {cc' : Int32} {rc' : Nat → Int32}, pc_ok kd' dp' w' h' → sm_ok kd' dp' w' h' f' → fx_b F' → im_is M1 kd' dp' w' h' f' F' cc' rc' → mo_is M2 kd' dp' w' h' f' F' cc' rc' → pm_ag im_ks M M1 → pm_ag mo_ks M1 M2 → lw_i M2 := by
    intro M1 M2 kd' dp' w' h' f' F' cc' rc' q1 q2 q3 q4 q5 a1 a2
    exact ⟨kd', dp', w', h', f', F', cc', rc', q1, q2, q3, q4.kp a2, q5, (hst.keep a1 (by decide)).keep a2 (by decide)⟩
  have same : lw_i M := ⟨kd, dp, w, h, f, F, cc, rc, hok, hsm, hfb, hi, hm, hst⟩
  obtain ⟨c, hc, ec⟩ := pk_andE (M 31 (nI i).toNatClampNeg) (m := 15) 4 (by decide)
  have hc : c < 16 := hc
  have h31 : ∀ {M1 : pm_M}, pm_ag im_ks M M1 → M1 31 = M 31 := fun a => a 31 (by decide)
  have other : 13 < c → pm_R S (pm_PC S (d + 8)) Q 160 26 [some (.inr (.inr 31)), some (.inr (.inr 0)), some (.inr (.inr 19)), some (.inl (nI i))] [] M := by
    intro h13
    refine k_Law_law_26 (vp_in_nI (by omega) hS) (fun _ => go M same) (fun n o ht he => ?_)
    exfalso
    rw [ec, nI_toInt (by omega)] at he
    have : n < 14 := by
      by_cases hn : n < 14
      · exact hn
      · rw [Array.getElem?_eq_none (by show 14 ≤ n; omega)] at ht
        cases ht
    omega
  have pick : ∀ (pc : Nat), pm_R S (pm_PC S (d + 8)) Q 160 pc [some (.inr (.inr 31)), some (.inr (.inr 0)), some (.inr (.inr 19)), some (.inl (nI i))] [] M → c < 14 → ((#[72, 125, 138, 191, 234, 283, 296, 309, 332, 365, 388, 411, 434, 457] : Array Int)[c]? = some ((pc : Int) - 32)) → pm_R S (pm_PC S (d + 8)) Q 160 26 [some (.inr (.inr 31)), some (.inr (.inr 0)), some (.inr (.inr 19)), some (.inl (nI i))] [] M := by
    intro pc hR h14 hpc
    refine k_Law_law_26 (vp_in_nI (by omega) hS) (fun z => ?_) (fun n o ht he => ?_)
    · exfalso
      rw [ec, nI_toInt (by omega)] at z
      omega
    · rw [ec, nI_toInt (by omega)] at he
      have hn : n = c := by omega
      subst hn
      rw [hpc] at ht
      have ho : (pc : Int) - 32 = o := Option.some.inj ht
      have e : ((32 : Int) + o).toNat = pc := by omega
      rw [e]
      exact hR
  have cases16 : c = 0 ∨ c = 1 ∨ c = 2 ∨ c = 3 ∨ c = 4 ∨ c = 5 ∨ c = 6 ∨ c = 7 ∨ c = 8 ∨ c = 9 ∨ c = 10 ∨ c = 11 ∨ c = 12 ∨ c = 13 ∨ 13 < c := by omega
  rcases cases16 with e | e | e | e | e | e | e | e | e | e | e | e | e | e | e
  · -- begin
    refine pick 104 ?_ (by omega) (by rw [e]; rfl)
    refine k_Law_law_104 v1 v2 v3 v4 (w_Img_begin hi (fun kd' dp' w' h' hok' e1 e2 e3 e4 M1 g1 a1 => k_Law_law_128 v1 v2 v3 v4 ?_) (fun hv => k_Law_law_128 v1 v2 v3 v4 ?_))
    · rw [h31 a1]
      refine w_Mod_begin (hm.kp a1) (fun kd2 dp2 w2 h2 hok2 d1 d2 d3 d4 M2 g2 a2 => k_Law_law_152 (fun _ => go M2 ?_) (fun z => absurd rfl z)) (fun hv => absurd ?_ hv)
      · have hk : kd' = kd2 ∧ dp' = dp2 ∧ w' = w2 ∧ h' = h2 := by
          have b1 := pc_kd hok'
          have b2 := pc_kd hok2
          have b3 := pc_dp hok'
          have b4 := pc_dp hok2
          have b5 := hok'.2
          have b6 := hok2.2
          rw [e1] at d1
          rw [e2] at d2
          rw [e3] at d3
          rw [e4] at d4
          exact ⟨(nI_eq (by omega) (by omega)).mp d1, (nI_eq (by omega) (by omega)).mp d2, (nI_eq (by omega) (by omega)).mp d3, (nI_eq (by omega) (by omega)).mp d4⟩
        obtain ⟨rfl, rfl, rfl, rfl⟩ := hk
        exact nxt hok' (fun x y c _ _ _ => ⟨0, Nat.two_pow_pos _, rfl⟩) hfb g1 g2 a1 a2
      · rw [e1, e2, e3, e4]
        exact pc_ok_v hok'
    · refine w_Mod_begin hm (fun kd2 dp2 w2 h2 hok2 d1 d2 d3 d4 M2 g2 a2 => absurd ?_ hv) (fun hv => k_Law_law_152 (fun _ => go M same) (fun z => absurd rfl z))
      rw [d1, d2, d3, d4]
      exact pc_ok_v hok2
  · -- shape
    exact pick 157 (k_Law_law_157 (w_Img_shape hi (k_Law_law_161 (w_Mod_shape hm (k_Law_law_165 (fun _ => go M same) (fun z => absurd rfl z)))))) (by omega) (by rw [e]; rfl)
  · -- set
    refine pick 170 ?_ (by omega) (by rw [e]; rfl)
    have hdp : 2 ^ dp < 1000 := by rcases pc_dp hok with rfl | rfl | rfl | rfl <;> decide
    have four : ∀ {X Y C V : Int32} {x y c v : Nat}, x < w → y < h → c < pc_pp kd → v < 2 ^ dp → X = nI x → Y = nI y → C = nI c → V = nI v → ¬ (X < 0 ∨ nI w ≤ X ∨ Y < 0 ∨ nI h ≤ Y ∨ C < 0 ∨ nI (pc_pp kd) ≤ C ∨ V < 0 ∨ nI (2 ^ dp) ≤ V) := by
      intro X Y C V x y c v hx hy hc hv ex ey ecc ev
      rintro (z | z | z | z | z | z | z | z)
      · exact nI_pos (by omega) (ex ▸ z)
      · exact nI_ge hx (by omega) (ex ▸ z)
      · exact nI_pos (by omega) (ey ▸ z)
      · exact nI_ge hy (by omega) (ey ▸ z)
      · exact nI_pos (by omega) (ecc ▸ z)
      · exact nI_ge hc (by omega) (ecc ▸ z)
      · exact nI_pos (by omega) (ev ▸ z)
      · exact nI_ge hv (by omega) (ev ▸ z)
    refine k_Law_law_170 v1 v2 v3 v4 (w_Img_set hok hi (fun x y c' v hx hy hc' hv ex ey ecc ev M1 g1 a1 => k_Law_law_194 v1 v2 v3 v4 ?_) (fun hno => k_Law_law_194 v1 v2 v3 v4 ?_))
    · rw [h31 a1]
      refine w_Mod_set hok (hm.kp a1) (fun x2 y2 c2 u2 hx2 hy2 hc2 hv2 ex2 ey2 ec2 ev2 M2 g2 a2 => k_Law_law_218 (fun _ => go M2 ?_) (fun z => absurd rfl z)) (fun hno => absurd hno (four hx hy hc' hv ex ey ecc ev))
      rw [ex] at ex2
      rw [ey] at ey2
      rw [ecc] at ec2
      have q1 := (nI_eq (by omega) (by omega)).mp ex2
      have q2 := (nI_eq (by omega) (by omega)).mp ey2
      have q3 := (nI_eq (by omega) (by omega)).mp ec2
      subst q1 q2 q3
      exact nxt hok (sm_ok_up hsm hv ev) hfb g1 g2 a1 a2
    · exact w_Mod_set hok hm (fun x2 y2 c2 u2 hx2 hy2 hc2 hv2 ex2 ey2 ec2 ev2 M2 g2 a2 => absurd hno (four hx2 hy2 hc2 hv2 ex2 ey2 ec2 ev2)) (fun _ => k_Law_law_218 (fun _ => go M same) (fun z => absurd rfl z))
  · -- get
    refine pick 223 ?_ (by omega) (by rw [e]; rfl)
    refine k_Law_law_223 v1 v2 v3 (w_Img_get hok hi (fun x y c' hx hy hc' ex ey ecc => k_Law_law_242 v1 v2 v3 ?_) (fun hno => k_Law_law_242 v1 v2 v3 ?_))
    · refine w_Mod_get hok hm (fun x2 y2 c2 hx2 hy2 hc2 ex2 ey2 ec2 => ?_) (fun hno => absurd hno (in_out (by omega) (by omega) (by omega) hx hy hc' ex ey ecc))
      rw [ex] at ex2
      rw [ey] at ey2
      rw [ecc] at ec2
      have q1 := (nI_eq (by omega) (by omega)).mp ex2
      have q2 := (nI_eq (by omega) (by omega)).mp ey2
      have q3 := (nI_eq (by omega) (by omega)).mp ec2
      subst q1 q2 q3
      exact k_Law_law_261 (fun _ => go M same) (fun z => absurd rfl z)
    · exact w_Mod_get hok hm (fun x2 y2 c2 hx2 hy2 hc2 ex2 ey2 ec2 => absurd hno (in_out (by omega) (by omega) (by omega) hx2 hy2 hc2 ex2 ey2 ec2)) (fun _ => k_Law_law_261 (fun _ => go M same) (fun z => absurd rfl z))
  · -- write
    refine pick 266 ?_ (by omega) (by rw [e]; rfl)
    have wr : ∀ s : Int32, (s = if M 31 (nI i + 1).toNatClampNeg = 0 then 0 else 1) → pm_R S (pm_PC S (d + 8)) Q 160 280 [some (.inr (.inr 31)), some (.inr (.inr 0)), some (.inr (.inr 19)), some (.inl (nI i))] [.inl s, .inr (.inr 0)] M := by
      intro s hs
      have second : ∀ (M1 : pm_M) (y : Int32), M1 31 = M 31 → pm_PC S (d + 8) 132 [.inr (.inr 19), .inl s, .inl (M 31 (nI i + 2).toNatClampNeg)] M1 (fun r M' => pm_R S (pm_PC S (d + 8)) Q 160 310 [some (.inr (.inr 31)), some (.inr (.inr 0)), some (.inr (.inr 19)), some (.inl (nI i))] (r.toList ++ [.inl y]) M') → pm_R S (pm_PC S (d + 8)) Q 160 288 [some (.inr (.inr 31)), some (.inr (.inr 0)), some (.inr (.inr 19)), some (.inl (nI i))] [.inl y] M1 := by
        intro M1 y e31 hcall
        refine k_Law_law_288 v1 (fun z => k_Law_law_301 (k_Law_law_302 v2 ?_)) (fun z => k_Law_law_297 (k_Law_law_302 v2 ?_))
        · rw [e31] at z
          rw [if_pos z] at hs
          rw [e31, ← hs]
          exact hcall
        · rw [e31] at z
          rw [if_neg z] at hs
          rw [e31, ← hs]
          exact hcall
      refine k_Law_law_280 v2 (w_Img_write (d := d + 1) hok hst hi (fun n hn ef M1 g1 a1 => second M1 _ (h31 a1) ?_) (fun hno => second M _ rfl ?_))
      · refine w_Mod_write (d := d + 1) hok hsm (hm.kp a1) (fun n2 hn2 ef2 M2 g2 a2 => ?_) (fun hno => ?_)
        · rw [ef] at ef2
          have q := (nI_eq (by omega) (by omega)).mp ef2
          subst q
          exact k_Law_law_310 (fun _ => go M2 (nxt hok hsm (fb_of_b hok _) g1 g2 a1 a2)) (fun z => absurd rfl z)
        · exfalso
          rw [ef] at hno
          rcases hno with z | z
          · exact nI_pos (by omega) z
          · rw [show (5 : Int32) = nI 5 from rfl, nI_ltI (by decide) (by omega)] at z
            omega
      · refine w_Mod_write (d := d + 1) hok hsm hm (fun n2 hn2 ef2 M2 g2 a2 => ?_) (fun _ => k_Law_law_310 (fun _ => go M same) (fun z => absurd rfl z))
        exfalso
        rw [ef2] at hno
        rcases hno with z | z
        · exact nI_pos (by omega) z
        · rw [show (5 : Int32) = nI 5 from rfl, nI_ltI (by decide) (by omega)] at z
          omega
    exact k_Law_law_266 v1 (fun z => k_Law_law_279 (wr 0 (by rw [if_pos z]))) (fun z => k_Law_law_275 (wr 1 (by rw [if_neg z])))
  · -- read
    refine pick 315 ?_ (by omega) (by rw [e]; rfl)
    have eqq : ∀ {P P2 : List Int32} {l l2 : Nat}, fa F = some (P, l) → fa F = some (P2, l2) → P = P2 ∧ l = l2 := by
      intro P P2 l l2 h1 h2
      rw [h1] at h2
      simp only [Option.some.injEq, Prod.mk.injEq] at h2
      exact h2
    have equ : ∀ {P D D2 : List Int32} {n n2 : Nat}, un_all P = some (D, n) → un_all P = some (D2, n2) → D = D2 ∧ n = n2 := by
      intro P D D2 n n2 h1 h2
      rw [h1] at h2
      simp only [Option.some.injEq, Prod.mk.injEq] at h2
      exact h2
    have eqs : ∀ {k1 d1 w1 h1 k2 d2 w2 h2 : Nat} {a b c' e' : Int32}, pc_ok k1 d1 w1 h1 → pc_ok k2 d2 w2 h2 → a = nI k1 → b = nI d1 → c' = nI w1 → e' = nI h1 → a = nI k2 → b = nI d2 → c' = nI w2 → e' = nI h2 → k1 = k2 ∧ d1 = d2 ∧ w1 = w2 ∧ h1 = h2 := by
      intro k1 d1 w1 h1 k2 d2 w2 h2 a b c' e' o1 o2 p1 p2 p3 p4 r1 r2 r3 r4
      have b1 := pc_kd o1
      have b2 := pc_kd o2
      have b3 := pc_dp o1
      have b4 := pc_dp o2
      have b5 := o1.2
      have b6 := o2.2
      rw [p1] at r1
      rw [p2] at r2
      rw [p3] at r3
      rw [p4] at r4
      exact ⟨(nI_eq (by omega) (by omega)).mp r1, (nI_eq (by omega) (by omega)).mp r2, (nI_eq (by omega) (by omega)).mp r3, (nI_eq (by omega) (by omega)).mp r4⟩
    have yes : ∀ {M1 M2 : pm_M} {y : Int32}, lw_i M2 → pm_R S (pm_PC S (d + 8)) Q 160 323 [some (.inr (.inr 31)), some (.inr (.inr 0)), some (.inr (.inr 19)), some (.inl (nI i))] ((some (.inl y) : Option pm_V).toList ++ [.inl y]) M2 := fun hI => k_Law_law_323 (fun _ => go _ hI) (fun z => absurd rfl z)
    refine k_Law_law_315 (w_Img_read (d := d + 1) hst hfb hi (fun hfa M1 g1 a1 => k_Law_law_319 ?_) (fun P ls hfa hhd M1 g1 a1 => k_Law_law_319 ?_) (fun P ls hfa hhd hun M1 g1 a1 => k_Law_law_319 ?_) (fun P ls D n kd' dp' w' h' hfa hhd hun hok' e1 e2 e3 e4 hfi M1 g1 a1 => k_Law_law_319 ?_) (fun P ls D n kd' dp' w' h' hfa hhd hun hok' e1 e2 e3 e4 hfi M1 g1 a1 => k_Law_law_319 ?_))
    · refine w_Mod_read hfb (hm.kp a1) (fun hfa2 M2 g2 a2 => yes (M1 := M1) (nxt hok hsm hfb g1 g2 a1 a2)) (fun P2 l2 hfa2 => ?_) (fun P2 l2 hfa2 => ?_) (fun P2 l2 D2 n2 k2 d2 w2 h2 hfa2 => ?_) (fun P2 l2 D2 n2 k2 d2 w2 h2 hfa2 => ?_) <;> (rw [hfa] at hfa2; cases hfa2)
    · refine w_Mod_read hfb (hm.kp a1) (fun hfa2 => ?_) (fun P2 l2 hfa2 hhd2 M2 g2 a2 => yes (M1 := M1) (nxt hok hsm hfb g1 g2 a1 a2)) (fun P2 l2 hfa2 hhd2 => ?_) (fun P2 l2 D2 n2 k2 d2 w2 h2 hfa2 hhd2 => ?_) (fun P2 l2 D2 n2 k2 d2 w2 h2 hfa2 hhd2 => ?_)
      · rw [hfa] at hfa2; cases hfa2
      · exact absurd ((eqq hfa hfa2).2 ▸ hhd2) hhd
      · exact absurd ((eqq hfa hfa2).2 ▸ hhd2) hhd
      · exact absurd ((eqq hfa hfa2).2 ▸ hhd2) hhd
    · refine w_Mod_read hfb (hm.kp a1) (fun hfa2 => ?_) (fun P2 l2 hfa2 hhd2 => ?_) (fun P2 l2 hfa2 hhd2 hun2 M2 g2 a2 => yes (M1 := M1) (nxt hok hsm hfb g1 g2 a1 a2)) (fun P2 l2 D2 n2 k2 d2 w2 h2 hfa2 hhd2 hun2 => ?_) (fun P2 l2 D2 n2 k2 d2 w2 h2 hfa2 hhd2 hun2 => ?_)
      · rw [hfa] at hfa2; cases hfa2
      · exact absurd ((eqq hfa hfa2).2 ▸ hhd) hhd2
      · rw [← (eqq hfa hfa2).1, hun] at hun2; cases hun2
      · rw [← (eqq hfa hfa2).1, hun] at hun2; cases hun2
    · refine w_Mod_read hfb (hm.kp a1) (fun hfa2 => ?_) (fun P2 l2 hfa2 hhd2 => ?_) (fun P2 l2 hfa2 hhd2 hun2 => ?_) (fun P2 l2 D2 n2 k2 d2 w2 h2 hfa2 hhd2 hun2 hok2 f1 f2 f3 f4 hfi2 M2 g2 a2 => yes (M1 := M1) (nxt hok hsm hfb g1 g2 a1 a2)) (fun P2 l2 D2 n2 k2 d2 w2 h2 hfa2 hhd2 hun2 hok2 f1 f2 f3 f4 hfi2 => ?_)
      · rw [hfa] at hfa2; cases hfa2
      · exact absurd ((eqq hfa hfa2).2 ▸ hhd) hhd2
      · rw [← (eqq hfa hfa2).1, hun] at hun2; cases hun2
      · obtain ⟨rfl, rfl⟩ := eqq hfa hfa2
        obtain ⟨rfl, rfl⟩ := equ hun hun2
        obtain ⟨rfl, rfl, rfl, rfl⟩ := eqs hok' hok2 e1 e2 e3 e4 f1 f2 f3 f4
        exact absurd hfi2 hfi
    · refine w_Mod_read hfb (hm.kp a1) (fun hfa2 => ?_) (fun P2 l2 hfa2 hhd2 => ?_) (fun P2 l2 hfa2 hhd2 hun2 => ?_) (fun P2 l2 D2 n2 k2 d2 w2 h2 hfa2 hhd2 hun2 hok2 f1 f2 f3 f4 hfi2 => ?_) (fun P2 l2 D2 n2 k2 d2 w2 h2 hfa2 hhd2 hun2 hok2 f1 f2 f3 f4 hfi2 M2 g2 a2 => ?_)
      · rw [hfa] at hfa2; cases hfa2
      · exact absurd ((eqq hfa hfa2).2 ▸ hhd) hhd2
      · rw [← (eqq hfa hfa2).1, hun] at hun2; cases hun2
      · obtain ⟨rfl, rfl⟩ := eqq hfa hfa2
        obtain ⟨rfl, rfl⟩ := equ hun hun2
        obtain ⟨rfl, rfl, rfl, rfl⟩ := eqs hok' hok2 e1 e2 e3 e4 f1 f2 f3 f4
        exact absurd hfi hfi2
      · obtain ⟨rfl, rfl⟩ := eqq hfa hfa2
        obtain ⟨rfl, rfl⟩ := equ hun hun2
        obtain ⟨rfl, rfl, rfl, rfl⟩ := eqs hok' hok2 e1 e2 e3 e4 f1 f2 f3 f4
        exact yes (M1 := M1) (nxt hok' (fun x y c _ _ _ => sm_of hok' D (rd_7 F) x y c) hfb g1 g2 a1 a2)
  · -- length
    exact pick 328 (k_Law_law_328 (w_Img_length hi (k_Law_law_332 (w_Mod_length hm (k_Law_law_336 (fun _ => go M same) (fun z => absurd rfl z)))))) (by omega) (by rw [e]; rfl)
  · -- byteAt
    exact pick 341 (k_Law_law_341 v1 (w_Img_byteAt hi (k_Law_law_350 v1 (w_Mod_byteAt hm (k_Law_law_359 (fun _ => go M same) (fun z => absurd rfl z)))))) (by omega) (by rw [e]; rfl)
  · -- poke
    refine pick 364 ?_ (by omega) (by rw [e]; rfl)
    refine k_Law_law_364 v1 v2 (w_Img_poke hi (fun j hj ek b1 b2 M1 g1 a1 => k_Law_law_378 v1 v2 ?_) (fun hno => k_Law_law_378 v1 v2 ?_))
    · rw [h31 a1]
      refine w_Mod_poke (hm.kp a1) (fun j2 hj2 ek2 c1 c2 M2 g2 a2 => ?_) (fun hno => ?_)
      · rw [ek] at ek2
        have q := (nI_eq (by omega) (by omega)).mp ek2
        subst q
        exact k_Law_law_392 (fun _ => go M2 (nxt hok hsm (hfb.st (by_le b1 b2)) g1 g2 a1 a2)) (fun z => absurd rfl z)
      · exfalso
        rcases hno with z | z | z | z
        · exact nI_pos (by omega) (ek ▸ z)
        · exact nI_ge hj (by omega) (ek ▸ z)
        · exact b1 z
        · exact b2 z
    · refine w_Mod_poke hm (fun j2 hj2 ek2 c1 c2 M2 g2 a2 => ?_) (fun _ => k_Law_law_392 (fun _ => go M same) (fun z => absurd rfl z))
      exfalso
      rcases hno with z | z | z | z
      · exact nI_pos (by omega) (ek2 ▸ z)
      · exact nI_ge hj2 (by omega) (ek2 ▸ z)
      · exact c1 z
      · exact c2 z
  · -- append
    refine pick 397 ?_ (by omega) (by rw [e]; rfl)
    refine k_Law_law_397 v1 (w_Img_append hi (fun hl b1 b2 M1 g1 a1 => k_Law_law_406 v1 ?_) (fun hno => k_Law_law_406 v1 ?_))
    · rw [h31 a1]
      refine w_Mod_append (hm.kp a1) (fun hl2 c1 c2 M2 g2 a2 => k_Law_law_415 (fun _ => go M2 (nxt hok hsm (hfb.app (fx_b.mem (fun x hx => ?_))) g1 g2 a1 a2)) (fun z => absurd rfl z)) (fun hno => ?_)
      · rcases List.mem_cons.mp hx with rfl | hx
        · exact by_le b1 b2
        · cases hx
      · exfalso
        rcases hno with z | z | z
        · omega
        · exact b1 z
        · exact b2 z
    · refine w_Mod_append hm (fun hl2 c1 c2 M2 g2 a2 => ?_) (fun _ => k_Law_law_415 (fun _ => go M same) (fun z => absurd rfl z))
      exfalso
      rcases hno with z | z | z
      · omega
      · exact c1 z
      · exact c2 z
  · -- trim
    refine pick 420 ?_ (by omega) (by rw [e]; rfl)
    refine k_Law_law_420 v1 (w_Img_trim hi (fun n hn ek M1 g1 a1 => k_Law_law_429 v1 ?_) (fun hno => k_Law_law_429 v1 ?_))
    · rw [h31 a1]
      refine w_Mod_trim (hm.kp a1) (fun n2 hn2 ek2 M2 g2 a2 => ?_) (fun hno => ?_)
      · rw [ek] at ek2
        have q := (nI_eq (by omega) (by omega)).mp ek2
        subst q
        exact k_Law_law_438 (fun _ => go M2 (nxt hok hsm (hfb.tk n) g1 g2 a1 a2)) (fun z => absurd rfl z)
      · exfalso
        rcases hno with z | z
        · exact nI_pos (by omega) (ek ▸ z)
        · rw [ek, nI_ltI (by omega) (by omega)] at z
          omega
    · refine w_Mod_trim hm (fun n2 hn2 ek2 M2 g2 a2 => ?_) (fun _ => k_Law_law_438 (fun _ => go M same) (fun z => absurd rfl z))
      exfalso
      rcases hno with z | z
      · exact nI_pos (by omega) (ek2 ▸ z)
      · rw [ek2, nI_ltI (by omega) (by omega)] at z
        omega
  · -- seal
    refine pick 443 ?_ (by omega) (by rw [e]; rfl)
    have sl : ∀ {j : Nat} {F' : List Int32}, fx_seal F j = some F' → j + 12 ≤ F.length := by
      intro j F' hs
      unfold fx_seal at hs
      cases he : fx_end F j with
      | none => rw [he] at hs; cases hs
      | some e' =>
        have := fx_end_ok he
        omega
    refine k_Law_law_443 v1 (w_Img_seal hfb hi (fun j F' ek hs M1 g1 a1 => k_Law_law_452 v1 ?_) (fun hno => k_Law_law_452 v1 ?_))
    · have hj := sl hs
      rw [h31 a1]
      refine w_Mod_seal hfb (hm.kp a1) (fun j2 F2 ek2 hs2 M2 g2 a2 => ?_) (fun hno => ?_)
      · have hj2 := sl hs2
        rw [ek] at ek2
        have q := (nI_eq (by omega) (by omega)).mp ek2
        subst q
        rw [hs] at hs2
        cases hs2
        exact k_Law_law_461 (fun _ => go M2 (nxt hok hsm (hfb.sl hs) g1 g2 a1 a2)) (fun z => absurd rfl z)
      · have := hno j (by omega) ek
        rw [hs] at this
        cases this
    · refine w_Mod_seal hfb hm (fun j2 F2 ek2 hs2 M2 g2 a2 => ?_) (fun _ => k_Law_law_461 (fun _ => go M same) (fun z => absurd rfl z))
      have hj2 := sl hs2
      have := hno j2 (by omega) ek2
      rw [hs2] at this
      cases this
  · -- rows
    refine pick 466 ?_ (by omega) (by rw [e]; rfl)
    refine k_Law_law_466 v1 (w_Img_rows hi (fun n hn ek => k_Law_law_475 v1 ?_) (fun hno => k_Law_law_475 v1 ?_))
    · refine w_Mod_rows hm (fun n2 hn2 ek2 => ?_) (fun hno => ?_)
      · rw [ek] at ek2
        have q := (nI_eq (by omega) (by omega)).mp ek2
        subst q
        exact k_Law_law_484 (fun _ => go M same) (fun z => absurd rfl z)
      · exfalso
        rcases hno with z | z
        · exact nI_pos (by omega) (ek ▸ z)
        · exact nI_ge (b := 5) hn (by decide) (ek ▸ z)
    · refine w_Mod_rows hm (fun n2 hn2 ek2 => ?_) (fun _ => k_Law_law_484 (fun _ => go M same) (fun z => absurd rfl z))
      exfalso
      rcases hno with z | z
      · exact nI_pos (by omega) (ek2 ▸ z)
      · exact nI_ge (b := 5) hn2 (by decide) (ek2 ▸ z)
  · -- copies
    exact pick 489 (k_Law_law_489 (w_Img_copies hi (k_Law_law_493 (w_Mod_copies hm (k_Law_law_497 (fun _ => go M same) (fun z => absurd rfl z)))))) (by omega) (by rw [e]; rfl)
  · exact other e
theorem w_law_loop (hS : S < 2 ^ 31) (hq : ∀ M, Q (some (.inl 1)) M) : ∀ (k i : Nat) (M : pm_M), S < i + k → i ≤ S → lw_i M → pm_R S (pm_PC S (d + 8)) Q 160 18 [some (.inr (.inr 31)), some (.inr (.inr 0)), some (.inr (.inr 19)), some (.inl (nI i))] [] M := by
  intro k
  induction k with
  | zero => intro i M hk hi; omega
  | succ k ih =>
    intro i M hk hi hI
    refine k_Law_law_18 (fun _ => k_Law_law_508 (hq M)) (fun z => ?_)
    have h5 : 5 ≤ S := by
      by_cases h : 5 ≤ S
      · exact h
      · exfalso
        have h2 : nI S - nI 5 < 0 := pk_sneg (by decide) (by omega)
        exact z (Int32.lt_of_lt_of_le h2 (nI_le (a := 0) (by omega) (by omega)))
    have h6 : i + 5 ≤ S := by
      have z : ¬ nI S - nI 5 < nI i := z
      rw [pk_sub h5, nI_ltI (by omega) (by omega)] at z
      omega
    refine w_law_step hS h6 hI (fun M' hI' => k_Law_law_502 ?_)
    rw [show (5 : Int32) = nI 5 from rfl, nI_add]
    exact ih (i + 5) M' (by omega) h6 hI'
theorem w_law (hS : S < 2 ^ 31) {M : pm_M} {l3 : Option pm_V} (hI : lw_i M) (hq : ∀ M, Q (some (.inl 1)) M) : pm_R S (pm_PC S (d + 8)) Q 160 16 [some (.inr (.inr 31)), some (.inr (.inr 0)), some (.inr (.inr 19)), l3] [] M :=
  k_Law_law_16 (w_law_loop hS hq (S + 1) 0 M (by omega) (Nat.zero_le _) hI)
end LAW
