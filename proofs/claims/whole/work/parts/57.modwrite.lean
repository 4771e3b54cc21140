/-! SevenPassImageModel: chunks, write; what is written are bytes. -/
def bt_l (l : List Int32) : Prop := ∀ b ∈ l, ∃ o : Nat, o < 2 ∧ b = nI o
theorem bt_l.app {a b : List Int32} (h1 : bt_l a) (h2 : bt_l b) : bt_l (a ++ b) := fun x hx => (List.mem_append.mp hx).elim (h1 x) (h2 x)
theorem bt_lo (v : Int32) (n : Nat) : bt_l (bi_lo v n) := by
  intro b hb
  unfold bi_lo at hb
  obtain ⟨i, -, rfl⟩ := List.mem_map.mp hb
  exact pk_andE _ 1 (by decide)
theorem bt_hi (v : Int32) : ∀ n, bt_l (bi_hi v n)
  | 0 => fun b hb => by cases hb
  | n + 1 => by
    intro b hb
    rcases List.mem_cons.mp hb with rfl | hb
    · exact pk_andE _ 1 (by decide)
    · exact bt_hi v n b hb
theorem bt_cb (c : Int32) : bt_l (pk_cb c) := by
  unfold pk_cb
  split
  · exact bt_hi _ _
  · split
    · exact bt_hi _ _
    · split
      · exact bt_hi _ _
      · exact bt_hi _ _
theorem bt_cp (n m : Nat) : bt_l (pk_cp n m) := by
  unfold pk_cp
  exact (bt_cb _).app ((bt_lo _ _).app ((bt_hi _ _).app (bt_lo _ _)))
theorem bt_bs (D : List Int32) : ∀ k q, bt_l (pk_bs D k q)
  | 0, _ => fun b hb => by cases hb
  | k + 1, q => by
    unfold pk_bs
    split
    · split
      · exact (bt_cp _ _).app (bt_bs D k _)
      · exact (bt_cb _).app (bt_bs D k _)
    · exact fun b hb => by cases hb
theorem bt_bits (D : List Int32) : bt_l (pk_bits D) := by
  unfold pk_bits
  refine bt_l.app (fun b hb => ?_) ((bt_lo _ _).app ((bt_bs D _ _).app (bt_cb _)))
  rcases List.mem_cons.mp hb with rfl | hb
  · exact ⟨1, by decide, rfl⟩
  · cases hb
def bb_ok (l : List Int32) (t : Nat) : Prop := fx_b l ∧ l.length = (t + 7) / 8 ∧ (¬ t % 8 = 0 → ∃ v : Nat, v < 2 ^ (t % 8) ∧ l[t / 8]? = some (nI v))
theorem fx_b.app {a b : List Int32} (h1 : fx_b a) (h2 : fx_b b) : fx_b (a ++ b) := by
  intro i x hx
  by_cases h : i < a.length
  · rw [List.getElem?_append_left h] at hx
    exact h1 i x hx
  · rw [List.getElem?_append_right (by omega)] at hx
    exact h2 _ x hx
theorem fx_b.st {a : List Int32} {i : Nat} {v : Int32} (h1 : fx_b a) (h2 : ∃ n : Nat, n < 256 ∧ v = nI n) : fx_b (a.set i v) := by
  intro j x hx
  rw [List.getElem?_set] at hx
  split at hx
  · split at hx
    · cases hx
      exact h2
    · cases hx
  · exact h1 j x hx
theorem fx_b.mem {l : List Int32} (h : ∀ x ∈ l, ∃ n : Nat, n < 256 ∧ x = nI n) : fx_b l := fun _ _ hx => h _ (List.mem_of_getElem? hx)
theorem bb_put {l : List Int32} {t o : Nat} {b : Int32} (h : bb_ok l t) (ho : o < 2) (hb : b = nI o) : bb_ok (bi_put l t b) (t + 1) := by
  obtain ⟨h1, h2, h3⟩ := h
  have ht8 : t % 8 < 8 := Nat.mod_lt _ (by decide)
  have key : ∃ v : Nat, v < 2 ^ (t % 8) ∧ (bi_l0 l t)[t / 8]? = some (nI v) ∧ fx_b (bi_l0 l t) := by
    unfold bi_l0
    by_cases h0 : t % 8 = 0
    · rw [if_pos h0]
      refine ⟨0, Nat.two_pow_pos _, ?_, h1.app (fx_b.mem (fun x hx => ⟨0, by decide, ?_⟩))⟩
      · rw [List.getElem?_append_right (by omega), show t / 8 - l.length = 0 by omega]
        rfl
      · rcases List.mem_cons.mp hx with rfl | hx
        · rfl
        · cases hx
    · rw [if_neg h0]
      obtain ⟨v, hv, e⟩ := h3 h0
      exact ⟨v, hv, e, h1⟩
  obtain ⟨v, hv, hlv, hfb⟩ := key
  have eput : bi_put l t b = (bi_l0 l t).set (t / 8) (nI (v + o * 2 ^ (t % 8))) := by
    unfold bi_put
    rw [hlv, Option.getD_some, hb, nb_orlo hv ho (by omega)]
  have hlt : v + o * 2 ^ (t % 8) < 2 ^ (t % 8 + 1) := by
    have e2 : o * 2 ^ (t % 8) ≤ 1 * 2 ^ (t % 8) := Nat.mul_le_mul_right _ (by omega)
    rw [Nat.pow_succ]
    omega
  refine ⟨?_, bi_put_len h2, fun hn => ⟨v + o * 2 ^ (t % 8), ?_, ?_⟩⟩
  · rw [eput]
    have h8 : 2 ^ (t % 8 + 1) ≤ 2 ^ 8 := Nat.pow_le_pow_right (by decide) (by omega)
    exact hfb.st ⟨_, Nat.lt_of_lt_of_le hlt h8, rfl⟩
  · rw [show (t + 1) % 8 = t % 8 + 1 by omega]
    exact hlt
  · rw [eput, show (t + 1) / 8 = t / 8 by omega, List.getElem?_set_self (by rw [bi_l0_len h2]; omega)]
theorem bb_ps : ∀ (bs l : List Int32) (t : Nat), bt_l bs → bb_ok l t → fx_b (bi_ps l t bs)
  | [], l, t, _, h => h.1
  | b :: r, l, t, hb, h => by
    obtain ⟨o, ho, e⟩ := hb b List.mem_cons_self
    exact bb_ps r _ _ (fun x hx => hb x (List.mem_cons_of_mem _ hx)) (bb_put h ho e)
theorem fx_be (v : Int32) : fx_b (by_be v) := by
  refine fx_b.mem (fun x hx => ?_)
  unfold by_be at hx
  simp only [List.mem_cons, List.not_mem_nil, or_false] at hx
  rcases hx with rfl | rfl | rfl | rfl <;> exact pk_andE _ 8 (by decide)
theorem pk_of_b (D : List Int32) : fx_b (pk_of D) := by
  unfold pk_of
  refine (bb_ps _ _ _ (bt_bits D) ⟨fx_b.mem (fun x hx => ?_), rfl, fun h => absurd rfl h⟩).app (fx_be _)
  simp only [List.mem_cons, List.not_mem_nil, or_false] at hx
  rcases hx with rfl | rfl
  · exact ⟨120, by decide, rfl⟩
  · exact ⟨1, by decide, rfl⟩
theorem fb_ch_b {t : Int32} {c : List Int32} (hc : fx_b c) : fx_b (fb_ch t c) := by
  unfold fb_ch
  exact (fx_be _).app ((fx_be _).app (hc.app (fx_be _)))
theorem fb_hd_b {kd dp w h : Nat} {s : Int32} (hok : pc_ok kd dp w h) : fx_b (fb_hd kd dp w h s) := by
  unfold fb_hd
  refine (fx_be _).app ((fx_be _).app (fx_b.mem (fun x hx => ?_)))
  simp only [List.mem_cons, List.not_mem_nil, or_false] at hx
  rcases hx with rfl | rfl | rfl | rfl | rfl
  · exact ⟨dp, by rcases pc_dp hok with rfl | rfl | rfl | rfl <;> decide, rfl⟩
  · exact ⟨kd, by rcases pc_kd hok with rfl | rfl | rfl | rfl <;> decide, rfl⟩
  · exact ⟨0, by decide, rfl⟩
  · exact ⟨0, by decide, rfl⟩
  · split
    · exact ⟨0, by decide, rfl⟩
    · exact ⟨1, by decide, rfl⟩
theorem fb_sg_b : fx_b fb_sg := by
  refine fx_b.mem (fun x hx => ?_)
  unfold fb_sg at hx
  simp only [List.mem_cons, List.not_mem_nil, or_false] at hx
  rcases hx with rfl | rfl | rfl | rfl | rfl | rfl | rfl | rfl
  · exact ⟨137, by decide, rfl⟩
  · exact ⟨80, by decide, rfl⟩
  · exact ⟨78, by decide, rfl⟩
  · exact ⟨71, by decide, rfl⟩
  · exact ⟨13, by decide, rfl⟩
  · exact ⟨10, by decide, rfl⟩
  · exact ⟨26, by decide, rfl⟩
  · exact ⟨10, by decide, rfl⟩
theorem fx_nil : fx_b [] := fun _ _ h => by cases h
theorem fb_of_b {kd dp w h : Nat} {s : Int32} (hok : pc_ok kd dp w h) (D : List Int32) : fx_b (fb_of kd dp w h s (pk_of D)) := by
  unfold fb_of
  exact fb_sg_b.app ((fb_ch_b (fb_hd_b hok)).app ((fb_ch_b (pk_of_b D)).app (fb_ch_b fx_nil)))
theorem ro_fs_b (f un : Nat) (g u : Nat → Int32) : ∀ n i, ∀ x ∈ ro_fs f un g u i n, ∃ v : Nat, v < 256 ∧ x = nI v
  | 0, _, x, hx => by cases hx
  | n + 1, i, x, hx => by
    rcases List.mem_cons.mp hx with rfl | hx
    · exact ro_fl_b _ _ _ _ _
    · exact ro_fs_b f un g u n _ x hx
theorem ro_ou_b {f : Nat} (hf : f < 5) (sz un : Nat) (g u : Nat → Int32) : fx_b (ro_ou f sz un g u) := by
  refine fx_b.mem (fun x hx => ?_)
  rcases List.mem_cons.mp hx with rfl | hx
  · exact ⟨f, by omega, rfl⟩
  · exact ro_fs_b _ _ _ _ _ _ x hx
theorem en_rows_b {kd dp w : Nat} {f : Nat → Nat → Nat → Int32} {flt p : Nat} (hf : flt ≤ 5) : ∀ k r u (s : List Int32 × (Nat → Int32)), fx_b s.1 → fx_b (en_rows kd dp w f flt p k r u s).1
  | 0, _, _, s, h => h
  | k + 1, r, u, s, h => by
    unfold en_rows
    exact en_rows_b hf k _ _ _ (h.app (ro_ou_b (en_q_lt kd dp w f hf p r u) _ _ _ _))
theorem en_all_b {kd dp w h : Nat} {f : Nat → Nat → Nat → Int32} {flt : Nat} (hf : flt ≤ 5) : ∀ k p (s : List Int32 × (Nat → Int32)), fx_b s.1 → fx_b (en_all kd dp w h f flt k p s).1
  | 0, _, s, h => h
  | k + 1, p, s, h => by
    unfold en_all
    exact en_all_b hf k _ _ (en_rows_b hf _ _ _ _ h)
theorem en_of_b {kd dp w h : Nat} {f : Nat → Nat → Nat → Int32} {flt : Nat} (hf : flt ≤ 5) (s : Int32) : fx_b (en_of kd dp w h f flt s).1 := by
  unfold en_of
  split
  · exact en_all_b hf _ _ _ fx_nil
  · exact en_all_b hf _ _ _ fx_nil
theorem be_small {n : Nat} (hn : n < 65536) : by_be (nI n) = [0, 0, nI (n / 256), nI (n % 256)] := by
  have e : ∀ (s : Int32) (k : Nat), ((s.toUInt32 &&& Int32.toUInt32 31).toBitVec % 32).toNat = k → pm_iushr (nI n) s &&& 255 = nI (n / 2 ^ k % 256) := by
    intro s k hs
    have h1 : pm_iushr (nI n) s = nI (n / 2 ^ k) := pk_ushrN (by omega) s k hs
    have h2 : n / 2 ^ k ≤ n := Nat.div_le_self _ _
    rw [h1, pk_andN (by omega) 8 (by decide)]
  unfold by_be
  rw [e 24 24 (by decide), e 16 16 (by decide), e 8 8 (by decide), e 0 0 (by decide)]
  have h1 : n / 2 ^ 24 % 256 = 0 := by omega
  have h2 : n / 2 ^ 16 % 256 = 0 := by omega
  have h3 : n / 2 ^ 8 % 256 = n / 256 := by omega
  have h4 : n / 2 ^ 0 % 256 = n % 256 := by omega
  rw [h1, h2, h3, h4]
  rfl
section MOD
variable {S d : Nat} {Q : pm_Q} {M : pm_M}
theorem w_Mod_chunk {F : List Int32} {a b c e t : Int32} (hF : mo_f M F) (hc : F.length + 8 ≤ 700) (ht : [a &&& 255, b &&& 255, c &&& 255, e &&& 255] = by_be t) (hq : ∀ M', mo_f M' (F ++ ([0, 0, 0, 0] ++ by_be t)) → M' 19 14 = nI F.length → mo_ag [6, 14] [22] M M' → Q none M') : pm_PC S (d + 3) 130 [.inr (.inr 19), .inl a, .inl b, .inl c, .inl e] M Q := by
  refine e_Mod_chunk (k_Mod_chunk_0 ?_)
  have a0 : mo_ag [6, 14] [22] M (pm_up M 19 14 (M 19 6)) := mo_ag.f (by decide)
  have f0 : mo_f (pm_up M 19 14 (M 19 6)) F := hF.keep (js := [14]) (ks := []) (mo_ag.f (by decide)) (by decide) (by decide)
  refine w_Mod_put4 f0 (by omega) (fun M1 f1 a1 => k_Mod_chunk_13 ?_)
  refine w_Mod_put f1 (by simp [by_be_len]; omega) (fun M2 f2 j2 a2 => k_Mod_chunk_18 ?_)
  refine w_Mod_put f2 (by simp [by_be_len]; omega) (fun M3 f3 j3 a3 => k_Mod_chunk_23 ?_)
  refine w_Mod_put f3 (by simp [by_be_len]; omega) (fun M4 f4 j4 a4 => k_Mod_chunk_28 ?_)
  refine w_Mod_put f4 (by simp [by_be_len]; omega) (fun M5 f5 j5 a5 => k_Mod_chunk_34 (hq M5 ?_ ?_ ?_))
  · have e0 : by_be 0 = [0, 0, 0, 0] := by decide
    rw [e0] at f5
    rw [← ht]
    simpa using f5
  · rw [j5 14 (by decide), j4 14 (by decide), j3 14 (by decide), j2 14 (by decide), a1.2 14 (by decide), pm_up_hit]
    exact hF.1
  · have cv : ∀ {N N' : pm_M}, (∀ j, j ≠ 6 → N' 19 j = N 19 j) → pm_ag [19, 22] N N' → mo_ag [6, 14] [22] N N' := fun h1 h2 => (mo_cv h1 h2).wd (by decide) (by decide)
    exact ((((a0.tr (a1.wd (by decide) (by decide))).tr (cv j2 a2)).tr (cv j3 a3)).tr (cv j4 a4)).tr (cv j5 a5)
theorem w_Mod_end {F c : List Int32} {t : Int32} (hF : mo_f M (F ++ ([0, 0, 0, 0] ++ (by_be t ++ c)))) (h14 : M 19 14 = nI F.length) (hb : fx_b F) (hcb : fx_b c) (hc : F.length + c.length + 12 ≤ 700) (hq : ∀ M', mo_f M' (F ++ fb_ch t c) → mo_ag [6] [22] M M' → Q none M') : pm_PC S (d + 3) 131 [.inr (.inr 19)] M Q := by
  have hlen : (F ++ ([0, 0, 0, 0] ++ (by_be t ++ c))).length = F.length + c.length + 8 := by
    simp only [List.length_append, by_be_len, List.length_cons, List.length_nil]
    omega
  have h6 : M 19 6 = nI (F.length + c.length + 8) := by rw [hF.1, hlen]
  have en : M 19 6 - M 19 14 - 8 = nI c.length := by
    rw [h6, h14, show (8 : Int32) = nI 8 from rfl, pk_sub (by omega), pk_sub (by omega)]
    congr 1
    omega
  have e2 : M 19 14 + 2 = nI (F.length + 2) := by rw [h14, show (2 : Int32) = nI 2 from rfl, nI_add]
  have e3 : M 19 14 + 3 = nI (F.length + 3) := by rw [h14, show (3 : Int32) = nI 3 from rfl, nI_add]
  have e4 : M 19 14 + 4 = nI (F.length + 4) := by rw [h14, show (4 : Int32) = nI 4 from rfl, nI_add]
  have ed : nI c.length / 256 = nI (c.length / 256) := pk_div (d := 256) (by omega) (by decide) (by decide)
  have er : pm_irem (nI c.length) 256 = nI (c.length % 256) := pk_rem (d := 256) (by omega) (by decide) (by decide)
  refine e_Mod_end (k_Mod_end_0 (by rw [e2]; exact vp_in_nI (by omega) (by decide)) (by rw [e3]; exact vp_in_nI (by omega) (by decide)) ?_)
  rw [en, e2, e3, e4, ed, er, nI_clamp (by omega), nI_clamp (by omega), h6]
  have hF2 : mo_f (pm_up (pm_up M 22 (F.length + 2) (nI (c.length / 256))) 22 (F.length + 3) (nI (c.length % 256))) (F ++ (by_be (nI c.length) ++ (by_be t ++ c))) := by
    have h := (hF.set (i := F.length + 2) (v := nI (c.length / 256))).set (i := F.length + 3) (v := nI (c.length % 256))
    rw [List.set_append_right _ _ (by omega), List.set_append_right _ _ (by omega), show F.length + 2 - F.length = 2 by omega, show F.length + 3 - F.length = 3 by omega] at h
    rw [be_small (by omega)]
    exact h
  have a2 : mo_ag [6] [22] M (pm_up (pm_up M 22 (F.length + 2) (nI (c.length / 256))) 22 (F.length + 3) (nI (c.length % 256))) := (mo_ag.p (by decide) (by decide)).tr (mo_ag.p (by decide) (by decide))
  have hlen2 : (F ++ (by_be (nI c.length) ++ (by_be t ++ c))).length = F.length + c.length + 8 := by
    simp only [List.length_append, by_be_len]
    omega
  refine w_Mod_check hF2 (hb.app ((fx_be _).app ((fx_be _).app hcb))) (by omega) (by omega) (k_Mod_end_60 ?_)
  have esl : by_sl (F ++ (by_be (nI c.length) ++ (by_be t ++ c))) (F.length + 4) (F.length + c.length + 8 - (F.length + 4)) = by_be t ++ c := by
    rw [← List.append_assoc]
    refine by_sl_app ?_ ?_
    · rw [List.length_append, by_be_len]
    · rw [List.length_append, by_be_len]
      omega
  rw [esl]
  refine w_Mod_put4 hF2 (by omega) (fun M3 f3 a3 => k_Mod_end_63 (hq M3 ?_ (a2.tr a3)))
  unfold fb_ch
  rw [List.append_assoc, List.append_assoc, List.append_assoc] at f3
  exact f3
theorem w_Mod_signature {k : Nat} (hk : k < 8) (hq : Q (some (.inl (nI (ps_sg k)))) M) : pm_PC S (d + 1) 133 [.inl (nI k)] M Q := by
  have hc : k = 0 ∨ k = 1 ∨ k = 2 ∨ k = 3 ∨ k = 4 ∨ k = 5 ∨ k = 6 ∨ k = 7 := by omega
  have n : ∀ {a : Int32} {b : Int32} {P : Prop}, ¬ a = b → ¬ (¬ a = b) → P := fun h1 h2 => absurd h1 h2
  rcases hc with rfl | rfl | rfl | rfl | rfl | rfl | rfl | rfl
  · exact e_Mod_signature (k_Mod_signature_0 (fun z => absurd (by decide) z) (fun _ => k_Mod_signature_4 (k_Mod_signature_63 hq)))
  · exact e_Mod_signature (k_Mod_signature_0 (fun _ => k_Mod_signature_10 (fun z => absurd (by decide) z) (fun _ => k_Mod_signature_15 (k_Mod_signature_63 hq))) (n (by decide)))
  · exact e_Mod_signature (k_Mod_signature_0 (fun _ => k_Mod_signature_10 (fun _ => k_Mod_signature_20 (fun z => absurd (by decide) z) (fun _ => k_Mod_signature_25 (k_Mod_signature_63 hq))) (n (by decide))) (n (by decide)))
  · exact e_Mod_signature (k_Mod_signature_0 (fun _ => k_Mod_signature_10 (fun _ => k_Mod_signature_20 (fun _ => k_Mod_signature_30 (fun z => absurd (by decide) z) (fun _ => k_Mod_signature_35 (k_Mod_signature_63 hq))) (n (by decide))) (n (by decide))) (n (by decide)))
  · exact e_Mod_signature (k_Mod_signature_0 (fun _ => k_Mod_signature_10 (fun _ => k_Mod_signature_20 (fun _ => k_Mod_signature_30 (fun _ => k_Mod_signature_40 (fun z => absurd (by decide) z) (fun _ => k_Mod_signature_45 (k_Mod_signature_63 hq))) (n (by decide))) (n (by decide))) (n (by decide))) (n (by decide)))
  · exact e_Mod_signature (k_Mod_signature_0 (fun _ => k_Mod_signature_10 (fun _ => k_Mod_signature_20 (fun _ => k_Mod_signature_30 (fun _ => k_Mod_signature_40 (fun _ => k_Mod_signature_50 (fun _ => k_Mod_signature_61 (k_Mod_signature_63 hq)) (n (by decide))) (n (by decide))) (n (by decide))) (n (by decide))) (n (by decide))) (n (by decide)))
  · exact e_Mod_signature (k_Mod_signature_0 (fun _ => k_Mod_signature_10 (fun _ => k_Mod_signature_20 (fun _ => k_Mod_signature_30 (fun _ => k_Mod_signature_40 (fun _ => k_Mod_signature_50 (fun z => absurd (by decide) z) (fun _ => k_Mod_signature_56 (k_Mod_signature_63 hq))) (n (by decide))) (n (by decide))) (n (by decide))) (n (by decide))) (n (by decide)))
  · exact e_Mod_signature (k_Mod_signature_0 (fun _ => k_Mod_signature_10 (fun _ => k_Mod_signature_20 (fun _ => k_Mod_signature_30 (fun _ => k_Mod_signature_40 (fun _ => k_Mod_signature_50 (fun _ => k_Mod_signature_61 (k_Mod_signature_63 hq)) (n (by decide))) (n (by decide))) (n (by decide))) (n (by decide))) (n (by decide))) (n (by decide)))
theorem w_mw_sig {x1 : Option pm_V} {x2 : Int32} : ∀ (k i : Nat) (M : pm_M) (F : List Int32), i + k = 8 → F = fb_sg.take i → mo_f M F → (∀ M' l3, mo_f M' fb_sg → mo_ag [6] [22] M M' → pm_R S (pm_PC S (d + 1)) Q 132 44 [some (.inr (.inr 19)), x1, some (.inl x2), l3] [] M') → pm_R S (pm_PC S (d + 1)) Q 132 24 [some (.inr (.inr 19)), x1, some (.inl x2), some (.inl (nI i))] [] M := by
  have hsg : ∀ i, i < 8 → fb_sg.take i ++ [nI (ps_sg i) &&& 255] = fb_sg.take (i + 1) ∧ (fb_sg.take i).length = i := by decide +kernel
  intro k
  induction k with
  | zero =>
    intro i M F hi eF hF hq
    have e : i = 8 := by omega
    subst e
    refine k_Mod_write_24 (fun _ => hq M _ ?_ mo_ag.rf) (fun z => absurd (by decide) z)
    have e8 : fb_sg.take 8 = fb_sg := by decide
    rw [← e8, ← eF]
    exact hF
  | succ k ih =>
    intro i M F hi eF hF hq
    obtain ⟨s1, s2⟩ := hsg i (by omega)
    refine k_Mod_write_24 (fun z => absurd z (nI_ge (b := 8) (by omega) (by decide))) (fun _ => k_Mod_write_30 (w_Mod_signature (by omega) (k_Mod_write_35 (w_Mod_put hF (by rw [eF, s2]; omega) (fun M1 f1 j1 a1 => k_Mod_write_38 ?_)))))
    rw [nI_1]
    refine ih (i + 1) M1 _ (by omega) (by rw [eF]; exact s1) f1 (fun M' l3 q1 q2 => hq M' l3 q1 ((mo_cv j1 a1).tr q2))
theorem w_Mod_write {kd dp w h : Nat} {f : Nat → Nat → Nat → Int32} {F : List Int32} {cc : Int32} {rc : Nat → Int32} {s flt : Int32} (hok : pc_ok kd dp w h) (hs : sm_ok kd dp w h f) (hi : mo_is M kd dp w h f F cc rc) (hy : ∀ n : Nat, n ≤ 5 → flt = nI n → ∀ M', mo_is M' kd dp w h f (fb_of kd dp w h s (pk_of (en_of kd dp w h f n s).1)) (nI (pk_cc (en_of kd dp w h f n s).1 ((en_of kd dp w h f n s).1.length + 1) 0)) (en_of kd dp w h f n s).2 → pm_ag mo_ks M M' → Q (some (.inl (nI (fb_of kd dp w h s (pk_of (en_of kd dp w h f n s).1)).length))) M') (hn : (flt < 0 ∨ 5 < flt) → Q (some (.inl (-1))) M) : pm_PC S (d + 7) 132 [.inr (.inr 19), .inl s, .inl flt] M Q := by
  obtain ⟨i1, i2, i3, i4, i5⟩ := hi
  refine e_Mod_write (k_Mod_write_0 (w_Mod_within (fun h1 h2 => k_Mod_write_6 (fun _ => k_Mod_write_11 ?_) (fun z => absurd (by decide) z)) (fun t => k_Mod_write_6 (fun z => absurd rfl z) (fun _ => k_Mod_write_9 (hn t)))))
  obtain ⟨n, hn5, rfl⟩ := mo_in (n := 6) (X := flt) (by decide) h1 h2
  have hy' := hy n (by omega) rfl
  have hbD := en_of_b (kd := kd) (dp := dp) (w := w) (h := h) (f := f) (flt := n) (by omega) s
  refine w_Mod_gather hok hs (by omega) i1 i2 (fun M1 d1 u1 a1 => k_Mod_write_17 ?_)
  generalize en_of kd dp w h f n s = ed at hy' hbD d1 u1
  have a2 : mo_ag [6] [22] M1 (pm_up M1 19 6 0) := mo_ag.f (by decide)
  have f2 : mo_f (pm_up M1 19 6 0) [] := ⟨pm_up_hit, by decide, fun i x hx => by cases hx⟩
  refine w_mw_sig 8 0 _ [] (by decide) rfl f2 (fun M3 l3 f3 a3 => k_Mod_write_44 ?_)
  have hwd : ∀ {N N' : pm_M} {js ks : List Nat}, mo_ag js ks N N' → (∀ k ∈ js, k ∈ [6, 10, 12, 14, 15, 24, 25]) → (∀ k ∈ ks, k ∈ [22, 23, 25]) → mo_ag [6, 10, 12, 14, 15, 24, 25] [22, 23, 25] N N' := fun h h1 h2 => h.wd h1 h2
  have A3 := ((hwd a1 (by decide) (by decide)).tr (hwd a2 (by decide) (by decide))).tr (hwd a3 (by decide) (by decide))
  have lsg : fb_sg.length = 8 := rfl
  refine w_Mod_chunk (t := 1229472850) f3 (by rw [lsg]; decide) (by decide) (fun M4 f4 b4 a4 => k_Mod_write_56 ?_)
  have A4 := A3.tr (hwd a4 (by decide) (by decide))
  have s4 := i1.keep A4 (by decide) (by decide) (by decide) (by decide)
  rw [s4.2.2.1]
  refine w_Mod_put4 f4 (by simp [by_be_len, lsg]) (fun M5 f5 a5 => k_Mod_write_64 ?_)
  have A5 := A4.tr (hwd a5 (by decide) (by decide))
  have s5 := i1.keep A5 (by decide) (by decide) (by decide) (by decide)
  rw [s5.2.2.2]
  refine w_Mod_put4 f5 (by simp [by_be_len, lsg]) (fun M6 f6 a6 => k_Mod_write_72 ?_)
  have A6 := A5.tr (hwd a6 (by decide) (by decide))
  have s6 := i1.keep A6 (by decide) (by decide) (by decide) (by decide)
  rw [s6.2.1]
  refine w_Mod_put f6 (by simp [by_be_len, lsg]) (fun M7 f7 j7 a7 => k_Mod_write_80 ?_)
  have A7 := A6.tr (hwd (mo_cv j7 a7) (by decide) (by decide))
  have s7 := i1.keep A7 (by decide) (by decide) (by decide) (by decide)
  rw [s7.1]
  refine w_Mod_put f7 (by simp [by_be_len, lsg]) (fun M8 f8 j8 a8 => k_Mod_write_88 ?_)
  refine w_Mod_put f8 (by simp [by_be_len, lsg]) (fun M9 f9 j9 a9 => k_Mod_write_93 ?_)
  refine w_Mod_put f9 (by simp [by_be_len, lsg]) (fun M10 f10 j10 a10 => ?_)
  have tail : ∀ v, v = (if s = 0 then (0 : Int32) else 1) → pm_R S (pm_PC S (d + 6)) Q 132 108 [some (.inr (.inr 19)), some (.inl s), some (.inl (nI n)), l3] [.inl v, .inr (.inr 19)] M10 := by
    rintro v rfl
    refine k_Mod_write_108 (w_Mod_put f10 (by simp [by_be_len, lsg]) (fun M11 f11 j11 a11 => k_Mod_write_111 ?_))
    have A11 := (((A7.tr (hwd (mo_cv j8 a8) (by decide) (by decide))).tr (hwd (mo_cv j9 a9) (by decide) (by decide))).tr (hwd (mo_cv j10 a10) (by decide) (by decide))).tr (hwd (mo_cv j11 a11) (by decide) (by decide))
    have hdp : nI dp &&& 255 = nI dp := by rcases pc_dp hok with rfl | rfl | rfl | rfl <;> decide
    have hkd : nI kd &&& 255 = nI kd := by rcases pc_kd hok with rfl | rfl | rfl | rfl <;> decide
    have hsv : (if s = 0 then (0 : Int32) else 1) &&& 255 = if s = 0 then 0 else 1 := by split <;> decide
    have h0 : (0 : Int32) &&& 255 = 0 := by decide
    have e11 : fb_sg ++ ([0, 0, 0, 0] ++ by_be 1229472850) ++ by_be (nI w) ++ by_be (nI h) ++ [nI dp &&& 255] ++ [nI kd &&& 255] ++ [0 &&& 255] ++ [0 &&& 255] ++ [(if s = 0 then (0 : Int32) else 1) &&& 255] = fb_sg ++ ([0, 0, 0, 0] ++ (by_be 1229472850 ++ fb_hd kd dp w h s)) := by
      rw [hdp, hkd, hsv, h0]
      unfold fb_hd
      simp only [List.append_assoc, List.cons_append, List.nil_append]
    rw [e11] at f11
    have lhd : (fb_hd kd dp w h s).length = 13 := rfl
    refine w_Mod_end f11 (by rw [j11 14 (by decide), j10 14 (by decide), j9 14 (by decide), j8 14 (by decide), j7 14 (by decide), a6.2 14 (by decide), a5.2 14 (by decide)]; exact b4) fb_sg_b (fb_hd_b hok) (by rw [lsg, lhd]; decide) (fun M12 f12 a12 => k_Mod_write_115 ?_)
    have A12 := A11.tr (hwd a12 (by decide) (by decide))
    have l12 : (fb_sg ++ fb_ch 1229472850 (fb_hd kd dp w h s)).length = 33 := by rw [List.length_append, fb_ch_len, lsg, lhd]
    have b12 : fx_b (fb_sg ++ fb_ch 1229472850 (fb_hd kd dp w h s)) := fb_sg_b.app (fb_ch_b (fb_hd_b hok))
    refine w_Mod_chunk (t := 1229209940) f12 (by rw [l12]; decide) (by decide) (fun M13 f13 b13 a13 => k_Mod_write_127 ?_)
    have A13 := A12.tr (hwd a13 (by decide) (by decide))
    have d13 : mo_d M13 ed.1 := by
      have c12 : ∀ {N N' : pm_M}, (∀ j, j ≠ 6 → N' 19 j = N 19 j) → pm_ag [19, 22] N N' → mo_d N ed.1 → mo_d N' ed.1 := fun h1 h2 hd => hd.keep (mo_cv h1 h2) (by decide) (by decide)
      have q7 := ((((d1.keep a2 (by decide) (by decide)).keep a3 (by decide) (by decide)).keep a4 (by decide) (by decide)).keep a5 (by decide) (by decide)).keep a6 (by decide) (by decide)
      exact ((c12 j11 a11 (c12 j10 a10 (c12 j9 a9 (c12 j8 a8 (c12 j7 a7 q7))))).keep a12 (by decide) (by decide)).keep a13 (by decide) (by decide)
    have hD3 := d13.2.1
    have hpl := pk_of_len hD3
    refine w_Mod_packData hbD d13 f13 (by simp only [List.length_append, by_be_len, fb_ch_len, lsg, lhd, List.length_cons, List.length_nil]; decide) (fun M14 f14 c14 a14 => k_Mod_write_131 ?_)
    have A14 := A13.tr (hwd a14 (by decide) (by decide))
    rw [List.append_assoc, List.append_assoc] at f14
    refine w_Mod_end f14 (by rw [a14.2 14 (by decide)]; exact b13) b12 (pk_of_b _) (by rw [l12]; omega) (fun M15 f15 a15 => k_Mod_write_135 ?_)
    have A15 := A14.tr (hwd a15 (by decide) (by decide))
    have l15 : (fb_sg ++ fb_ch 1229472850 (fb_hd kd dp w h s) ++ fb_ch 1229209940 (pk_of ed.1)).length = 45 + (pk_of ed.1).length := by rw [List.length_append, l12, fb_ch_len]; omega
    refine w_Mod_chunk (t := 1229278788) f15 (by rw [l15]; omega) (by decide) (fun M16 f16 b16 a16 => k_Mod_write_147 ?_)
    have A16 := A15.tr (hwd a16 (by decide) (by decide))
    have f16' : mo_f M16 (fb_sg ++ fb_ch 1229472850 (fb_hd kd dp w h s) ++ fb_ch 1229209940 (pk_of ed.1) ++ ([0, 0, 0, 0] ++ (by_be 1229278788 ++ []))) := by rw [List.append_nil]; exact f16
    refine w_Mod_end f16' b16 (b12.app (fb_ch_b (pk_of_b _))) fx_nil (by rw [l15]; simp only [List.length_nil]; omega) (fun M17 f17 a17 => k_Mod_write_151 ?_)
    have A17 := A16.tr (hwd a17 (by decide) (by decide))
    have eF : fb_sg ++ fb_ch 1229472850 (fb_hd kd dp w h s) ++ fb_ch 1229209940 (pk_of ed.1) ++ fb_ch 1229278788 [] = fb_of kd dp w h s (pk_of ed.1) := by
      unfold fb_of
      simp only [List.append_assoc]
    rw [eF] at f17
    rw [f17.1]
    refine hy' M17 ⟨i1.keep A17 (by decide) (by decide) (by decide) (by decide), i2.keep A17 (by decide), f17, ?_, fun i hi => ?_⟩ (A17.1.wd (by decide))
    · rw [a17.2 10 (by decide), a16.2 10 (by decide), a15.2 10 (by decide)]
      exact c14
    · have c23 : ∀ {N N' : pm_M} {js ks : List Nat}, mo_ag js ks N N' → 23 ∉ 19 :: ks → N' 23 i = N 23 i := fun h hk => by rw [h.pl hk]
      rw [c23 a17 (by decide), c23 a16 (by decide), c23 a15 (by decide), c23 a14 (by decide), c23 a13 (by decide), c23 a12 (by decide), c23 (mo_cv j11 a11) (by decide), c23 (mo_cv j10 a10) (by decide), c23 (mo_cv j9 a9) (by decide), c23 (mo_cv j8 a8) (by decide), c23 (mo_cv j7 a7) (by decide), c23 a6 (by decide), c23 a5 (by decide), c23 a4 (by decide), c23 a3 (by decide), c23 a2 (by decide)]
      exact u1 i hi
  refine k_Mod_write_98 (fun z => k_Mod_write_107 (tail _ (by rw [if_pos z]))) (fun z => k_Mod_write_103 (tail _ (by rw [if_neg z])))
end MOD
