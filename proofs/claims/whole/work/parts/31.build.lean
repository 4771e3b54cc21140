/-! ChunkFile.build: the file out of the picture's shape and the packed data. -/
theorem w_File_startChunk {S d : Nat} {Q : pm_Q} {M : pm_M} {l : List Int32} {ty sz : Int32} (hl : by_is M 2 l) (hc : l.length + 8 ≤ 700) (hq : ∀ M', by_is M' 2 (l ++ by_be sz ++ by_be ty) → pm_ag [2, 3] M M' → Q (some (.inl (nI l.length))) M') : pm_PC S (d + 3) 67 [.inr (.inr 1), .inl ty, .inl sz] M Q := by
  have hb : by_b 2 := Or.inl rfl
  have hcc : by_c 2 = 700 := rfl
  refine e_File_startChunk (k_File_startChunk_0 ?_)
  rw [hl.1]
  refine w_Bytes_addNumber hb hl (by omega) (fun M1 g1 g2 => k_File_startChunk_16 (w_Bytes_addNumber hb g1 (by simp [by_be_len]; omega) (fun M2 q1 q2 => k_File_startChunk_24 (hq M2 q1 (g2.tr q2)))))
theorem w_File_endChunk {S d : Nat} {Q : pm_Q} {M : pm_M} {l : List Int32} {st : Nat} (hl : by_is M 2 l) (hst : st + 4 ≤ l.length) (hc : l.length + 4 ≤ 700) (hq : ∀ M', by_is M' 2 (l ++ by_be (cr_l (by_sl l (st + 4) (l.length - (st + 4))))) → pm_ag [2, 3] M M' → Q none M') : pm_PC S (d + 3) 68 [.inr (.inr 1), .inl (nI st)] M Q := by
  have hb : by_b 2 := Or.inl rfl
  have hcc : by_c 2 = 700 := rfl
  refine e_File_endChunk (k_File_endChunk_0 ?_)
  rw [hl.1, show (4 : Int32) = nI 4 from rfl, nI_add]
  exact w_Bytes_checkOf hb hl hst (Nat.le_refl _) (k_File_endChunk_21 (w_Bytes_addNumber hb hl (by omega) (fun M1 g1 g2 => k_File_endChunk_24 (hq M1 g1 g2))))
def fb_ch (t : Int32) (c : List Int32) : List Int32 := by_be (nI c.length) ++ (by_be t ++ (c ++ by_be (cr_l (by_be t ++ c))))
def fb_sg : List Int32 := [nI 137, nI 80, nI 78, nI 71, nI 13, nI 10, nI 26, nI 10]
def fb_hd (kd dp w h : Nat) (s : Int32) : List Int32 := by_be (nI w) ++ (by_be (nI h) ++ [nI dp, nI kd, 0, 0, if s = 0 then 0 else 1])
def fb_of (kd dp w h : Nat) (s : Int32) (P : List Int32) : List Int32 := fb_sg ++ (fb_ch 1229472850 (fb_hd kd dp w h s) ++ (fb_ch 1229209940 P ++ fb_ch 1229278788 []))
theorem fb_ch_len (t : Int32) (c : List Int32) : (fb_ch t c).length = c.length + 12 := by
  unfold fb_ch
  simp only [List.length_append, by_be_len]
  omega
theorem fb_hd_len (kd dp w h : Nat) (s : Int32) : (fb_hd kd dp w h s).length = 13 := rfl
theorem fb_of_len (kd dp w h : Nat) (s : Int32) (P : List Int32) : (fb_of kd dp w h s P).length = P.length + 57 := by
  unfold fb_of
  simp only [List.length_append, fb_ch_len, fb_hd_len, List.length_nil]
  show 8 + _ = _
  omega
theorem by_sl_app {a b : List Int32} {i n : Nat} (hi : i = a.length) (hn : n = b.length) : by_sl (a ++ b) i n = b := by
  subst hi hn
  unfold by_sl
  rw [List.drop_append_of_le_length (Nat.le_refl _), List.drop_length, List.nil_append, List.take_length]
/-- a chunk is written behind what lies there -/
theorem fb_end {pre c : List Int32} {t : Int32} : (pre ++ by_be (nI c.length) ++ by_be t ++ c) ++ by_be (cr_l (by_sl (pre ++ by_be (nI c.length) ++ by_be t ++ c) (pre.length + 4) ((pre ++ by_be (nI c.length) ++ by_be t ++ c).length - (pre.length + 4)))) = pre ++ fb_ch t c := by
  have e : pre ++ by_be (nI c.length) ++ by_be t ++ c = (pre ++ by_be (nI c.length)) ++ (by_be t ++ c) := by simp
  rw [e, by_sl_app (by simp [by_be_len]) (by simp [by_be_len]; omega)]
  unfold fb_ch
  simp
theorem w_sig_loop {S d : Nat} {Q : pm_Q} {l1 l2 l3 : Option pm_V} : ∀ (k i : Nat) (M : pm_M) (l7 : Option pm_V), i + k = 8 → ps_is M → by_is M 2 (fb_sg.take i) → (∀ M' l6 l7, by_is M' 2 fb_sg → pm_ag [2, 3] M M' → pm_R S (pm_PC S (d + 1)) Q 66 50 [some (.inr (.inr 1)), l1, l2, l3, some (.inr (.inr 30)), some (.inl 8), l6, l7] [] M') → pm_R S (pm_PC S (d + 1)) Q 66 20 [some (.inr (.inr 1)), l1, l2, l3, some (.inr (.inr 30)), some (.inl 8), some (.inl (nI i)), l7] [] M := by
  have hb : by_b 2 := Or.inl rfl
  have hcc : by_c 2 = 700 := rfl
  intro k
  induction k with
  | zero =>
    intro i M l7 hi hst hl hq
    have e : i = 8 := by omega
    subst e
    exact k_File_build_20 (fun _ => hq M _ _ hl pm_ag.rf) (fun z => absurd (by decide) z)
  | succ k ih =>
    intro i M l7 hi hst hl hq
    refine k_File_build_20 (fun z => absurd z (nI_ge (b := 8) (by omega) (by decide))) (fun _ => k_File_build_27 (vp_in_nI (by omega) (by decide)) ?_)
    have e30 : M 30 (nI i).toNatClampNeg = nI (ps_sg i) := by rw [nI_clamp (by omega)]; exact (hst i (by omega)).2.2.2.2
    rw [e30]
    have hlen : (fb_sg.take i).length = i := by
      rw [List.length_take]
      show min i 8 = i
      omega
    refine w_Bytes_add hb hl (by rw [hlen]; omega) (fun M1 g1 g2 => k_File_build_43 ?_)
    rw [nI_1]
    have et : ∀ i, i < 8 → fb_sg.take i ++ [nI (ps_sg i)] = fb_sg.take (i + 1) := by decide
    rw [et i (by omega)] at g1
    exact ih (i + 1) M1 _ (by omega) (hst.keep g2 (by decide)) g1 (fun M' l6 l7 q1 q2 => hq M' l6 l7 q1 (g2.tr q2))
theorem w_File_build {S d b : Nat} {Q : pm_Q} {M : pm_M} {kd dp w h : Nat} {s : Int32} {P : List Int32} (hb : pc_b b) (hpc : pc_sh M b kd dp w h) (hst : ps_is M) (hP : by_is M 8 P) (hPl : P.length ≤ 600) (hq : ∀ M', by_is M' 2 (fb_of kd dp w h s P) → pm_ag [2, 3] M M' → Q none M') : pm_PC S (d + 4) 66 [.inr (.inr 1), .inr (.inr b), .inl s, .inr (.inr 8)] M Q := by
  have h2 : by_b 2 := Or.inl rfl
  have h8 : by_b 8 := Or.inr (Or.inr rfl)
  have hcc : by_c 2 = 700 := rfl
  have hbk : b ∉ [2, 3] := by rcases hb with rfl | rfl <;> decide
  have hsg : fb_sg.length = 8 := rfl
  refine e_File_build (k_File_build_0 (w_Bytes_clear h2 (fun M0 g0 a0 => k_File_build_7 ?_)))
  refine w_sig_loop 8 0 M0 _ (by decide) (hst.keep a0 (by decide)) g0 (fun M1 l6 l7 g1 a1 => k_File_build_50 (w_File_startChunk g1 (by omega) (fun M2 g2 a2 => k_File_build_58 hb ?_)))
  have A2 := (a0.tr a1).tr a2
  have s2 := hpc.keep A2 hbk
  rw [s2.2.2.1]
  refine w_Bytes_addNumber h2 g2 (by simp [by_be_len]; omega) (fun M3 g3 a3 => k_File_build_71 hb ?_)
  rw [(s2.keep a3 hbk).2.2.2]
  refine w_Bytes_addNumber h2 g3 (by simp [by_be_len]; omega) (fun M4 g4 a4 => k_File_build_82 hb ?_)
  rw [((s2.keep a3 hbk).keep a4 hbk).2.1]
  refine w_Bytes_add h2 g4 (by simp [by_be_len]; omega) (fun M5 g5 a5 => k_File_build_93 hb ?_)
  rw [(((s2.keep a3 hbk).keep a4 hbk).keep a5 hbk).1]
  refine w_Bytes_add h2 g5 (by simp [by_be_len]; omega) (fun M6 g6 a6 => k_File_build_105 (w_Bytes_add h2 g6 (by simp [by_be_len]; omega) (fun M7 g7 a7 => k_File_build_114 (w_Bytes_add h2 g7 (by simp [by_be_len]; omega) (fun M8 g8 a8 => ?_)))))
  have A8 := (((((A2.tr a3).tr a4).tr a5).tr a6).tr a7).tr a8
  have key : ∀ v : Int32, v = (if s = 0 then 0 else 1) → pm_R S (pm_PC S (d + 3)) Q 66 137 [some (.inr (.inr 1)), some (.inr (.inr b)), some (.inl s), some (.inr (.inr 8)), some (.inl (nI fb_sg.length)), some (.inl 8), l6, l7] [.inl v, .inr (.inr 2)] M8 := by
    intro v hv
    refine k_File_build_137 (w_Bytes_add h2 g8 (by simp [by_be_len]; omega) (fun M9 g9 a9 => k_File_build_140 ?_))
    have e9 : fb_sg ++ by_be 13 ++ by_be 1229472850 ++ by_be (nI w) ++ by_be (nI h) ++ [nI dp] ++ [nI kd] ++ [0] ++ [0] ++ [v] = fb_sg ++ by_be (nI (fb_hd kd dp w h s).length) ++ by_be 1229472850 ++ fb_hd kd dp w h s := by
      rw [fb_hd_len, hv, fb_hd]
      simp
      rfl
    rw [e9] at g9
    refine w_File_endChunk g9 (by simp [by_be_len]) (by simp [by_be_len, fb_hd_len]; omega) (fun M10 g10 a10 => k_File_build_147 ?_)
    rw [fb_end] at g10
    have A10 := (A8.tr a9).tr a10
    have hP10 := hP.keep A10 (by decide) (by decide)
    rw [hP10.1]
    refine w_File_startChunk g10 (by simp [fb_ch_len, fb_hd_len]; omega) (fun M11 g11 a11 => k_File_build_157 ?_)
    have hP11 := hP10.keep a11 (by decide) (by decide)
    rw [hP11.1]
    refine w_Bytes_addAll (f := 0) h2 h8 (by decide) hP11 g11 (Nat.zero_le _) (Nat.le_refl _) (by simp [by_be_len, fb_ch_len, fb_hd_len]; omega) (fun M12 g12 a12 => k_File_build_172 ?_)
    rw [show by_sl P 0 (P.length - 0) = P by simp [by_sl]] at g12
    refine w_File_endChunk g12 (by simp [by_be_len]; omega) (by simp [by_be_len, fb_ch_len, fb_hd_len]; omega) (fun M13 g13 a13 => k_File_build_178 ?_)
    rw [fb_end] at g13
    refine w_File_startChunk g13 (by simp [fb_ch_len, fb_hd_len]; omega) (fun M14 g14 a14 => k_File_build_186 ?_)
    refine w_File_endChunk g14 (by simp [by_be_len]; omega) (by simp [by_be_len, fb_ch_len, fb_hd_len]; omega) (fun M15 g15 a15 => k_File_build_189 (hq M15 ?_ (((((A10.tr a11).tr a12).tr a13).tr a14).tr a15)))
    have e := fb_end (pre := fb_sg ++ fb_ch 1229472850 (fb_hd kd dp w h s) ++ fb_ch 1229209940 P) (c := []) (t := 1229278788)
    rw [List.append_nil] at e
    rw [show (0 : Int32) = nI ([] : List Int32).length from rfl] at g15
    rw [e] at g15
    unfold fb_of
    simpa using g15
  refine k_File_build_123 (fun z => k_File_build_136 (key 0 ?_)) (fun z => k_File_build_132 (key 1 ?_))
  · rw [if_pos z]
  · rw [if_neg z]
