/-! The static tables, as the start has them. -/
theorem st_tab {args : Array Value} {s : State} {A : Nat → Prop} {C n : String} {f : Nat → Int32} (hl : (Cond.laysStatic C n "[I").before args s = true) (hini : (Cond.initialized C).before args s = true) (harr : (Cond.arrayOf (.static C n "[I") .int).before args s = true) (hlen : (Cond.eq (.length (.static C n "[I")) (.int 8)).before args s = true) (hel : ∀ j : Nat, j < 8 → (Cond.eq (.elem (.static C n "[I") (.int (Int32.ofNat j))) (.int (f j))).before args s = true) (hA : ∀ a : Nat, a < s.heap.size → ¬ A a) : ∃ t : Nat, va_T .int t 8 (fun j => .int (f j)) A s s.heap ∧ va_Z C n "[I" (.ref t) A s s.heap := by
  obtain ⟨t, h1, h2⟩ := va_Tof (ty := .int) (N := 8) (f := fun j => .int (f j)) (by decide) harr (va_eqt hlen) (fun j hj => va_eqt (hel j hj)) hA
  exact ⟨t, h2, va_Zref hl hini h1 hA⟩
theorem st_e26 : ∀ j : Nat, j < 8 → Cond.eq (.elem (.static "SevenPassImage" "PASS_X0" "[I") (.int (Int32.ofNat j))) (.int (nI (ps_x0 j))) ∈ flatC (Jvm.Cond.and given_1 narrow_1) := by decide +kernel
theorem st_l26 : Cond.eq (.length (.static "SevenPassImage" "PASS_X0" "[I")) (.int 8) ∈ flatC (Jvm.Cond.and given_1 narrow_1) := by decide +kernel
theorem st_a26 : Cond.arrayOf (.static "SevenPassImage" "PASS_X0" "[I") .int ∈ flatC (Jvm.Cond.and given_1 narrow_1) := by decide +kernel
theorem st_y26 : Cond.laysStatic "SevenPassImage" "PASS_X0" "[I" ∈ lw_tbl := by decide +kernel
theorem st_t26 {args : Array Value} {s : State} {A : Nat → Prop} (hts : ∀ w ∈ lw_tbl, w.before args s = true) (hgv : (Jvm.Cond.and given_1 narrow_1).before args s = true) (hA : ∀ a : Nat, a < s.heap.size → ¬ A a) : ∃ t : Nat, va_T .int t 8 (fun j => .int (nI (ps_x0 j))) A s s.heap ∧ va_Z "SevenPassImage" "PASS_X0" "[I" (.ref t) A s s.heap :=
  st_tab (hts _ st_y26) (hts _ (by decide +kernel)) (flat_of_before _ hgv _ st_a26) (flat_of_before _ hgv _ st_l26) (fun j hj => flat_of_before _ hgv _ (st_e26 j hj)) hA
theorem st_e27 : ∀ j : Nat, j < 8 → Cond.eq (.elem (.static "SevenPassImage" "PASS_Y0" "[I") (.int (Int32.ofNat j))) (.int (nI (ps_y0 j))) ∈ flatC (Jvm.Cond.and given_1 narrow_1) := by decide +kernel
theorem st_l27 : Cond.eq (.length (.static "SevenPassImage" "PASS_Y0" "[I")) (.int 8) ∈ flatC (Jvm.Cond.and given_1 narrow_1) := by decide +kernel
theorem st_a27 : Cond.arrayOf (.static "SevenPassImage" "PASS_Y0" "[I") .int ∈ flatC (Jvm.Cond.and given_1 narrow_1) := by decide +kernel
theorem st_y27 : Cond.laysStatic "SevenPassImage" "PASS_Y0" "[I" ∈ lw_tbl := by decide +kernel
theorem st_t27 {args : Array Value} {s : State} {A : Nat → Prop} (hts : ∀ w ∈ lw_tbl, w.before args s = true) (hgv : (Jvm.Cond.and given_1 narrow_1).before args s = true) (hA : ∀ a : Nat, a < s.heap.size → ¬ A a) : ∃ t : Nat, va_T .int t 8 (fun j => .int (nI (ps_y0 j))) A s s.heap ∧ va_Z "SevenPassImage" "PASS_Y0" "[I" (.ref t) A s s.heap :=
  st_tab (hts _ st_y27) (hts _ (by decide +kernel)) (flat_of_before _ hgv _ st_a27) (flat_of_before _ hgv _ st_l27) (fun j hj => flat_of_before _ hgv _ (st_e27 j hj)) hA
theorem st_e28 : ∀ j : Nat, j < 8 → Cond.eq (.elem (.static "SevenPassImage" "PASS_DX" "[I") (.int (Int32.ofNat j))) (.int (nI (ps_dx j))) ∈ flatC (Jvm.Cond.and given_1 narrow_1) := by decide +kernel
theorem st_l28 : Cond.eq (.length (.static "SevenPassImage" "PASS_DX" "[I")) (.int 8) ∈ flatC (Jvm.Cond.and given_1 narrow_1) := by decide +kernel
theorem st_a28 : Cond.arrayOf (.static "SevenPassImage" "PASS_DX" "[I") .int ∈ flatC (Jvm.Cond.and given_1 narrow_1) := by decide +kernel
theorem st_y28 : Cond.laysStatic "SevenPassImage" "PASS_DX" "[I" ∈ lw_tbl := by decide +kernel
theorem st_t28 {args : Array Value} {s : State} {A : Nat → Prop} (hts : ∀ w ∈ lw_tbl, w.before args s = true) (hgv : (Jvm.Cond.and given_1 narrow_1).before args s = true) (hA : ∀ a : Nat, a < s.heap.size → ¬ A a) : ∃ t : Nat, va_T .int t 8 (fun j => .int (nI (ps_dx j))) A s s.heap ∧ va_Z "SevenPassImage" "PASS_DX" "[I" (.ref t) A s s.heap :=
  st_tab (hts _ st_y28) (hts _ (by decide +kernel)) (flat_of_before _ hgv _ st_a28) (flat_of_before _ hgv _ st_l28) (fun j hj => flat_of_before _ hgv _ (st_e28 j hj)) hA
theorem st_e29 : ∀ j : Nat, j < 8 → Cond.eq (.elem (.static "SevenPassImage" "PASS_DY" "[I") (.int (Int32.ofNat j))) (.int (nI (ps_dy j))) ∈ flatC (Jvm.Cond.and given_1 narrow_1) := by decide +kernel
theorem st_l29 : Cond.eq (.length (.static "SevenPassImage" "PASS_DY" "[I")) (.int 8) ∈ flatC (Jvm.Cond.and given_1 narrow_1) := by decide +kernel
theorem st_a29 : Cond.arrayOf (.static "SevenPassImage" "PASS_DY" "[I") .int ∈ flatC (Jvm.Cond.and given_1 narrow_1) := by decide +kernel
theorem st_y29 : Cond.laysStatic "SevenPassImage" "PASS_DY" "[I" ∈ lw_tbl := by decide +kernel
theorem st_t29 {args : Array Value} {s : State} {A : Nat → Prop} (hts : ∀ w ∈ lw_tbl, w.before args s = true) (hgv : (Jvm.Cond.and given_1 narrow_1).before args s = true) (hA : ∀ a : Nat, a < s.heap.size → ¬ A a) : ∃ t : Nat, va_T .int t 8 (fun j => .int (nI (ps_dy j))) A s s.heap ∧ va_Z "SevenPassImage" "PASS_DY" "[I" (.ref t) A s s.heap :=
  st_tab (hts _ st_y29) (hts _ (by decide +kernel)) (flat_of_before _ hgv _ st_a29) (flat_of_before _ hgv _ st_l29) (fun j hj => flat_of_before _ hgv _ (st_e29 j hj)) hA
theorem st_e30 : ∀ j : Nat, j < 8 → Cond.eq (.elem (.static "SevenPassImage$ChunkFile" "BEGINNING" "[I") (.int (Int32.ofNat j))) (.int (nI (ps_sg j))) ∈ flatC (Jvm.Cond.and given_1 narrow_1) := by decide +kernel
theorem st_l30 : Cond.eq (.length (.static "SevenPassImage$ChunkFile" "BEGINNING" "[I")) (.int 8) ∈ flatC (Jvm.Cond.and given_1 narrow_1) := by decide +kernel
theorem st_a30 : Cond.arrayOf (.static "SevenPassImage$ChunkFile" "BEGINNING" "[I") .int ∈ flatC (Jvm.Cond.and given_1 narrow_1) := by decide +kernel
theorem st_y30 : Cond.laysStatic "SevenPassImage$ChunkFile" "BEGINNING" "[I" ∈ lw_tbl := by decide +kernel
theorem st_t30 {args : Array Value} {s : State} {A : Nat → Prop} (hts : ∀ w ∈ lw_tbl, w.before args s = true) (hgv : (Jvm.Cond.and given_1 narrow_1).before args s = true) (hA : ∀ a : Nat, a < s.heap.size → ¬ A a) : ∃ t : Nat, va_T .int t 8 (fun j => .int (nI (ps_sg j))) A s s.heap ∧ va_Z "SevenPassImage$ChunkFile" "BEGINNING" "[I" (.ref t) A s s.heap :=
  st_tab (hts _ st_y30) (hts _ (by decide +kernel)) (flat_of_before _ hgv _ st_a30) (flat_of_before _ hgv _ st_l30) (fun j hj => flat_of_before _ hgv _ (st_e30 j hj)) hA
