/-! The tables are the claim's: decode, targets, fields, words. -/
def pm_il (e : pm_E) : Nat := match e with
  | (.bipush _, _) => 2
  | (.ldc _, _) => 2
  | (.iload _, _) => 2
  | (.lload _, _) => 2
  | (.aload _, _) => 2
  | (.istore _, _) => 2
  | (.lstore _, _) => 2
  | (.astore _, _) => 2
  | (.sipush _, _) => 3
  | (.ldc2_w _, _) => 3
  | (.iinc _ _, _) => 3
  | (.ifCond _ _, _) => 3
  | (.if_icmp _ _, _) => 3
  | (.goto _, _) => 3
  | (.getfield _, _) => 3
  | (.putfield _, _) => 3
  | (.getstatic _, _) => 3
  | (.invokevirtual _, _) => 3
  | (.invokestatic _, _) => 3
  | (.tableswitch _ _ _ _, _, b, _) => b
  | _ => 1
def pm_fd (a b : Nat) : String × String × String × Bool := (pm_q a).2.1 b
def pm_rok (j a : Nat) : Bool := decide (pm_fr a + 1 ≤ pm_fr j) && decide (19 + pm_ml a + pm_lo a ≤ pm_lo j)
def pm_x (j pc : Nat) (e : pm_E) : Bool := match e with
  | (.ifCond _ off, a, _) => decide ((pc : Int) + off = (a : Int))
  | (.if_icmp _ off, a, _) => decide ((pc : Int) + off = (a : Int))
  | (.goto off, a, _) => decide ((pc : Int) + off = (a : Int))
  | (.tableswitch df lo hi offs, a, _) => decide ((pc : Int) + df = (a : Int)) && (decide (hi - lo + 1 = (offs.size : Int)) && offs.toList.all fun o => decide (0 ≤ (pc : Int) + o))
  | (.getfield _, a, b, _) => decide (a < 9) && decide (b < pm_nf a)
  | (.putfield _, a, b, _) => decide (a < 9) && (decide (b < pm_nf a) && (decide ((pm_fd a b).2.2.2 = false) && (match pm_fk a b with
    | 0 => decide (parseFieldDescriptor (pm_fd a b).2.2.1 = some .int)
    | 1 => decide (parseFieldDescriptor (pm_fd a b).2.2.1 = some .boolean)
    | 3 => decide (parseFieldDescriptor (pm_fd a b).2.2.1 = some (.object "SevenPassImage$Picture"))
    | _ => false)))
  | (.getstatic _, a, b, _) => match pm_st[b]? with
    | some q => decide (q.2.2.2 = a)
    | none => false
  | (.invokevirtual _, a, b, c, _) => decide (c < 9) && (decide (b = pm_na a + 1) && (decide ((pm_q c).1 = (pm_y a).cls) && (decide (pm_sta a = false) && pm_rok j a)))
  | (.invokestatic _, a, b, c, _) => if c = 0 then decide (b = pm_na a) && (decide (pm_sta a = true) && pm_rok j a) else decide (1 ≤ pm_fr j) && decide ((if c = 4 then 38 else 21) ≤ pm_lo j)
  | _ => true
def pm_ck (j : Nat) : Bool := (List.range (pm_tab j).length).all fun pc => match (pm_tab j).getD pc none with
  | none => true
  | some e => decide (decode (pm_b j) pc = .ok (e.1, pm_il e)) && pm_x j pc e
theorem pm_ck_0 : (List.range' 0 20).all pm_ck = true := by decide +kernel
theorem pm_ck_20 : (List.range' 20 20).all pm_ck = true := by decide +kernel
theorem pm_ck_40 : (List.range' 40 20).all pm_ck = true := by decide +kernel
theorem pm_ck_60 : (List.range' 60 20).all pm_ck = true := by decide +kernel
theorem pm_ck_80 : (List.range' 80 20).all pm_ck = true := by decide +kernel
theorem pm_ck_100 : (List.range' 100 20).all pm_ck = true := by decide +kernel
theorem pm_ck_120 : (List.range' 120 20).all pm_ck = true := by decide +kernel
theorem pm_ck_140 : (List.range' 140 20).all pm_ck = true := by decide +kernel
theorem pm_ck_160 : (List.range' 160 1).all pm_ck = true := by decide +kernel
theorem pm_cks {j : Nat} (h : j < 161) : pm_ck j = true := by
  by_cases h0 : j < 20
  · exact List.all_eq_true.mp pm_ck_0 j (List.mem_range'_1.mpr ⟨by omega, by omega⟩)
  by_cases h20 : j < 40
  · exact List.all_eq_true.mp pm_ck_20 j (List.mem_range'_1.mpr ⟨by omega, by omega⟩)
  by_cases h40 : j < 60
  · exact List.all_eq_true.mp pm_ck_40 j (List.mem_range'_1.mpr ⟨by omega, by omega⟩)
  by_cases h60 : j < 80
  · exact List.all_eq_true.mp pm_ck_60 j (List.mem_range'_1.mpr ⟨by omega, by omega⟩)
  by_cases h80 : j < 100
  · exact List.all_eq_true.mp pm_ck_80 j (List.mem_range'_1.mpr ⟨by omega, by omega⟩)
  by_cases h100 : j < 120
  · exact List.all_eq_true.mp pm_ck_100 j (List.mem_range'_1.mpr ⟨by omega, by omega⟩)
  by_cases h120 : j < 140
  · exact List.all_eq_true.mp pm_ck_120 j (List.mem_range'_1.mpr ⟨by omega, by omega⟩)
  by_cases h140 : j < 160
  · exact List.all_eq_true.mp pm_ck_140 j (List.mem_range'_1.mpr ⟨by omega, by omega⟩)
  by_cases h160 : j < 161
  · exact List.all_eq_true.mp pm_ck_160 j (List.mem_range'_1.mpr ⟨by omega, by omega⟩)
  omega
