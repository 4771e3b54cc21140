/-! The pure machine: a weakest precondition of the bytecode over places and words. -/
abbrev pm_V : Type := Int32 ⊕ (Int64 ⊕ Nat)
abbrev pm_M : Type := Nat → Nat → Int32
abbrev pm_L : Type := List (Option pm_V)
abbrev pm_Q : Type := Option pm_V → pm_M → Prop
abbrev pm_K : Type := Nat → pm_L → List pm_V → pm_M → Prop
def pm_ishl (x y : Int32) : Int32 := x <<< (y &&& 31)
def pm_ishr (x y : Int32) : Int32 := x >>> (y &&& 31)
def pm_iushr (x y : Int32) : Int32 := (x.toUInt32 >>> (y.toUInt32 &&& Int32.toUInt32 31)).toInt32
def pm_irem (x y : Int32) : Int32 := x - x / y * y
def pm_lrem (x y : Int64) : Int64 := x - x / y * y
def pm_max (x y : Int32) : Int32 := if x < y then y else x
def pm_min (x y : Int32) : Int32 := if y < x then y else x
def pm_abs (x : Int32) : Int32 := if 0 ≤ x then x else 0 - x
def pm_up (M : pm_M) (k j : Nat) (x : Int32) : pm_M := fun k' j' => if k' = k ∧ j' = j then x else M k' j'
def pm_cpy (M : pm_M) (a sp b dp n : Nat) : pm_M := fun k' j' => if k' = b then va_cpy (M a) (M b) sp dp n j' else M k' j'
def pm_nl (L : pm_L) (i : Nat) : Bool := match i with
  | 0 => true
  | i + 1 => match L[i]? with
    | some (some (.inr (.inl _))) => false
    | _ => true
def pm_cat : pm_V → Nat
  | .inr (.inl _) => 2
  | _ => 1
def pm_sm (st : List pm_V) : Nat := (st.map pm_cat).sum
def pm_c0 (c : Jvm.ClassFile.Cond) (x : Int32) : Prop := match c with
  | .eq => x = 0
  | .ne => ¬ x = 0
  | .lt => x < 0
  | .ge => 0 ≤ x
  | .gt => 0 < x
  | .le => x ≤ 0
def pm_c2 (c : Jvm.ClassFile.Cond) (x y : Int32) : Prop := match c with
  | .eq => x = y
  | .ne => ¬ x = y
  | .lt => x < y
  | .ge => y ≤ x
  | .gt => y < x
  | .le => x ≤ y
def pm_gi (L : pm_L) (i : Nat) (f : Int32 → Prop) : Prop := match L[i]? with
  | some (some (.inl x)) => f x
  | _ => False
def pm_gl (L : pm_L) (i : Nat) (f : Int64 → Prop) : Prop := match L[i]? with
  | some (some (.inr (.inl x))) => f x
  | _ => False
def pm_ga (L : pm_L) (i : Nat) (f : Nat → Prop) : Prop := match L[i]? with
  | some (some (.inr (.inr x))) => f x
  | _ => False
def pm_s1 (L : pm_L) (i : Nat) (v : pm_V) (f : pm_L → Prop) : Prop := if i < L.length ∧ pm_nl L i = true then f (L.set i (some v)) else False
def pm_s2 (L : pm_L) (i : Nat) (v : pm_V) (f : pm_L → Prop) : Prop := if i + 1 < L.length ∧ pm_nl L i = true then f ((L.set i (some v)).set (i + 1) none) else False
def pm_i1 (st : List pm_V) (f : Int32 → List pm_V → Prop) : Prop := match st with
  | .inl x :: r => f x r
  | _ => False
def pm_i2 (st : List pm_V) (f : Int32 → Int32 → List pm_V → Prop) : Prop := match st with
  | .inl y :: .inl x :: r => f x y r
  | _ => False
def pm_l1 (st : List pm_V) (f : Int64 → List pm_V → Prop) : Prop := match st with
  | .inr (.inl x) :: r => f x r
  | _ => False
def pm_l2 (st : List pm_V) (f : Int64 → Int64 → List pm_V → Prop) : Prop := match st with
  | .inr (.inl y) :: .inr (.inl x) :: r => f x y r
  | _ => False
def pm_a1 (st : List pm_V) (f : Nat → List pm_V → Prop) : Prop := match st with
  | .inr (.inr k) :: r => f k r
  | _ => False
abbrev pm_C : Type := Nat → List pm_V → pm_M → pm_Q → Prop
def pm_fv (M : pm_M) (k ci j : Nat) : pm_V := match pm_fk ci j with
  | 2 => .inr (.inr (pm_rf k j))
  | 3 => .inr (.inr (M k j).toNatClampNeg)
  | _ => .inl (M k j)
def pm_ro (ret : Option FieldType) (v : Int32) : Prop := match ret with
  | some .boolean => v &&& 1 = v
  | some .int => True
  | _ => False
/-- one instruction: what must hold before it -/
def pm_wp (S : Nat) (call : pm_C) (ret : Option FieldType) (Q : pm_Q) (e : pm_E) (pc : Nat) (L : pm_L) (st : List pm_V) (M : pm_M) (K : pm_K) : Prop :=
  match e with
  | (.iconst n, _) => K (pc + 1) L (.inl (Int32.ofInt n) :: st) M
  | (.bipush n, _) => K (pc + 2) L (.inl (Int8.ofInt n).toInt32 :: st) M
  | (.sipush n, _) => K (pc + 3) L (.inl (Int16.ofInt n).toInt32 :: st) M
  | (.ldc _, a, _) => K (pc + 2) L (.inl (Int32.ofNat a) :: st) M
  | (.ldc2_w _, a, _) => K (pc + 3) L (.inr (.inl (Int64.ofNat a)) :: st) M
  | (.lconst n, _) => K (pc + 1) L (.inr (.inl (Int64.ofNat n.val)) :: st) M
  | (.iload_n k, _) => pm_gi L k.val fun x => K (pc + 1) L (.inl x :: st) M
  | (.iload k, _) => pm_gi L k fun x => K (pc + 2) L (.inl x :: st) M
  | (.lload_n k, _) => pm_gl L k.val fun x => K (pc + 1) L (.inr (.inl x) :: st) M
  | (.lload k, _) => pm_gl L k fun x => K (pc + 2) L (.inr (.inl x) :: st) M
  | (.aload_n k, _) => pm_ga L k.val fun x => K (pc + 1) L (.inr (.inr x) :: st) M
  | (.aload k, _) => pm_ga L k fun x => K (pc + 2) L (.inr (.inr x) :: st) M
  | (.istore_n k, _) => pm_i1 st fun x r => pm_s1 L k.val (.inl x) fun L' => K (pc + 1) L' r M
  | (.istore k, _) => pm_i1 st fun x r => pm_s1 L k (.inl x) fun L' => K (pc + 2) L' r M
  | (.astore_n k, _) => pm_a1 st fun x r => pm_s1 L k.val (.inr (.inr x)) fun L' => K (pc + 1) L' r M
  | (.astore k, _) => pm_a1 st fun x r => pm_s1 L k (.inr (.inr x)) fun L' => K (pc + 2) L' r M
  | (.lstore_n k, _) => pm_l1 st fun x r => pm_s2 L k.val (.inr (.inl x)) fun L' => K (pc + 1) L' r M
  | (.lstore k, _) => pm_l1 st fun x r => pm_s2 L k (.inr (.inl x)) fun L' => K (pc + 2) L' r M
  | (.iinc k n, _) => pm_gi L k fun x => pm_s1 L k (.inl (x + Int32.ofInt n)) fun L' => K (pc + 3) L' st M
  | (.iadd, _) => pm_i2 st fun x y r => K (pc + 1) L (.inl (x + y) :: r) M
  | (.isub, _) => pm_i2 st fun x y r => K (pc + 1) L (.inl (x - y) :: r) M
  | (.imul, _) => pm_i2 st fun x y r => K (pc + 1) L (.inl (x * y) :: r) M
  | (.iand, _) => pm_i2 st fun x y r => K (pc + 1) L (.inl (x &&& y) :: r) M
  | (.ior, _) => pm_i2 st fun x y r => K (pc + 1) L (.inl (x ||| y) :: r) M
  | (.ixor, _) => pm_i2 st fun x y r => K (pc + 1) L (.inl (x ^^^ y) :: r) M
  | (.ishl, _) => pm_i2 st fun x y r => K (pc + 1) L (.inl (pm_ishl x y) :: r) M
  | (.ishr, _) => pm_i2 st fun x y r => K (pc + 1) L (.inl (pm_ishr x y) :: r) M
  | (.iushr, _) => pm_i2 st fun x y r => K (pc + 1) L (.inl (pm_iushr x y) :: r) M
  | (.idiv, _) => pm_i2 st fun x y r => ¬ y = 0 ∧ K (pc + 1) L (.inl (x / y) :: r) M
  | (.irem, _) => pm_i2 st fun x y r => ¬ y = 0 ∧ K (pc + 1) L (.inl (pm_irem x y) :: r) M
  | (.ineg, _) => pm_i1 st fun x r => K (pc + 1) L (.inl (-x) :: r) M
  | (.i2l, _) => pm_i1 st fun x r => K (pc + 1) L (.inr (.inl x.toInt64) :: r) M
  | (.l2i, _) => pm_l1 st fun x r => K (pc + 1) L (.inl x.toInt32 :: r) M
  | (.ladd, _) => pm_l2 st fun x y r => K (pc + 1) L (.inr (.inl (x + y)) :: r) M
  | (.lmul, _) => pm_l2 st fun x y r => K (pc + 1) L (.inr (.inl (x * y)) :: r) M
  | (.land, _) => pm_l2 st fun x y r => K (pc + 1) L (.inr (.inl (x &&& y)) :: r) M
  | (.lrem, _) => pm_l2 st fun x y r => ¬ y = 0 ∧ K (pc + 1) L (.inr (.inl (pm_lrem x y)) :: r) M
  | (.lcmp, _) => pm_l2 st fun x y r => K (pc + 1) L (.inl (lg_cmp x y) :: r) M
  | (.dup, _) => match st with
    | .inl x :: r => K (pc + 1) L (.inl x :: .inl x :: r) M
    | .inr (.inr x) :: r => K (pc + 1) L (.inr (.inr x) :: .inr (.inr x) :: r) M
    | _ => False
  | (.dup2, _) => match st with
    | .inl x :: .inr (.inr k) :: r => K (pc + 1) L (.inl x :: .inr (.inr k) :: .inl x :: .inr (.inr k) :: r) M
    | _ => False
  | (.pop, _) => pm_i1 st fun _ r => K (pc + 1) L r M
  | (.ifCond c _, a, _) => pm_i1 st fun x r => (pm_c0 c x → K a L r M) ∧ (¬ pm_c0 c x → K (pc + 3) L r M)
  | (.if_icmp c _, a, _) => pm_i2 st fun x y r => (pm_c2 c x y → K a L r M) ∧ (¬ pm_c2 c x y → K (pc + 3) L r M)
  | (.goto _, a, _) => K a L st M
  | (.tableswitch _ lo hi offs, a, _) => pm_i1 st fun x r => ((x.toInt < lo ∨ hi < x.toInt) → K a L r M) ∧ ∀ (n : Nat) (o : Int), offs[n]? = some o → x.toInt = lo + n → K ((pc : Int) + o).toNat L r M
  | (.getfield _, a, b, _) => pm_a1 st fun k r => if pm_cl k = a then K (pc + 3) L (pm_fv M k a b :: r) M else False
  | (.putfield _, a, b, _) => match st with
    | .inl x :: .inr (.inr k) :: r => if pm_cl k = a then (match pm_fk a b with
      | 0 => K (pc + 3) L r (pm_up M k b x)
      | 1 => (x = 0 ∨ x = 1) ∧ K (pc + 3) L r (pm_up M k b x)
      | _ => False) else False
    | .inr (.inr v) :: .inr (.inr k) :: r => if pm_cl k = a then (match pm_fk a b with
      | 3 => v < 256 ∧ K (pc + 3) L r (pm_up M k b (Int32.ofNat v))
      | _ => False) else False
    | _ => False
  | (.getstatic _, a, _) => K (pc + 3) L (.inr (.inr a) :: st) M
  | (.iaload, _) => match st with
    | .inl i :: .inr (.inr k) :: r => vp_in i (pm_ln S k) ∧ K (pc + 1) L (.inl (M k i.toNatClampNeg) :: r) M
    | _ => False
  | (.iastore, _) => match st with
    | .inl x :: .inl i :: .inr (.inr k) :: r => vp_in i (pm_wl k) ∧ K (pc + 1) L r (pm_up M k i.toNatClampNeg x)
    | _ => False
  | (.arraylength, _) => pm_a1 st fun k r => if pm_ia k = true then K (pc + 1) L (.inl (Int32.ofNat (pm_ln S k)) :: r) M else False
  | (.invokevirtual _, a, b, c, _) => if pm_sm (st.drop b) ≤ 8 ∧ b ≤ st.length then (match (st.take b).reverse with
    | .inr (.inr k) :: vs => if pm_cl k = c then call a (.inr (.inr k) :: vs) M (fun r M' => K (pc + 3) L (r.toList ++ st.drop b) M') else False
    | _ => False) else False
  | (.invokestatic _, a, b, c, _) => match c with
    | 0 => if pm_sm (st.drop b) ≤ 8 ∧ b ≤ st.length then call a (st.take b).reverse M (fun r M' => K (pc + 3) L (r.toList ++ st.drop b) M') else False
    | 1 => pm_i2 st fun x y r => if pm_sm r ≤ 8 then K (pc + 3) L (.inl (pm_max x y) :: r) M else False
    | 2 => pm_i2 st fun x y r => if pm_sm r ≤ 8 then K (pc + 3) L (.inl (pm_min x y) :: r) M else False
    | 3 => pm_i1 st fun x r => if pm_sm r ≤ 8 then K (pc + 3) L (.inl (pm_abs x) :: r) M else False
    | 4 => match st with
      | .inl n :: .inl dp :: .inr (.inr k1) :: .inl sp :: .inr (.inr k0) :: r => if pm_sm r ≤ 8 then ((¬ sp < 0 ∧ ¬ dp < 0 ∧ ¬ n < 0) ∧ (0 < pm_wl k0 ∧ 0 < pm_wl k1) ∧ sp.toNatClampNeg + n.toNatClampNeg ≤ pm_wl k0 ∧ dp.toNatClampNeg + n.toNatClampNeg ≤ pm_wl k1) ∧ K (pc + 3) L r (pm_cpy M k0 sp.toNatClampNeg k1 dp.toNatClampNeg n.toNatClampNeg) else False
      | _ => False
    | _ => False
  | (.ireturn, _) => match st with
    | [.inl v] => pm_ro ret v ∧ Q (some (.inl v)) M
    | _ => False
  | (.lreturn, _) => match st with
    | [.inr (.inl v)] => ret = some .long ∧ Q (some (.inr (.inl v))) M
    | _ => False
  | (.return_, _) => match st with
    | [] => ret = none ∧ Q none M
    | _ => False
  | _ => False
def pm_at (S : Nat) (call : pm_C) (Q : pm_Q) (j pc : Nat) (L : pm_L) (st : List pm_V) (M : pm_M) (K : pm_K) : Prop := match pm_in j pc with
  | some e => pm_wp S call (pm_rt j) Q e pc L st M K
  | none => False
/-- the least predicate that the instructions carry: from here the method returns, with Q -/
def pm_R (S : Nat) (call : pm_C) (Q : pm_Q) (j : Nat) : pm_K := fun pc L st M =>
  ∀ X : pm_K, (∀ (pc : Nat) (L : pm_L) (st : List pm_V) (M : pm_M), (∃ K : pm_K, (∀ pc L st M, K pc L st M → X pc L st M) ∧ pm_at S call Q j pc L st M K) → X pc L st M) → X pc L st M
theorem pm_R.fold {S : Nat} {call : pm_C} {Q : pm_Q} {j pc : Nat} {L : pm_L} {st : List pm_V} {M : pm_M} (h : pm_at S call Q j pc L st M (pm_R S call Q j)) : pm_R S call Q j pc L st M :=
  fun X hX => hX pc L st M ⟨pm_R S call Q j, fun _ _ _ _ k => k X hX, h⟩
def pm_wn (S : Nat) (call : pm_C) (Q : pm_Q) (j : Nat) : Nat → Nat → pm_L → List pm_V → pm_M → pm_K → Prop
  | 0, pc, L, st, M, K => K pc L st M
  | n + 1, pc, L, st, M, K => pm_at S call Q j pc L st M (fun pc L st M => pm_wn S call Q j n pc L st M K)
theorem pm_lin0 {S : Nat} {call : pm_C} {Q : pm_Q} {j : Nat} : ∀ (n pc : Nat) (L : pm_L) (st : List pm_V) (M : pm_M), pm_wn S call Q j n pc L st M (pm_R S call Q j) → pm_R S call Q j pc L st M
  | 0, _, _, _, _, h => h
  | n + 1, pc, L, st, M, h => fun X hX => hX pc L st M ⟨fun pc L st M => pm_wn S call Q j n pc L st M (pm_R S call Q j), fun pc L st M k => pm_lin0 n pc L st M k X hX, h⟩
theorem pm_lin {S : Nat} {call : pm_C} {Q : pm_Q} {j pc : Nat} {L : pm_L} {st : List pm_V} {M : pm_M} (n : Nat) {E : pm_K → Prop} (e : ∀ K, pm_wn S call Q j n pc L st M K = E K) (h : E (pm_R S call Q j)) : pm_R S call Q j pc L st M :=
  pm_lin0 n pc L st M (by rw [e]; exact h)
