/-! ===== THE SMALL MACHINE: places for addresses, one heap of cells; its steps as conditions on what comes next ===== -/
abbrev x_C : Type := (FieldType × vp_A) ⊕ (Nat × List Value)
/-- the cells by their places, how many cells and slots may still be made -/
abbrev x_H : Type := List x_C × Nat × Nat
abbrev x_L : Type := List (Option Value)
abbrev x_O : Type := Option Value ⊕ String
/-- the script's place: no cell of the heap, and never written -/
abbrev x_SP : Nat := 1000000
/-- an instruction, its length, where it jumps -/
abbrev x_I : Type := Instr × Nat × Nat
def x_lk {α : Type} : List (Nat × α) → Nat → Option α
  | [], _ => none
  | (k, a) :: r, n => if n = k then some a else x_lk r n
theorem x_lk_mem {α : Type} : ∀ {l : List (Nat × α)} {n : Nat} {a : α}, x_lk l n = some a → (n, a) ∈ l
  | [], _, _, h => by cases h
  | (k, b) :: r, n, a, h => by
    unfold x_lk at h
    by_cases hk : n = k
    · rw [if_pos hk] at h
      cases h
      rw [hk]
      exact List.mem_cons_self
    · rw [if_neg hk] at h
      exact List.mem_cons_of_mem _ (x_lk_mem h)
def x_ic (c : Jvm.ClassFile.Cond) (x y : Int32) : Prop := match c with
  | .eq => x = y
  | .ne => x ≠ y
  | .lt => x < y
  | .ge => y ≤ x
  | .gt => y < x
  | .le => x ≤ y
/-- two ints in, one out -/
def x_op2 (i : Instr) (x y : Int32) : Option Int32 := match i with
  | .iadd => some (x + y)
  | .isub => some (x - y)
  | .imul => some (x * y)
  | .iand => some (x &&& y)
  | .ior => some (x ||| y)
  | .ixor => some (x ^^^ y)
  | .ishl => some (x <<< (y &&& 31))
  | .ishr => some (x >>> (y &&& 31))
  | .iushr => some ((x.toUInt32 >>> (y.toUInt32 &&& Int32.toUInt32 31)).toInt32)
  | _ => none
/-- a condition that is decided on the spot -/
def x_if (c : Prop) [Decidable c] (K : Prop) : Prop := if c then K else False
def x_ldi (L : x_L) (k : Nat) (K : Int32 → Prop) : Prop := match L[k]? with
  | some (some (.int x)) => K x
  | _ => False
def x_lda (L : x_L) (k : Nat) (K : Nat → Prop) : Prop := match L[k]? with
  | some (some (.ref x)) => K x
  | _ => False
/-- the array of ints (or of booleans) at a place -/
def x_ai (X : x_H) (a : Nat) (K : FieldType → Nat → (Nat → Int32) → Prop) : Prop := match X.1[a]? with
  | some (.inl (ty, n, .inl f)) => K ty n f
  | _ => False
def x_al (X : x_H) (a : Nat) (K : Nat → (Nat → Int64) → Prop) : Prop := match X.1[a]? with
  | some (.inl (.long, n, .inr (.inl f))) => K n f
  | _ => False
def x_ob (X : x_H) (a : Nat) (K : Nat → List Value → Prop) : Prop := match X.1[a]? with
  | some (.inr (ci, fs)) => K ci fs
  | _ => False
def x_s1 (st : List Value) (K : Int32 → List Value → Prop) : Prop := match st with
  | .int x :: r => K x r
  | _ => False
def x_s2 (st : List Value) (K : Int32 → Int32 → List Value → Prop) : Prop := match st with
  | .int y :: .int x :: r => K x y r
  | _ => False
def x_sr (st : List Value) (K : Nat → List Value → Prop) : Prop := match st with
  | .ref a :: r => K a r
  | _ => False
def x_sir (st : List Value) (K : Nat → Int32 → List Value → Prop) : Prop := match st with
  | .int i :: .ref a :: r => K a i r
  | _ => False
def x_siir (st : List Value) (K : Nat → Int32 → Int32 → List Value → Prop) : Prop := match st with
  | .int x :: .int i :: .ref a :: r => K a i x r
  | _ => False
def x_slir (st : List Value) (K : Nat → Int32 → Int64 → List Value → Prop) : Prop := match st with
  | .long x :: .int i :: .ref a :: r => K a i x r
  | _ => False
def x_sl1 (st : List Value) (K : Int64 → List Value → Prop) : Prop := match st with
  | .long x :: r => K x r
  | _ => False
def x_sl2 (st : List Value) (K : Int64 → Int64 → List Value → Prop) : Prop := match st with
  | .long y :: .long x :: r => K x y r
  | _ => False
def x_sil (st : List Value) (K : Int64 → Int32 → List Value → Prop) : Prop := match st with
  | .int y :: .long x :: r => K x y r
  | _ => False
def x_svr (st : List Value) (K : Nat → Value → List Value → Prop) : Prop := match st with
  | v :: .ref a :: r => K a v r
  | _ => False
/-- what a field may hold -/
def x_fit (ty : FieldType) (v : Value) : Bool := match ty, v with
  | .int, .int _ => true
  | .array _, .ref _ => true
  | .object _, .ref _ => true
  | _, _ => false
/-- a method: its class' name, its name, its bytes, its locals, what it returns, its instructions; by the pool: its fields (class, number, type; 0 read alone, 1 written too, 2 written in a constructor alone), its virtual calls (which method, how many arguments, the receiver's class; the cells and slots that it may make), its static calls (likewise; 0, 1 for a nest mate's, 2 for Math.min), its constructors' calls (none: Object's), what it makes (class, first values), what it throws; where it catches (by pc and class: some none: nowhere; some (pc, local): there), its constants, its exception table -/
abbrev x_M : Type := String × MethodName × ByteArray × Nat × Option FieldType × (Nat → Option x_I) × (Nat → Option (Nat × Nat × FieldType × Nat)) × (Nat → Option (Nat × Nat × Nat × Nat × Nat)) × (Nat → Option (Nat × Nat × Nat × Nat × Nat)) × (Nat → Option (Option (Nat × Nat × Nat × Nat))) × (Nat → Option (Nat × List Value)) × (Nat → Option String) × (Nat → String → Option (Option (Nat × Nat))) × (Nat → Option Value) × List (Nat × Nat × Nat × Nat)
abbrev x_M.own (M : x_M) : String := M.1
abbrev x_M.nam (M : x_M) : MethodName := M.2.1
abbrev x_M.cod (M : x_M) : ByteArray := M.2.2.1
abbrev x_M.maxl (M : x_M) : Nat := M.2.2.2.1
abbrev x_M.ret (M : x_M) : Option FieldType := M.2.2.2.2.1
abbrev x_M.tab (M : x_M) : Nat → Option x_I := M.2.2.2.2.2.1
abbrev x_M.fld (M : x_M) : Nat → Option (Nat × Nat × FieldType × Nat) := M.2.2.2.2.2.2.1
abbrev x_M.cal (M : x_M) : Nat → Option (Nat × Nat × Nat × Nat × Nat) := M.2.2.2.2.2.2.2.1
abbrev x_M.cas (M : x_M) : Nat → Option (Nat × Nat × Nat × Nat × Nat) := M.2.2.2.2.2.2.2.2.1
abbrev x_M.spc (M : x_M) : Nat → Option (Option (Nat × Nat × Nat × Nat)) := M.2.2.2.2.2.2.2.2.2.1
abbrev x_M.nwc (M : x_M) : Nat → Option (Nat × List Value) := M.2.2.2.2.2.2.2.2.2.2.1
abbrev x_M.thr (M : x_M) : Nat → Option String := M.2.2.2.2.2.2.2.2.2.2.2.1
abbrev x_M.exc (M : x_M) : Nat → String → Option (Option (Nat × Nat)) := M.2.2.2.2.2.2.2.2.2.2.2.2.1
abbrev x_M.cst (M : x_M) : Nat → Option Value := M.2.2.2.2.2.2.2.2.2.2.2.2.2.1
abbrev x_M.hnd (M : x_M) : List (Nat × Nat × Nat × Nat) := M.2.2.2.2.2.2.2.2.2.2.2.2.2.2
/-- the references of a value lie below n -/
def x_vok (n : Nat) (v : Value) : Prop := match v with
  | .ref k => k < n ∨ k = x_SP
  | _ => True
def x_lok (n : Nat) : x_L → Prop
  | [] => True
  | none :: L => x_lok n L
  | some v :: L => x_vok n v ∧ x_lok n L
def x_sok (n : Nat) : List Value → Prop
  | [] => True
  | v :: L => x_vok n v ∧ x_sok n L
def x_hok (n : Nat) : List x_C → Prop
  | [] => True
  | .inl _ :: X => x_hok n X
  | .inr (_, fs) :: X => x_sok n fs ∧ x_hok n X
/-- a cell may be made: the frame and the heap name what is there -/
def x_aok (L : x_L) (st : List Value) (X : List x_C) : Prop := X.length < x_SP ∧ x_lok X.length L ∧ x_sok X.length st ∧ x_hok X.length X
/-- a call may make so much; where it makes something, the frame that waits names what is there -/
def x_bok (bc bs : Nat) (L : x_L) (st : List Value) (X : x_H) (K : Prop) : Prop := x_if ((st.map fun v => v.category).sum ≤ 8) (match bc with
  | 0 => x_if (bs = 0) K
  | b + 1 => (b + 1 ≤ X.2.1 ∧ bs ≤ X.2.2 ∧ x_lok X.1.length L ∧ x_sok X.1.length st) ∧ K)
/-- a reference -/
def x_isr (v : Option Value) (K : Prop) : Prop := match v with
  | some (.ref _) => K
  | _ => False
/-- an object of that class -/
def x_rcv (v : Option Value) (X : x_H) (ci : Nat) (K : Prop) : Prop := match v with
  | some (.ref a) => x_ob X a fun cj _ => x_if (cj = ci) K
  | _ => False
/-- what an int method may answer -/
def x_ret (rt : Option FieldType) (x : Int32) (K : Prop) : Prop := match rt with
  | some .int => K
  | some ty => narrow ty (.int x) = .int x ∧ K
  | none => False
/-- one instruction: K is what must hold behind it -/
def x_go (sc : Nat × (Nat → Int32)) (M : x_M) (C : Nat → List Value → x_H → (x_O → x_H → Prop) → Prop) (Q : x_O → x_H → Prop) (K : Nat → x_L → List Value → x_H → Prop) (i : Instr) (tg : Nat) (pc : Nat) (L : x_L) (st : List Value) (X : x_H) : Prop := match i with
  | .iconst n => K (pc + 1) L (.int (Int32.ofInt n) :: st) X
  | .bipush n => K (pc + 2) L (.int (Int8.ofInt n).toInt32 :: st) X
  | .sipush n => K (pc + 3) L (.int (Int16.ofInt n).toInt32 :: st) X
  | .lconst n => K (pc + 1) L (.long (Int64.ofNat (n : Nat)) :: st) X
  | .iload k => x_ldi L k fun x => K (pc + 2) L (.int x :: st) X
  | .iload_n k => x_ldi L k fun x => K (pc + 1) L (.int x :: st) X
  | .aload k => x_lda L k fun x => K (pc + 2) L (.ref x :: st) X
  | .aload_n k => x_lda L k fun x => K (pc + 1) L (.ref x :: st) X
  | .istore k => x_if (k < L.length) (x_s1 st fun x r => K (pc + 2) (L.set k (some (.int x))) r X)
  | .istore_n k => x_if ((k : Nat) < L.length) (x_s1 st fun x r => K (pc + 1) (L.set k (some (.int x))) r X)
  | .astore k => x_if (k < L.length) (x_sr st fun x r => K (pc + 2) (L.set k (some (.ref x))) r X)
  | .astore_n k => x_if ((k : Nat) < L.length) (x_sr st fun x r => K (pc + 1) (L.set k (some (.ref x))) r X)
  | .iinc k n => x_if (k < L.length) (x_ldi L k fun x => K (pc + 3) (L.set k (some (.int (x + Int32.ofInt n)))) st X)
  | .iadd => x_s2 st fun x y r => K (pc + 1) L (.int (x + y) :: r) X
  | .isub => x_s2 st fun x y r => K (pc + 1) L (.int (x - y) :: r) X
  | .imul => x_s2 st fun x y r => K (pc + 1) L (.int (x * y) :: r) X
  | .iand => x_s2 st fun x y r => K (pc + 1) L (.int (x &&& y) :: r) X
  | .ior => x_s2 st fun x y r => K (pc + 1) L (.int (x ||| y) :: r) X
  | .ixor => x_s2 st fun x y r => K (pc + 1) L (.int (x ^^^ y) :: r) X
  | .ishl => x_s2 st fun x y r => K (pc + 1) L (.int (x <<< (y &&& 31)) :: r) X
  | .ishr => x_s2 st fun x y r => K (pc + 1) L (.int (x >>> (y &&& 31)) :: r) X
  | .iushr => x_s2 st fun x y r => K (pc + 1) L (.int ((x.toUInt32 >>> (y.toUInt32 &&& Int32.toUInt32 31)).toInt32) :: r) X
  | .idiv => x_s2 st fun x y r => ¬ y = 0 ∧ K (pc + 1) L (.int (x / y) :: r) X
  | .irem => x_s2 st fun x y r => ¬ y = 0 ∧ K (pc + 1) L (.int (x - x / y * y) :: r) X
  | .dup => match st with
    | v :: r => x_if (v.category = 1) (K (pc + 1) L (v :: v :: r) X)
    | [] => False
  | .dup2 => x_sir st fun a x r => K (pc + 1) L (.int x :: .ref a :: .int x :: .ref a :: r) X
  | .i2l => x_s1 st fun x r => K (pc + 1) L (.long x.toInt64 :: r) X
  | .l2i => x_sl1 st fun x r => K (pc + 1) L (.int x.toInt32 :: r) X
  | .i2c => x_s1 st fun x r => K (pc + 1) L (.int (x.toUInt32 % 65536).toInt32 :: r) X
  | .lshr => x_sil st fun x y r => K (pc + 1) L (.long (x >>> (y.toInt64 &&& 63)) :: r) X
  | .lcmp => x_sl2 st fun x y r => K (pc + 1) L (.int (lg_cmp x y) :: r) X
  | .goto _ => K tg L st X
  | .ifCond c _ => x_s1 st fun x r => (x_ic c x 0 → K tg L r X) ∧ (¬ x_ic c x 0 → K (pc + 3) L r X)
  | .if_icmp c _ => x_s2 st fun x y r => (x_ic c x y → K tg L r X) ∧ (¬ x_ic c x y → K (pc + 3) L r X)
  | .ldc ix => match M.cst ix with
    | some (.int v) => K (pc + 2) L (.int v :: st) X
    | _ => False
  | .ldc_w ix => match M.cst ix with
    | some (.int v) => K (pc + 3) L (.int v :: st) X
    | _ => False
  | .ldc2_w ix => match M.cst ix with
    | some (.long v) => K (pc + 3) L (.long v :: st) X
    | _ => False
  | .arraylength => x_sr st fun a r => if a = x_SP then K (pc + 1) L (.int (Int32.ofNat sc.1) :: r) X else x_ai X a fun ty n _ => x_if (ty = .int ∨ ty = .boolean) (K (pc + 1) L (.int (Int32.ofNat n) :: r) X)
  | .iaload => x_sir st fun a j r => if a = x_SP then vp_in j sc.1 ∧ K (pc + 1) L (.int (sc.2 j.toNatClampNeg) :: r) X else x_ai X a fun ty n f => x_if (ty = .int) (vp_in j n ∧ K (pc + 1) L (.int (f j.toNatClampNeg) :: r) X)
  | .baload => x_sir st fun a j r => x_ai X a fun ty n f => x_if (ty = .boolean) (vp_in j n ∧ K (pc + 1) L (.int (f j.toNatClampNeg) :: r) X)
  | .laload => x_sir st fun a j r => x_al X a fun n f => vp_in j n ∧ K (pc + 1) L (.long (f j.toNatClampNeg) :: r) X
  | .iastore => x_siir st fun a j v r => x_ai X a fun ty n f => x_if (ty = .int) (vp_in j n ∧ K (pc + 1) L r (X.1.set a (.inl (.int, n, .inl (upd f j.toNatClampNeg v))), X.2))
  | .bastore => x_siir st fun a j v r => x_ai X a fun ty n f => x_if (ty = .boolean) (vp_in j n ∧ K (pc + 1) L r (X.1.set a (.inl (.boolean, n, .inl (upd f j.toNatClampNeg (vp_nar .boolean v)))), X.2))
  | .lastore => x_slir st fun a j v r => x_al X a fun n f => vp_in j n ∧ K (pc + 1) L r (X.1.set a (.inl (.long, n, .inr (.inl (vp_updL f j.toNatClampNeg v)))), X.2)
  | .getfield ix => match M.fld ix with
    | some (ci, k, _, _) => x_sr st fun a r => x_ob X a fun cj fs => x_if (cj = ci) (match fs[k]? with
      | some v => K (pc + 3) L (v :: r) X
      | none => False)
    | none => False
  | .putfield ix => match M.fld ix with
    | some (ci, k, ty, w + 1) => x_svr st fun a v r => x_ob X a fun cj fs => x_if (cj = ci ∧ k < fs.length ∧ x_fit ty v = true) (K (pc + 3) L r (X.1.set a (.inr (ci, fs.set k v)), X.2))
    | _ => False
  | .invokevirtual ix => match M.cal ix with
    | some (mj, n, ci, bc, bs) => x_rcv st[n]? X ci (x_bok bc bs L (st.drop (n + 1)) X (C mj (st.take (n + 1)).reverse (X.1, bc, bs) fun o Y => match o with
      | .inl v => K (pc + 3) L (v.toList ++ st.drop (n + 1)) (Y.1, X.2.1 - bc, X.2.2 - bs)
      | .inr E => match M.exc pc E with
        | some none => Q (.inr E) (Y.1, X.2.1 - bc, X.2.2 - bs)
        | some (some (h, k)) => x_if (k < L.length) (K h (L.set k none) [] (Y.1, X.2.1 - bc, X.2.2 - bs))
        | none => False))
    | none => False
  | .invokestatic ix => match M.cas ix with
    | some (_, _, 2, _, _) => x_s2 st fun x y r => x_if ((r.map fun v => v.category).sum ≤ 8) (K (pc + 3) L (.int (if y < x then y else x) :: r) X)
    | some (mj, n, _, bc, bs) => x_if (n ≤ st.length) (x_bok bc bs L (st.drop n) X (C mj (st.take n).reverse (X.1, bc, bs) fun o Y => match o with
      | .inl v => K (pc + 3) L (v.toList ++ st.drop n) (Y.1, X.2.1 - bc, X.2.2 - bs)
      | .inr _ => False))
    | none => False
  | .invokespecial ix => match M.spc ix with
    | some none => x_sr st fun _ r => x_if ((r.map fun v => v.category).sum ≤ 8) (K (pc + 3) L r X)
    | some (some (mj, n, bc, bs)) => x_isr st[n]? (x_bok bc bs L (st.drop (n + 1)) X (C mj (st.take (n + 1)).reverse (X.1, bc, bs) fun o Y => match o with
      | .inl none => K (pc + 3) L (st.drop (n + 1)) (Y.1, X.2.1 - bc, X.2.2 - bs)
      | _ => False))
    | none => False
  | .new ix => match M.nwc ix with
    | some (ci, fs) => (1 ≤ X.2.1 ∧ fs.length ≤ X.2.2 ∧ x_aok L st X.1) ∧ K (pc + 3) L (.ref X.1.length :: st) (X.1 ++ [.inr (ci, fs)], X.2.1 - 1, X.2.2 - fs.length)
    | none => match M.thr ix with
      | some E => x_if (st = []) ((1 ≤ X.2.1 ∧ 6 ≤ X.2.2) ∧ Q (.inr E) (X.1, X.2.1 - 1, X.2.2 - 6))
      | none => False
  | .newarray at9 => x_s1 st fun n r => (¬ n < 0 ∧ n.toNatClampNeg ≤ 1000000 ∧ 1 ≤ X.2.1 ∧ n.toNatClampNeg ≤ X.2.2 ∧ x_aok L r X.1) ∧ match at9 with
    | .int => K (pc + 2) L (.ref X.1.length :: r) (X.1 ++ [.inl (.int, n.toNatClampNeg, .inl (fun _ => 0))], X.2.1 - 1, X.2.2 - n.toNatClampNeg)
    | .boolean => K (pc + 2) L (.ref X.1.length :: r) (X.1 ++ [.inl (.boolean, n.toNatClampNeg, .inl (fun _ => 0))], X.2.1 - 1, X.2.2 - n.toNatClampNeg)
    | .long => K (pc + 2) L (.ref X.1.length :: r) (X.1 ++ [.inl (.long, n.toNatClampNeg, .inr (.inl (fun _ => 0)))], X.2.1 - 1, X.2.2 - n.toNatClampNeg)
    | _ => False
  | .tableswitch dd lo hi offs => x_s1 st fun x r => (∀ (j : Nat) (o : Int), offs[j]? = some o → x.toInt = lo + j → K ((pc : Int) + o).toNat L r X) ∧ ((x.toInt < lo ∨ hi < x.toInt) → K ((pc : Int) + dd).toNat L r X)
  | .ireturn => x_s1 st fun x r => x_if (r = []) (x_ret M.ret x (Q (.inl (some (.int x))) X))
  | .lreturn => x_sl1 st fun x r => x_if (r = [] ∧ M.ret = some .long) (Q (.inl (some (.long x))) X)
  | .return_ => x_if (st = [] ∧ M.ret = none) (Q (.inl none) X)
  | _ => False
def x_st (sc : Nat × (Nat → Int32)) (M : x_M) (C : Nat → List Value → x_H → (x_O → x_H → Prop) → Prop) (Q : x_O → x_H → Prop) (K : Nat → x_L → List Value → x_H → Prop) (pc : Nat) (L : x_L) (st : List Value) (X : x_H) : Prop := match M.tab pc with
  | some (i, _, tg) => x_go sc M C Q K i tg pc L st X
  | none => False
/-- the least condition that is closed under the steps -/
def x_W (sc : Nat × (Nat → Int32)) (M : x_M) (C : Nat → List Value → x_H → (x_O → x_H → Prop) → Prop) (Q : x_O → x_H → Prop) (pc : Nat) (L : x_L) (st : List Value) (X : x_H) : Prop :=
  ∀ P : Nat → x_L → List Value → x_H → Prop, (∀ pc L st X, x_st sc M C Q P pc L st X → P pc L st X) → P pc L st X
