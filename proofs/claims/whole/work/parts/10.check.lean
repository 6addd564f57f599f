/-! ===== the tables are looked through by program ===== -/
def x_jmpB (pc : Nat) (i : Instr) (tg : Nat) : Bool := match i with
  | .goto o | .ifCond _ o | .if_icmp _ o => decide ((pc : Int) + o = (tg : Int))
  | .tableswitch dd lo hi offs => decide (0 ≤ (pc : Int) + dd) && (offs.toList.all fun o => decide (0 ≤ (pc : Int) + o)) && decide (lo + offs.size = hi + 1)
  | _ => true
theorem x_jmpB_ok {pc : Nat} {i : Instr} {tg : Nat} (h : x_jmpB pc i tg = true) : x_jmp pc i tg := by
  cases i
  case tableswitch dd lo hi offs =>
    simp only [x_jmpB, Bool.and_eq_true, decide_eq_true_eq, List.all_eq_true] at h
    exact ⟨h.1.1, h.1.2, h.2⟩
  all_goals first | trivial | (simp only [x_jmpB, decide_eq_true_eq] at h; exact h)
def x_ckI (cod : ByteArray) (l : List (Nat × x_I)) : Bool := l.all fun e => decide (decode cod e.1 = .ok (e.2.1, x_len e.2.1 e.2.2.1)) && x_jmpB e.1 e.2.1 e.2.2.2
theorem x_ckI_ok {cod : ByteArray} {l : List (Nat × x_I)} (h : x_ckI cod l = true) : ∀ pc i len tg, x_lk l pc = some (i, len, tg) → decode cod pc = .ok (i, x_len i len) ∧ x_jmp pc i tg := by
  intro pc i len tg hl
  have h1 := List.all_eq_true.mp h _ (x_lk_mem hl)
  simp only [Bool.and_eq_true, decide_eq_true_eq] at h1
  exact ⟨h1.1, x_jmpB_ok h1.2⟩
/-- words that the tables hold -/
def x_ckW (ws : List Cond) : Bool := ws.all fun w => decide (w ∈ lw_tbl) && goodWord w
theorem x_ckW_ok {ws : List Cond} (h : x_ckW ws = true) : ∀ w ∈ ws, w ∈ x_T := by
  intro w hw
  have h1 := List.all_eq_true.mp h w hw
  simp only [Bool.and_eq_true, decide_eq_true_eq] at h1
  exact List.mem_filter.mpr h1
/-- what a class of the tables must have -/
def x_Cl (ci : Nat) (C : String) (T : u_T) (N : Nat) (ty0 : Nat → FieldType) : Prop := vwCl[ci]? = some (C, T, N) ∧ (∀ w ∈ u_ws C T N, w ∈ x_T) ∧ (∀ k, k < N → parseFieldDescriptor (T k).2.2.1 = some (ty0 k)) ∧ ∀ a, a < N → ∀ b, b < N → a ≠ b → (T a).2.1 ≠ (T b).2.1
/-- one field of a class' pool -/
def x_Fl (own : String) (ini : Bool) (e : Nat × Nat × Nat × FieldType × Nat) : Prop := ∃ (C : String) (T : u_T) (N : Nat) (ty0 : Nat → FieldType), x_Cl e.2.1 C T N ty0 ∧ e.2.2.1 < N ∧ Cond.fieldLink own e.1 (T e.2.2.1).1 (T e.2.2.1).2.1 (T e.2.2.1).2.2.1 ∈ x_T ∧ (e.2.2.2.2 = 0 ∨ parseFieldDescriptor (T e.2.2.1).2.2.1 = some e.2.2.2.1 ∧ ((e.2.2.2.2 = 1 ∧ (T e.2.2.1).2.2.2 = false) ∨ ((T e.2.2.1).2.2.2 = true ∧ ini = true ∧ (T e.2.2.1).1 = own)))
/-- one class that is made -/
def x_Nl (own : String) (e : Nat × Nat × List Value) : Prop := ∃ (C : String) (T : u_T) (N : Nat) (ty0 : Nat → FieldType), x_Cl e.2.1 C T N ty0 ∧ Cond.classLink own e.1 C ∈ x_T ∧ Cond.instantiable C N ∈ x_T ∧ Cond.initialized C ∈ x_T ∧ (∀ j, j < N → defaultValue (ty0 j) = vp_V e.2.2 j) ∧ e.2.2.length = N ∧ ∀ ad, e.2.2.map (x_rv ad) = e.2.2
def x_Kl (own : String) (e : Nat × Value) : Prop := match e.2 with
  | .int v => Cond.constant own e.1 v ∈ x_T
  | .long v => Cond.constantLong own e.1 v ∈ x_T
  | _ => True
def x_Sl0 (own : String) (e : Nat × Option (Nat × Nat × Nat × Nat)) : Prop := match e.2 with
  | none => Cond.methodLink own e.1 objectInit ∈ x_T
  | some _ => True
def x_Ml (own : String) (e : Nat × Nat × Nat × Nat × Nat × Nat) : Prop := e.2.2.2.1 = 2 → Cond.methodLink own e.1 Lib.Math.min.name ∈ x_T ∧ Cond.static Lib.Math.min.name ∈ x_T ∧ Cond.initialized "java/lang/Math" ∈ x_T ∧ Cond.code Lib.Math.min.name Lib.Math.min.code 2 (some .int) ∈ x_T
theorem x_Tb_of {own : String} {y : MethodName} {cod : ByteArray} {ml : Nat} {rt : Option FieldType} {il : List (Nat × x_I)} {fl : List (Nat × Nat × Nat × FieldType × Nat)} {vl sl : List (Nat × Nat × Nat × Nat × Nat × Nat)} {pl : List (Nat × Option (Nat × Nat × Nat × Nat))} {nl : List (Nat × Nat × List Value)} {tl : List (Nat × String)} {ex : Nat → String → Option (Option (Nat × Nat))} {kl : List (Nat × Value)} {hd : List (Nat × Nat × Nat × Nat)} (ini : Bool)
    (h1 : x_ckI cod il = true) (h2 : ∀ e ∈ fl, x_Fl own ini e) (h2i : ini = true → y.name = "<init>") (h3 : ∀ e ∈ kl, x_Kl own e) (h4 : ∀ e ∈ nl, x_Nl own e) (h5 : ∀ e ∈ pl, x_Sl0 own e) (h6 : ∀ e ∈ sl, x_Ml own e) : x_Tb (own, y, cod, ml, rt, x_lk il, x_lk fl, x_lk vl, x_lk sl, x_lk pl, x_lk nl, x_lk tl, ex, x_lk kl, hd) := by
  refine ⟨x_ckI_ok h1, ?_, ?_, ?_, ?_, ?_, ?_⟩
  · intro ix ci k ty w hl
    obtain ⟨C, T, N, ty0, ⟨g1, g2, g3, g4⟩, g5, g6, g7⟩ := h2 _ (x_lk_mem hl)
    refine ⟨C, T, N, ty0, g1, g5, g2, g6, g3, g4, ?_⟩
    rcases g7 with g7 | ⟨g7, g8 | ⟨g8, g9, g10⟩⟩
    · exact Or.inl g7
    · exact Or.inr ⟨g7, Or.inl g8⟩
    · exact Or.inr ⟨g7, Or.inr ⟨g8, h2i g9, g10⟩⟩
  · intro ix v hl
    exact h3 _ (x_lk_mem hl)
  · intro ix v hl
    exact h3 _ (x_lk_mem hl)
  · intro ix ci fs hl
    obtain ⟨C, T, N, ty0, ⟨g1, g2, g3, g4⟩, g5, g6, g7, g8, g9, g10⟩ := h4 _ (x_lk_mem hl)
    exact ⟨C, T, N, ty0, g1, g2, g3, g5, g6, g7, g8, g9, g10⟩
  · intro ix hl
    exact h5 _ (x_lk_mem hl)
  · intro ix mj n bc bs hl
    exact h6 _ (x_lk_mem hl) rfl
/-- one virtual, static, constructor's call -/
def x_Vl (MM : Nat → Option x_M) (own : String) (e : Nat × Nat × Nat × Nat × Nat × Nat) : Prop := ∃ (M' : x_M) (cq : vw_C), MM e.2.1 = some M' ∧ M'.hnd = [] ∧ vwCl[e.2.2.2.1]? = some cq ∧ M'.nam.cls = cq.1 ∧ Cond.methodLink own e.1 M'.nam ∈ x_T ∧ Cond.instanceMethod M'.nam ∈ x_T ∧ Cond.selects cq.1 M'.nam M'.nam ∈ x_T ∧ Cond.initialized cq.1 ∈ x_T ∧ (parseMethodDescriptor M'.nam.desc).map (fun d => d.parameters.length) = some e.2.2.1
def x_Sl (MM : Nat → Option x_M) (En : (Nat → Prop) → State → Heap → Prop) (own : String) (e : Nat × Nat × Nat × Nat × Nat × Nat) : Prop := e.2.2.2.1 ≠ 2 → ∃ (M' : x_M), MM e.2.1 = some M' ∧ ((e.2.2.2.1 = 0 ∧ Cond.methodLink own e.1 M'.nam ∈ x_T) ∨ (M'.hnd = [] ∧ ∃ host, ∀ A U H, En A U H → va_Nw (.methodLinkNest own e.1 M'.nam host) U)) ∧ Cond.static M'.nam ∈ x_T ∧ Cond.initialized M'.nam.cls ∈ x_T ∧ (parseMethodDescriptor M'.nam.desc).map (fun d => d.parameters.length) = some e.2.2.1
def x_Pl (MM : Nat → Option x_M) (own : String) (e : Nat × Option (Nat × Nat × Nat × Nat)) : Prop := match e.2 with
  | none => True
  | some (mj, n, _, _) => ∃ (M' : x_M), MM mj = some M' ∧ M'.hnd = [] ∧ M'.ret = none ∧ M'.nam.name = "<init>" ∧ Cond.methodLink own e.1 M'.nam ∈ x_T ∧ Cond.instanceMethod M'.nam ∈ x_T ∧ Cond.initialized M'.nam.cls ∈ x_T ∧ (parseMethodDescriptor M'.nam.desc).map (fun d => d.parameters.length) = some n
theorem x_Tc_of {MM : Nat → Option x_M} {En : (Nat → Prop) → State → Heap → Prop} {own : String} {y : MethodName} {cod : ByteArray} {ml : Nat} {rt : Option FieldType} {il : Nat → Option x_I} {fl : Nat → Option (Nat × Nat × FieldType × Nat)} {vl sl : List (Nat × Nat × Nat × Nat × Nat × Nat)} {pl : List (Nat × Option (Nat × Nat × Nat × Nat))} {nl : Nat → Option (Nat × List Value)} {tl : Nat → Option String} {ex : Nat → String → Option (Option (Nat × Nat))} {kl : Nat → Option Value} {hd : List (Nat × Nat × Nat × Nat)}
    (h1 : ∀ e ∈ vl, x_Vl MM own e) (h2 : ∀ e ∈ sl, x_Sl MM En own e) (h3 : ∀ e ∈ pl, x_Pl MM own e) : x_Tc MM En (own, y, cod, ml, rt, il, fl, x_lk vl, x_lk sl, x_lk pl, nl, tl, ex, kl, hd) := by
  refine ⟨?_, ?_, ?_⟩
  · intro ix mj n ci bc bs hl
    exact h1 _ (x_lk_mem hl)
  · intro ix mj n k bc bs hl
    exact h2 _ (x_lk_mem hl)
  · intro ix mj n bc bs hl
    exact h3 _ (x_lk_mem hl)
