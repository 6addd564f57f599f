/-! ===== the tables are looked through by program ===== -/
def x_jmpB (pc : Nat) (i : Instr) (tg : Nat) : Bool := match i with
  | .goto o | .ifCond _ o | .if_icmp _ o => decide ((pc : Int) + o = (tg : Int))
  | _ => true
theorem x_jmpB_ok {pc : Nat} {i : Instr} {tg : Nat} (h : x_jmpB pc i tg = true) : x_jmp pc i tg := by
  cases i <;> first | trivial | (simp only [x_jmpB, decide_eq_true_eq] at h; exact h)
def x_ckI (cod : ByteArray) (l : List (Nat × x_I)) : Bool := l.all fun e => decide (decode cod e.1 = .ok (e.2.1, x_len e.2.1)) && x_jmpB e.1 e.2.1 e.2.2.2
theorem x_ckI_ok {cod : ByteArray} {l : List (Nat × x_I)} (h : x_ckI cod l = true) : ∀ pc i len tg, x_lk l pc = some (i, len, tg) → decode cod pc = .ok (i, x_len i) ∧ x_jmp pc i tg := by
  intro pc i len tg hl
  have h1 := List.all_eq_true.mp h _ (x_lk_mem hl)
  simp only [Bool.and_eq_true, decide_eq_true_eq] at h1
  exact ⟨h1.1, x_jmpB_ok h1.2⟩
/-- words that the tables hold -/
def x_ckW (ws : List Cond) : Bool := ws.all fun w => decide (w ∈ lw_tbl) && goodWord w
theorem x_ckW_ok {ws : List Cond} (h : x_ckW ws = true) : ∀ w ∈ ws, w ∈ x_T := by
  intro w hw
  have h1 := List.all_eq_true.mp h w hw
  simp only [Bool.and_eq_true, decide_eq_true_eq] at h1
  exact List.mem_filter.mpr h1
/-- what a class of the tables must have -/
def x_Cl (ci : Nat) (C : String) (T : u_T) (N : Nat) (ty0 : Nat → FieldType) : Prop := vwCl[ci]? = some (C, T, N) ∧ (∀ w ∈ u_ws C T N, w ∈ x_T) ∧ (∀ k, k < N → parseFieldDescriptor (T k).2.2.1 = some (ty0 k)) ∧ ∀ a, a < N → ∀ b, b < N → a ≠ b → (T a).2.1 ≠ (T b).2.1
/-- one field of a class' pool -/
def x_Fl (own : String) (e : Nat × Nat × Nat × FieldType) : Prop := ∃ (C : String) (T : u_T) (N : Nat) (ty0 : Nat → FieldType), x_Cl e.2.1 C T N ty0 ∧ e.2.2.1 < N ∧ Cond.fieldLink own e.1 (T e.2.2.1).1 (T e.2.2.1).2.1 (T e.2.2.1).2.2.1 ∈ x_T ∧ (e.2.2.2 = .int → (T e.2.2.1).2.2.2 = false ∧ parseFieldDescriptor (T e.2.2.1).2.2.1 = some .int)
theorem x_Fl_ok {own : String} {l : List (Nat × Nat × Nat × FieldType)} (h : ∀ e ∈ l, x_Fl own e) : ∀ ix ci k ty, x_lk l ix = some (ci, k, ty) → ∃ (C : String) (T : u_T) (N : Nat) (ty0 : Nat → FieldType), vwCl[ci]? = some (C, T, N) ∧ k < N ∧ (∀ w ∈ u_ws C T N, w ∈ x_T) ∧ Cond.fieldLink own ix (T k).1 (T k).2.1 (T k).2.2.1 ∈ x_T ∧
    (∀ k, k < N → parseFieldDescriptor (T k).2.2.1 = some (ty0 k)) ∧ (∀ a, a < N → ∀ b, b < N → a ≠ b → (T a).2.1 ≠ (T b).2.1) ∧ (ty = .int → (T k).2.2.2 = false ∧ parseFieldDescriptor (T k).2.2.1 = some .int) := by
  intro ix ci k ty hl
  obtain ⟨C, T, N, ty0, ⟨g1, g2, g3, g4⟩, g5, g6, g7⟩ := h _ (x_lk_mem hl)
  exact ⟨C, T, N, ty0, g1, g5, g2, g6, g3, g4, g7⟩
