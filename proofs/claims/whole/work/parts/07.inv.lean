theorem x_if.inv {c : Prop} {hd : Decidable c} {K : Prop} (h : x_if c K) : c ∧ K := by
  unfold x_if at h; split at h
  · exact ⟨by assumption, h⟩
  · exact h.elim
theorem x_bok.inv {bc bs : Nat} {L : x_L} {st : List Value} {X : x_H} {K : Prop} (h : x_bok bc bs L st X K) : ((st.map fun v => v.category).sum ≤ 8 ∧ ((bc = 0 ∧ bs = 0) ∨ (bc ≤ X.2.1 ∧ bs ≤ X.2.2 ∧ x_lok X.1.length L ∧ x_sok X.1.length st))) ∧ K := by
  obtain ⟨h1, h⟩ := x_if.inv h
  cases bc with
  | zero => obtain ⟨h2, h⟩ := x_if.inv h; exact ⟨⟨h1, Or.inl ⟨rfl, h2⟩⟩, h⟩
  | succ b => exact ⟨⟨h1, Or.inr h.1⟩, h.2⟩
theorem x_isr.inv {v : Option Value} {K : Prop} (h : x_isr v K) : (∃ a, v = some (.ref a)) ∧ K := by
  unfold x_isr at h; split at h
  · exact ⟨⟨_, rfl⟩, h⟩
  · exact h.elim
theorem x_ret.inv {rt : Option FieldType} {x : Int32} {K : Prop} (h : x_ret rt x K) : (∃ ty, rt = some ty ∧ narrow ty (.int x) = .int x) ∧ K := by
  unfold x_ret at h; split at h
  · exact ⟨⟨_, rfl, rfl⟩, h⟩
  · exact ⟨⟨_, rfl, h.1⟩, h.2⟩
  · exact h.elim
theorem x_ldi.inv {L : x_L} {k : Nat} {K : Int32 → Prop} (h : x_ldi L k K) : ∃ x, L[k]? = some (some (.int x)) ∧ K x := by
  unfold x_ldi at h; split at h
  · exact ⟨_, by assumption, h⟩
  · exact h.elim
theorem x_lda.inv {L : x_L} {k : Nat} {K : Nat → Prop} (h : x_lda L k K) : ∃ x, L[k]? = some (some (.ref x)) ∧ K x := by
  unfold x_lda at h; split at h
  · exact ⟨_, by assumption, h⟩
  · exact h.elim
theorem x_ai.inv {X : x_H} {a : Nat} {K : FieldType → Nat → (Nat → Int32) → Prop} (h : x_ai X a K) : ∃ ty n f, X.1[a]? = some (.inl (ty, n, .inl f)) ∧ K ty n f := by
  unfold x_ai at h; split at h
  · exact ⟨_, _, _, by assumption, h⟩
  · exact h.elim
theorem x_al.inv {X : x_H} {a : Nat} {K : Nat → (Nat → Int64) → Prop} (h : x_al X a K) : ∃ n f, X.1[a]? = some (.inl (.long, n, .inr (.inl f))) ∧ K n f := by
  unfold x_al at h; split at h
  · exact ⟨_, _, by assumption, h⟩
  · exact h.elim
theorem x_ob.inv {X : x_H} {a : Nat} {K : Nat → List Value → Prop} (h : x_ob X a K) : ∃ ci fs, X.1[a]? = some (.inr (ci, fs)) ∧ K ci fs := by
  unfold x_ob at h; split at h
  · exact ⟨_, _, by assumption, h⟩
  · exact h.elim
theorem x_s1.inv {st : List Value} {K : Int32 → List Value → Prop} (h : x_s1 st K) : ∃ x r, st = .int x :: r ∧ K x r := by
  unfold x_s1 at h; split at h
  · exact ⟨_, _, rfl, h⟩
  · exact h.elim
theorem x_s2.inv {st : List Value} {K : Int32 → Int32 → List Value → Prop} (h : x_s2 st K) : ∃ x y r, st = .int y :: .int x :: r ∧ K x y r := by
  unfold x_s2 at h; split at h
  · exact ⟨_, _, _, rfl, h⟩
  · exact h.elim
theorem x_sr.inv {st : List Value} {K : Nat → List Value → Prop} (h : x_sr st K) : ∃ x r, st = .ref x :: r ∧ K x r := by
  unfold x_sr at h; split at h
  · exact ⟨_, _, rfl, h⟩
  · exact h.elim
theorem x_sir.inv {st : List Value} {K : Nat → Int32 → List Value → Prop} (h : x_sir st K) : ∃ a i r, st = .int i :: .ref a :: r ∧ K a i r := by
  unfold x_sir at h; split at h
  · exact ⟨_, _, _, rfl, h⟩
  · exact h.elim
theorem x_siir.inv {st : List Value} {K : Nat → Int32 → Int32 → List Value → Prop} (h : x_siir st K) : ∃ a i x r, st = .int x :: .int i :: .ref a :: r ∧ K a i x r := by
  unfold x_siir at h; split at h
  · exact ⟨_, _, _, _, rfl, h⟩
  · exact h.elim
theorem x_slir.inv {st : List Value} {K : Nat → Int32 → Int64 → List Value → Prop} (h : x_slir st K) : ∃ a i x r, st = .long x :: .int i :: .ref a :: r ∧ K a i x r := by
  unfold x_slir at h; split at h
  · exact ⟨_, _, _, _, rfl, h⟩
  · exact h.elim
theorem x_sl1.inv {st : List Value} {K : Int64 → List Value → Prop} (h : x_sl1 st K) : ∃ x r, st = .long x :: r ∧ K x r := by
  unfold x_sl1 at h; split at h
  · exact ⟨_, _, rfl, h⟩
  · exact h.elim
theorem x_sl2.inv {st : List Value} {K : Int64 → Int64 → List Value → Prop} (h : x_sl2 st K) : ∃ x y r, st = .long y :: .long x :: r ∧ K x y r := by
  unfold x_sl2 at h; split at h
  · exact ⟨_, _, _, rfl, h⟩
  · exact h.elim
theorem x_sil.inv {st : List Value} {K : Int64 → Int32 → List Value → Prop} (h : x_sil st K) : ∃ x y r, st = .int y :: .long x :: r ∧ K x y r := by
  unfold x_sil at h; split at h
  · exact ⟨_, _, _, rfl, h⟩
  · exact h.elim
theorem x_svr.inv {st : List Value} {K : Nat → Value → List Value → Prop} (h : x_svr st K) : ∃ a v r, st = v :: .ref a :: r ∧ K a v r := by
  unfold x_svr at h; split at h
  · exact ⟨_, _, _, rfl, h⟩
  · exact h.elim
/-- how long an instruction is -/
def x_len (i : Instr) (n : Nat) : Nat := match i with
  | .bipush _ | .iload _ | .aload _ | .istore _ | .astore _ | .ldc _ | .newarray _ => 2
  | .sipush _ | .iinc _ _ | .goto _ | .ifCond _ _ | .if_icmp _ _ | .ldc_w _ | .ldc2_w _ | .getfield _ | .putfield _ | .invokevirtual _ | .invokestatic _ | .invokespecial _ | .new _ | .getstatic _ => 3
  | .tableswitch _ _ _ _ => n
  | _ => 1
def x_jmp (pc : Nat) (i : Instr) (tg : Nat) : Prop := match i with
  | .goto o | .ifCond _ o | .if_icmp _ o => (pc : Int) + o = (tg : Int)
  | .tableswitch dd lo hi offs => 0 ≤ (pc : Int) + dd ∧ (∀ o ∈ offs.toList, 0 ≤ (pc : Int) + o) ∧ lo + offs.size = hi + 1
  | _ => True
/-- words for all methods -/
def x_Gw : Prop := Cond.instanceMethod objectInit ∈ x_T ∧ Cond.code objectInit ⟨#[0xb1]⟩ 1 none ∈ x_T ∧ Cond.arrayClass .int ∈ x_T ∧ Cond.arrayClass .boolean ∈ x_T ∧ Cond.arrayClass .long ∈ x_T
/-- a method's tables are those of its bytes and of the words -/
def x_Tb (M : x_M) : Prop :=
  (∀ pc i len tg, M.tab pc = some (i, len, tg) → decode M.cod pc = .ok (i, x_len i len) ∧ x_jmp pc i tg) ∧
  (∀ ix ci k ty w, M.fld ix = some (ci, k, ty, w) → ∃ (C : String) (T : u_T) (N : Nat) (ty0 : Nat → FieldType), vwCl[ci]? = some (C, T, N) ∧ k < N ∧ (∀ w ∈ u_ws C T N, w ∈ x_T) ∧ Cond.fieldLink M.own ix (T k).1 (T k).2.1 (T k).2.2.1 ∈ x_T ∧
    (∀ k, k < N → parseFieldDescriptor (T k).2.2.1 = some (ty0 k)) ∧ (∀ a, a < N → ∀ b, b < N → a ≠ b → (T a).2.1 ≠ (T b).2.1) ∧ (w = 0 ∨ parseFieldDescriptor (T k).2.2.1 = some ty ∧ ((w = 1 ∧ (T k).2.2.2 = false) ∨ ((T k).2.2.2 = true ∧ M.nam.name = "<init>" ∧ (T k).1 = M.own)))) ∧
  (∀ ix v, M.cst ix = some (.int v) → Cond.constant M.own ix v ∈ x_T) ∧ (∀ ix v, M.cst ix = some (.long v) → Cond.constantLong M.own ix v ∈ x_T) ∧
  (∀ ix ci fs, M.nwc ix = some (ci, fs) → ∃ (C : String) (T : u_T) (N : Nat) (ty0 : Nat → FieldType), vwCl[ci]? = some (C, T, N) ∧ (∀ w ∈ u_ws C T N, w ∈ x_T) ∧ (∀ k, k < N → parseFieldDescriptor (T k).2.2.1 = some (ty0 k)) ∧ Cond.classLink M.own ix C ∈ x_T ∧ Cond.instantiable C N ∈ x_T ∧ Cond.initialized C ∈ x_T ∧ (∀ j, j < N → defaultValue (ty0 j) = vp_V fs j) ∧ fs.length = N ∧ ∀ ad, fs.map (x_rv ad) = fs) ∧
  (∀ ix, M.spc ix = some none → Cond.methodLink M.own ix objectInit ∈ x_T) ∧
  (∀ ix mj n bc bs, M.cas ix = some (mj, n, 2, bc, bs) → Cond.methodLink M.own ix Lib.Math.min.name ∈ x_T ∧ Cond.static Lib.Math.min.name ∈ x_T ∧ Cond.initialized "java/lang/Math" ∈ x_T ∧ Cond.code Lib.Math.min.name Lib.Math.min.code 2 (some .int) ∈ x_T)
theorem x_fit_ok {ty : FieldType} {v : Value} (ad : Nat → Nat) (h : x_fit ty v = true) : narrow ty (x_rv ad v) = x_rv ad v ∧ fits ty (x_rv ad v) = true := by
  unfold x_fit at h
  split at h
  · exact ⟨rfl, rfl⟩
  · exact ⟨rfl, rfl⟩
  · exact ⟨rfl, rfl⟩
  · cases h
section XS
variable {p : Program} {l : Launch} {e : Env} {R : Room} {s : State} {m : MethodId} {args : Array Value} {below : List Frame} {meth : Method} {c : Code} {QQ : State → Prop}
variable {M : x_M} {C : Nat → List Value → x_H → (x_O → x_H → Prop) → Prop} {Q : x_O → x_H → Prop} {D : va_G} {cO : FieldType → ClassId} {En : (Nat → Prop) → State → Heap → Prop} {A : Nat → Prop} {X0 : List x_C} {ad0 : Nat → Nat} {mcT msT : Nat}
/-- the frame stands so in the great machine -/
def x_R (D : va_G) (cO : FieldType → ClassId) (A : Nat → Prop) (s : State) (nL : Nat) (X0 : List x_C) (ad0 : Nat → Nat) (mcT msT : Nat) (L : x_L) (X : x_H) (ad : Nat → Nat) (H : Heap) (locs : List Loc) (cells slots : Nat) (ls : Array Slot) : Prop :=
  cells + X.2.1 ≤ mcT ∧ slots + X.2.2 ≤ msT ∧ va_P D vwCl (x_wk ad cO 0 X.1) H ∧ va_D A (x_wk ad cO 0 X.1) ∧ va_S A s.heap H locs ∧ x_lv ad L ls nL ∧ x_ext X0 mcT ad0 X.1 ad
def x_P (p : Program) (l : Launch) (e : Env) (R : Room) (s : State) (m : MethodId) (args : Array Value) (below : List Frame) (meth : Method) (c : Code) (QQ : State → Prop) (D : va_G) (cO : FieldType → ClassId) (A : Nat → Prop) (nL : Nat) (X0 : List x_C) (ad0 : Nat → Nat) (mcT msT : Nat) : Nat → x_L → List Value → x_H → Prop := fun pc L st X =>
  ∀ (ad : Nat → Nat) (H : Heap) (locs : List Loc) (cells slots : Nat) (ls : Array Slot), x_R D cO A s nL X0 ad0 mcT msT L X ad H locs cells slots ls → W p l e R s m args below meth c H locs cells slots QQ (F0 m pc ls (st.map (x_rv ad)))
/-- likewise, with something thrown over it -/
def x_PX (p : Program) (l : Launch) (e : Env) (R : Room) (s : State) (m : MethodId) (args : Array Value) (below : List Frame) (meth : Method) (c : Code) (QQ : State → Prop) (D : va_G) (cO : FieldType → ClassId) (A : Nat → Prop) (nL : Nat) (X0 : List x_C) (ad0 : Nat → Nat) (mcT msT : Nat) (E : String) : Nat → x_L → List Value → x_H → Prop := fun pc L st X =>
  ∀ (ad : Nat → Nat) (H : Heap) (locs : List Loc) (cells slots : Nat) (ls : Array Slot) (q : Addr) (ce : Cell), x_R D cO A s nL X0 ad0 mcT msT L X ad H locs cells slots ls → H[q]? = some ce → ce.vm = .none → s.vm.findClass E = some ce.cls → vx_W p l e R s m args below meth c H locs cells slots QQ (F0 m pc ls (st.map (x_rv ad))) q
def x_Ctx (p : Program) (R : Room) (s : State) (m : MethodId) (args : Array Value) (meth : Method) (c : Code) (M : x_M) (D : va_G) (cO : FieldType → ClassId) (En : (Nat → Prop) → State → Heap → Prop) (A : Nat → Prop) (mcT msT : Nat) : Prop :=
  p.tables.exec = Jvm.exec ∧ c.code = M.cod ∧ c.maxLocals = M.maxl ∧ s.vm.findClass M.own = some m.cls ∧ (∀ w ∈ x_T, w.before args s = true) ∧ va_K D vwCl (x_ty cO) s ∧ (∀ q : Nat, s.heap.size ≤ q → A q) ∧ En A s s.heap ∧ mcT ≤ R.cells ∧ msT ≤ R.slots ∧ meth.name = M.nam.name ∧ 9 ≤ R.frames ∧ 240 ≤ R.locals
/-- what a call needs: its words, and the callee's contract -/
def x_CV (l : Launch) (R : Room) (s : State) (args : Array Value) (M : x_M) (C : Nat → List Value → x_H → (x_O → x_H → Prop) → Prop) (D : va_G) (cO : FieldType → ClassId) (En : (Nat → Prop) → State → Heap → Prop) (b : Nat) : Prop :=
  ∀ ix mj n ci bc bs, M.cal ix = some (mj, n, ci, bc, bs) → ∃ (y : MethodName) (bytes : ByteArray) (maxL : Nat) (ret : Option FieldType) (ws : List Cond) (rm : Room) (cq : vw_C), vwCl[ci]? = some cq ∧ CallW R s args M.own cq.1 ix y bytes maxL ret ws rm bc bs n ∧
    ∀ ad X av Qm sz, ad x_SP = b → C mj av (X, bc, bs) Qm → vx_Met l y ws rm (x_Pre D cO En ad X av sz) (x_Post D cO ad X sz bc Qm) (x_PostX D cO ad X sz bc Qm) bc bs (va_A (x_wk ad cO 0 X) sz)
def x_CS (l : Launch) (R : Room) (s : State) (args : Array Value) (M : x_M) (C : Nat → List Value → x_H → (x_O → x_H → Prop) → Prop) (D : va_G) (cO : FieldType → ClassId) (En : (Nat → Prop) → State → Heap → Prop) (b : Nat) : Prop :=
  ∀ ix mj n k bc bs, M.cas ix = some (mj, n, k, bc, bs) → k ≠ 2 → ∃ (y : MethodName) (bytes : ByteArray) (maxL : Nat) (ret : Option FieldType) (ws : List Cond) (rm : Room), ((CallB R s args M.own ix y bytes maxL ret ws rm bc bs n ∧ (Cond.static y).before args s = true) ∨ (∃ host, va_CN R s args M.own ix y host bytes maxL ret ws rm bc bs n ∧ (Cond.static y).before args s = true ∧ True) ∨ ∃ hh, vx_CSW R s args M.own ix y bytes maxL ret hh ws rm bc bs n) ∧
    ∀ ad X av Qm sz, ad x_SP = b → (∀ E Y, ¬ Qm (.inr E) Y) → C mj av (X, bc, bs) Qm → Met l y ws rm (x_Pre D cO En ad X av sz) (x_Post D cO ad X sz bc Qm) bc bs (va_A (x_wk ad cO 0 X) sz)
def x_CI (l : Launch) (R : Room) (s : State) (args : Array Value) (M : x_M) (C : Nat → List Value → x_H → (x_O → x_H → Prop) → Prop) (D : va_G) (cO : FieldType → ClassId) (En : (Nat → Prop) → State → Heap → Prop) (b : Nat) : Prop :=
  ∀ ix mj n bc bs, M.spc ix = some (some (mj, n, bc, bs)) → ∃ (y : MethodName) (bytes : ByteArray) (maxL : Nat) (ws : List Cond) (rm : Room), (CallB R s args M.own ix y bytes maxL none ws rm bc bs n ∧ y.name = "<init>" ∧ (Cond.instanceMethod y).before args s = true) ∧
    ∀ ad X av Qm sz, ad x_SP = b → (∀ E Y, ¬ Qm (.inr E) Y) → C mj av (X, bc, bs) Qm → Met l y ws rm (x_Pre D cO En ad X av sz) (x_Post D cO ad X sz bc Qm) bc bs (va_A (x_wk ad cO 0 X) sz)
/-- behind a call: the frame over the callee's world -/
theorem x_back {n : Nat} {L : x_L} {rest : List Value} {X Y : x_H} {ad ad' : Nat → Nat} {H : Heap} {locs Lc : List Loc} {cells slots bc bs : Nat} {ls : Array Slot} {st₀ t T' : State}
    (hR : x_R D cO A s n X0 ad0 mcT msT L X ad H locs cells slots ls) (hA : ∀ q : Nat, s.heap.size ≤ q → A q) (hb : (rest.map fun v => v.category).sum ≤ 8 ∧ ((bc = 0 ∧ bs = 0) ∨ (bc ≤ X.2.1 ∧ bs ≤ X.2.2 ∧ x_lok X.1.length L ∧ x_sok X.1.length rest)))
    (h0 : st₀.heap = H) (hL : ∀ q ∈ Lc, va_A (x_wk ad cO 0 X.1) H.size q.base) (e1 : T'.heap = t.heap) (hx : x_ext X.1 bc ad Y.1 ad') (hB : x_B D cO (va_A (x_wk ad cO 0 X.1) H.size) ad' Y.1 t) (hF : va_F (va_A (x_wk ad cO 0 X.1) H.size) st₀ t) :
    x_R D cO A s n X0 ad0 mcT msT L (Y.1, X.2.1 - bc, X.2.2 - bs) ad' T'.heap (locs ++ Lc) (cells + bc) (slots + bs) ls ∧ rest.map (x_rv ad') = rest.map (x_rv ad) := by
  obtain ⟨hc, hs, hP, hD, hS, hl, hE⟩ := hR
  have hin : ∀ q, va_A (x_wk ad cO 0 X.1) H.size q → A q := by
    intro q hq
    rcases hq with ⟨k, e9, hk⟩ | hq
    · exact hD.2 k _ hk
    · exact hA q (Nat.le_trans hS.1 hq)
  obtain ⟨hP1, hK1, hD1⟩ := hB
  obtain ⟨hz, hk⟩ := hF
  rw [h0] at hz hk
  have hS' : va_S A s.heap T'.heap (locs ++ Lc) := ⟨Nat.le_trans hS.1 (by rw [e1]; exact hz), fun q h1 h2 => by rw [e1, hk q (Nat.lt_of_lt_of_le h1 hS.1) (fun z => h2 (hin q z))]; exact hS.2.1 q h1 h2, fun q hq => by
    rcases List.mem_append.mp hq with h | h
    · exact hS.2.2 q h
    · exact hin _ (hL q h)⟩
  have hbc : bc ≤ X.2.1 ∧ bs ≤ X.2.2 ∧ x_lv ad' L ls n ∧ rest.map (x_rv ad') = rest.map (x_rv ad) ∧ x_ext X0 mcT ad0 Y.1 ad' := by
    by_cases hb0 : bc = 0
    · have h1 : bs ≤ X.2.2 := by rcases hb.2 with ⟨-, h⟩ | h <;> omega
      have h2 := hx.2.2 hb0
      subst h2
      exact ⟨by omega, h1, hl, rfl, ⟨Nat.le_trans hE.1 hx.1, hE.2.1, hE.2.2⟩⟩
    · rcases hb.2 with ⟨h, -⟩ | ⟨h1, h2, h3, h4⟩
      · exact absurd h hb0
      refine ⟨h1, h2, hl.move hx.2.1 h3, x_st_move hx.2.1 h4, ⟨Nat.le_trans hE.1 hx.1, ⟨fun k hk9 => ?_, hx.2.1.2.trans hE.2.1.2⟩, fun h9 => ?_⟩⟩
      · rw [hx.2.1.1 k (Nat.lt_of_lt_of_le hk9 hE.1)]
        exact hE.2.1.1 k hk9
      · omega
  obtain ⟨b1, b2, b4, b5, b6⟩ := hbc
  exact ⟨⟨by show cells + bc + (X.2.1 - bc) ≤ mcT; omega, by show slots + bs + (X.2.2 - bs) ≤ msT; omega, by rw [e1]; exact hP1, hD1.weaken (fun k q _ h => hin q.1 h), hS', b4, b6⟩, b5⟩
/-- a call has run: the frame goes on over the callee's world -/
theorem x_called {n : Nat} {pc : Nat} {L : x_L} {rest st0 : List Value} {X : x_H} {ad : Nat → Nat} {H : Heap} {locs : List Loc} {cells slots bc bs : Nat} {ls : Array Slot} {Qm : x_O → x_H → Prop} {av : Array Value}
    (hR : x_R D cO A s n X0 ad0 mcT msT L X ad H locs cells slots ls) (hA : ∀ q : Nat, s.heap.size ≤ q → A q) (hb : (rest.map fun v => v.category).sum ≤ 8 ∧ ((bc = 0 ∧ bs = 0) ∨ (bc ≤ X.2.1 ∧ bs ≤ X.2.2 ∧ x_lok X.1.length L ∧ x_sok X.1.length rest)))
    (hr : va_Run p l e R s m args below meth c H locs cells slots bc bs (F0 m pc ls st0) (rest.map (x_rv ad)) (x_Post D cO ad X.1 H.size bc Qm av) (va_A (x_wk ad cO 0 X.1) H.size))
    (kk : ∀ (v : Option Value) (Y : x_H), Qm (.inl v) Y → x_P p l e R s m args below meth c QQ D cO A n X0 ad0 mcT msT (pc + 3) L (v.toList ++ rest) (Y.1, X.2.1 - bc, X.2.2 - bs)) :
    W p l e R s m args below meth c H locs cells slots QQ (F0 m pc ls st0) := by
  intro T hT St
  obtain ⟨v, st₀, t, T', Lc, h0, St', hL, e1, e2, ⟨⟨v', Y, ad', hv, hQ, hx, hB⟩, hF⟩, stp⟩ := hr T hT St
  cases hv
  obtain ⟨hR', b5⟩ := x_back hR hA hb h0 hL e1 hx hB hF
  obtain ⟨t2, a1, b9⟩ := kk v' Y hQ ad' T'.heap (locs ++ Lc) (cells + bc) (slots + bs) ls hR' T' rfl St'
  refine ⟨t2, stp t2 ?_, b9⟩
  have hst : (v'.toList ++ rest).map (x_rv ad') = (v'.map (x_rv ad')).toList ++ rest.map (x_rv ad) := by
    rw [List.map_append, b5]
    cases v' <;> rfl
  rw [hst] at a1
  exact a1
/-- a call has run, or has thrown -/
theorem x_calledX {n : Nat} {pc : Nat} {L : x_L} {rest st0 : List Value} {X : x_H} {ad : Nat → Nat} {H : Heap} {locs : List Loc} {cells slots bc bs : Nat} {ls : Array Slot} {Qm : x_O → x_H → Prop} {av : Array Value}
    (hR : x_R D cO A s n X0 ad0 mcT msT L X ad H locs cells slots ls) (hA : ∀ q : Nat, s.heap.size ≤ q → A q) (hb : (rest.map fun v => v.category).sum ≤ 8 ∧ ((bc = 0 ∧ bs = 0) ∨ (bc ≤ X.2.1 ∧ bs ≤ X.2.2 ∧ x_lok X.1.length L ∧ x_sok X.1.length rest)))
    (hr : vx_Run p l e R s m args below meth c H locs cells slots bc bs (F0 m pc ls st0) (rest.map (x_rv ad)) (x_Post D cO ad X.1 H.size bc Qm av) (x_PostX D cO ad X.1 H.size bc Qm) (va_A (x_wk ad cO 0 X.1) H.size))
    (kk : ∀ (v : Option Value) (Y : x_H), Qm (.inl v) Y → x_P p l e R s m args below meth c QQ D cO A n X0 ad0 mcT msT (pc + 3) L (v.toList ++ rest) (Y.1, X.2.1 - bc, X.2.2 - bs))
    (kx : ∀ (E : String) (Y : x_H), Qm (.inr E) Y → x_PX p l e R s m args below meth c QQ D cO A n X0 ad0 mcT msT E pc L rest (Y.1, X.2.1 - bc, X.2.2 - bs)) :
    W p l e R s m args below meth c H locs cells slots QQ (F0 m pc ls st0) := by
  intro T hT St
  rcases hr T hT St with ⟨v, st₀, t, T', Lc, h0, St', hL, e1, e2, ⟨⟨v', Y, ad', hv, hQ, hx, hB⟩, hF⟩, stp⟩ | ⟨q, st₀, t, T', Lc, E, ce, h0, St', hL, e1, e2, ⟨⟨Y, ad', hQ, hx, hB⟩, hF⟩, hce, hcv, hcl, stp⟩
  · cases hv
    obtain ⟨hR', b5⟩ := x_back hR hA hb h0 hL e1 hx hB hF
    obtain ⟨t2, a1, b9⟩ := kk v' Y hQ ad' T'.heap (locs ++ Lc) (cells + bc) (slots + bs) ls hR' T' rfl St'
    refine ⟨t2, stp t2 ?_, b9⟩
    have hst : (v'.toList ++ rest).map (x_rv ad') = (v'.map (x_rv ad')).toList ++ rest.map (x_rv ad) := by
      rw [List.map_append, b5]
      cases v' <;> rfl
    rw [hst] at a1
    exact a1
  · obtain ⟨hR', b5⟩ := x_back hR hA hb h0 hL e1 hx hB hF
    obtain ⟨t2, a1, b9⟩ := kx E Y hQ ad' T'.heap (locs ++ Lc) (cells + bc) (slots + bs) ls q ce hR' (by rw [e1]; exact hce) hcv hcl T' rfl St'
    rw [b5] at a1
    exact ⟨t2, stp.trans a1, b9⟩
end XS
