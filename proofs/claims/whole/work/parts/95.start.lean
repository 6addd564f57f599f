/-! THE CLAIM OUT OF ONE WALK OF THE LAW'S BODY. Your part is whole_start (and what it stands on); all else here is the same for every law, but numbers. -/
def R_law : String := "HumanStepsLaw"
def lw_P (b : Addr) (xs : List Int32) (args : Array Value) (s : State) : Prop := args = #[.ref b] ∧ s.IntsAt b xs ∧ xs.length ≤ 1537 ∧ (Jvm.Cond.and given_1 narrow_1).before args s = true
def lw_Q (_ : Array Value) (s : State) (o : Outcome) (t : State) : Prop := o = .returned (some (.int 1)) ∧ Framed s o t [] 601024 7293000
def lw_Z (below : List Frame) (a : Array Value) (s : State) : State → Prop := fun t => ∃ o, t.status = .running ∧ Ended t below o ∧ lw_Q a s o t
/-- the law's own end, with 1 on the stack, nothing written that was there before, its room as the claim has it -/
theorem lw_ret {p : Program} {l : Launch} {e : Env} {s : State} {m : MethodId} {below : List Frame} {meth : Method} {c : Code} {b : Nat} (hx : p.tables.exec = Jvm.exec) (hb : c.code = code) (hr : meth.sig.returnType = ret) (hlocks : meth.locks = false) {pc : Nat} {H : Heap} {ls : Array Slot} (hdg : decode code pc = .ok (.ireturn, 1)) : W p l e room_1 s m #[Value.ref b] below meth c H [] 601024 7293000 (lw_Z below #[Value.ref b] s) (F0 m pc ls [.int 1]) := by
  intro T hT X
  obtain ⟨fs, hret, hrun, hended, hW, hframe⟩ := X.leave (v := some (.int 1)) (hlocks := hlocks) (fun h => by rw [hr] at h; cases h)
  have hmeth' : T.vm.method? m = some meth := X.method'
  refine ⟨T.setFrames fs, ?_, .returned (some (.int 1)), hrun, hended, rfl, ⟨_, rfl⟩, hW, hframe⟩
  jvm_step X.here [X.here.top, hx, hb, hdg, hmeth', hr, ret, narrow_b1]
  (try refine ⟨rfl, ?_⟩); (try refine ⟨rfl, ?_⟩)
  first | (intro acts; rw [hret _ acts rfl rfl rfl]) | rw [hret _ _ rfl rfl rfl]
  exact Steps.refl _
/-- what holds at the law's entry: the machine, the code, the tables' words (any of lw_tbl by 'hts w (by decide +kernel)'), the script of L ints xs at the cell b, what the Statement gives of the start (any of its parts by flat_of_before) -/
def lw_At (p : Program) (s : State) (m : MethodId) (meth : Method) (c : Code) (b L : Nat) (xs : Nat → Int32) : Prop :=
  p.tables.exec = Jvm.exec ∧ c.code = code ∧ meth.sig.returnType = ret ∧ c.maxLocals = 7 ∧ s.vm.findClass R_law = some m.cls ∧ (∀ w ∈ lw_tbl, w.before #[Value.ref b] s = true) ∧ va_X b L xs s s.heap ∧ b < s.heap.size ∧ meth.locks = false ∧ (Jvm.Cond.and given_1 narrow_1).before #[Value.ref b] s = true
/-- the classes and arrays, by the words -/
theorem x_K_start {s : State} {args : Array Value} (hts : ∀ w ∈ x_T, w.before args s = true) : ∃ (D : va_G) (cO : FieldType → ClassId), va_K D vwCl (x_ty cO) s := by
  have wJ : ∀ w ∈ u_ws RJx00060 TJx00060 6, w ∈ x_T := x_us (fun k hk => (List.forall_mem_cons.mpr ⟨wx_lj0, List.forall_mem_cons.mpr ⟨wx_lj1, List.forall_mem_cons.mpr ⟨wx_lj2, List.forall_mem_cons.mpr ⟨wx_lj3, List.forall_mem_cons.mpr ⟨wx_lj4, List.forall_mem_cons.mpr ⟨wx_lj5, List.forall_mem_nil _⟩⟩⟩⟩⟩⟩ : ∀ k ∈ [0, 1, 2, 3, 4, 5], u_lay RJx00060 TJx00060 k ∈ x_T) k (List.mem_range.mpr hk))
  have h0 : ∀ k : Nat, ∃ z : ClassId × (Nat → Nat), ∀ q : vw_C, vwCl[k]? = some q → u_Kn s q.1 q.2.1 q.2.2 z.1 z.2 := by
    intro k
    match k with
    | 0 =>
      obtain ⟨a, b, h⟩ := u_known (n := 6) hts wJ (hts _ wx_nsJ)
      exact ⟨(a, b), fun q hq => by cases hq; exact h⟩
    | 1 =>
      obtain ⟨a, b, h⟩ := u_known (n := 3) hts cl_X0.2.1 (hts _ wx_nsX0)
      exact ⟨(a, b), fun q hq => by cases hq; exact h⟩
    | 2 =>
      obtain ⟨a, b, h⟩ := u_known (n := 7) hts cl_X1.2.1 (hts _ wx_nsX1)
      exact ⟨(a, b), fun q hq => by cases hq; exact h⟩
    | 3 =>
      obtain ⟨a, b, h⟩ := u_known (n := 9) hts cl_X2.2.1 (hts _ wx_nsX2)
      exact ⟨(a, b), fun q hq => by cases hq; exact h⟩
    | 4 =>
      obtain ⟨a, b, h⟩ := u_known (n := 6) hts cl_X3.2.1 (hts _ wx_nsX3)
      exact ⟨(a, b), fun q hq => by cases hq; exact h⟩
    | 5 =>
      obtain ⟨a, b, h⟩ := u_known (n := 6) hts cl_X5.2.1 (hts _ wx_nsX5)
      exact ⟨(a, b), fun q hq => by cases hq; exact h⟩
    | 6 =>
      obtain ⟨a, b, h⟩ := u_known (n := 4) hts cl_X6.2.1 (hts _ wx_nsX6)
      exact ⟨(a, b), fun q hq => by cases hq; exact h⟩
    | 7 =>
      obtain ⟨a, b, h⟩ := u_known (n := 6) hts cl_X7.2.1 (hts _ wx_nsX7)
      exact ⟨(a, b), fun q hq => by cases hq; exact h⟩
    | 8 =>
      obtain ⟨a, b, h⟩ := u_known (n := 23) hts cl_X8.2.1 (hts _ wx_nsX8)
      exact ⟨(a, b), fun q hq => by cases hq; exact h⟩
    | k + 9 => exact ⟨(0, fun _ => 0), fun q hq => by simp [vwCl] at hq⟩
  obtain ⟨f, hf⟩ := Classical.axiomOfChoice h0
  obtain ⟨ci, ki, pi, i1, i2, i3⟩ := Cond.arrayClass_spec (args := args) (first := s) (o := none) (s := s) (idx := []) (hts _ x_Gw_ok.2.2.1)
  obtain ⟨cb, kb, pb, z1, z2, z3⟩ := Cond.arrayClass_spec (args := args) (first := s) (o := none) (s := s) (idx := []) (hts _ x_Gw_ok.2.2.2.1)
  obtain ⟨cl, kl, pl, l1, l2, l3⟩ := Cond.arrayClass_spec (args := args) (first := s) (o := none) (s := s) (idx := []) (hts _ x_Gw_ok.2.2.2.2)
  refine ⟨(fun k => (f k).1, fun k => (f k).2), fun ty => match ty with
    | .int => ci
    | .boolean => cb
    | _ => cl, fun c q hq => hf c q hq, fun k q hq => ?_⟩
  match k, hq with
  | 0, hq => cases hq; exact ⟨fun n z => ⟨fun k h => (by cases h), ki, i2, pi, i3⟩, i1⟩
  | 1, hq => cases hq; exact ⟨fun n z => ⟨fun k h => (by cases h), kb, z2, pb, z3⟩, z1⟩
  | 2, hq => cases hq; exact ⟨fun n z => ⟨fun k h => (by cases h), kl, l2, pl, l3⟩, l1⟩
  | k + 3, hq => simp [x_ty] at hq
set_option maxHeartbeats 4000000 in
/-- from the entry, for every script of at most 1537 ints, the law comes to its end with true -/
theorem whole_start {p : Program} {e : Env} {s : State} {m : MethodId} {below : List Frame} {meth : Method} {c : Code} (l : Launch) (hlt : l.stackTraces = false) (hnm : meth.name = "law") {b L : Nat} {xs : Nat → Int32} (hL : L ≤ 1537) (C0 : lw_At p s m meth c b L xs) : W p l e room_1 s m #[Value.ref b] below meth c s.heap [] 0 0 (lw_Z below #[Value.ref b] s) (entryFrame m ([Value.ref b] : List Value).toArray 7) := by
  obtain ⟨hx, hb, hr, hml, hown, hts, hX, hbl, hlocks, hgv⟩ := C0
  have htsT : ∀ w ∈ x_T, w.before #[Value.ref b] s = true := fun w hw => hts w (List.mem_filter.mp hw).1
  obtain ⟨D, cO, hK⟩ := x_K_start htsT
  have hE : x_En (L, xs) b (fun q : Nat => s.heap.size ≤ q) s s.heap := x_En_start (sc := (L, xs)) hts hgv hX hbl (fun a ha => Nat.not_le.mpr ha)
  have hCon := x_met (D := D) (cO := cO) l (x_En_ok (L, xs) b) (fun A U H h => h.1) x_Gw_ok (x_All_ok (x_En_nw (L, xs) b)) (fun mj M hM => (x_Fin_ok hlt mj M hM).1) (fun mj M hM => (x_Fin_ok hlt mj M hM).2) (x_wordsX l)
  have hcalls := x_calls (x_All_ok (x_En_nw (L, xs) b)) (hCon 8) (tc_L_law (x_En_nw (L, xs) b)) (R := room_1) htsT hE ⟨by decide, by decide⟩
  have hctx : x_Ctx p room_1 s m #[Value.ref b] meth c m_L_law D cO (x_En (L, xs) b) (fun q : Nat => s.heap.size ≤ q) 601024 7293000 := ⟨hx, hb, hml, hown, htsT, hK, fun _ h => h, hE, Nat.le_refl _, Nat.le_refl _, hnm, by decide, by decide⟩
  have hZ : x_Ends p l e room_1 s m #[Value.ref b] below meth c (lw_Z below #[Value.ref b] s) m_L_law (fun o _ => o = .inl (some (.int 1))) D cO (fun q : Nat => s.heap.size ≤ q) [] (fun _ => b) 601024 7293000 := by
    intro v pc L9 Y hQ hv ad' H locs cells slots ls' hR
    obtain ⟨h1, h2, h3, h4, h5, h6, h7⟩ := hR
    have hv1 : v = some (.int 1) := by cases hQ; rfl
    subst hv1
    have hd : decode code pc = .ok (.ireturn, 1) := by
      rcases hv with ⟨x, -, hd, -⟩ | ⟨x, h9, -⟩ | ⟨h9, -⟩
      · exact hd
      · cases h9
      · cases h9
    refine W.widen (k := 601024) (n := 7293000) (by omega) (by omega) ?_
    intro T hT St
    exact lw_ret hx hb hr hlocks hd T hT (Stand.forget (locs := []) St h5.2.2)
  have hgo := l_law (sc := (L, xs)) (d := 0) (B := 601024) (C := 7293000) (Q := fun o _ => o = .inl (some (.int 1))) (by decide) (by decide) hL (fun _ => rfl) _ (x_snd (QQ := lw_Z below #[Value.ref b] s) (below := below) (e := e) (l := l) (X0 := []) (ad0 := fun _ => b) (x_En_ok (L, xs) b) x_Gw_ok tb_L_law hctx rfl hE.1 hcalls.1 hcalls.2.1 hcalls.2.2 hZ (fun E pc L9 st Y _ hQ => by cases hQ) (fun E pc h k hq => by cases (show (some none : Option (Option (Nat × Nat))) = some (some (h, k)) from hq)) (fun pc ix len tg E L9 Y _ h3 => by cases (show (none : Option String) = some E from h3)))
  obtain ⟨ls, hent, hlv⟩ := x_entry (fun _ => b) m_L_law m (av := [.ref x_SP]) ⟨rfl, trivial⟩ (by decide)
  have hent' : entryFrame m ([Value.ref b] : List Value).toArray 7 = F0 m 0 ls [] := hent
  rw [hent']
  exact hgo (fun _ => b) s.heap [] 0 0 ls ⟨Nat.le_of_eq (Nat.zero_add _), Nat.le_of_eq (Nat.zero_add _), fun k q h => by simp [x_wk] at h, ⟨fun i j p q h => by simp [x_wk] at h, fun k q h => by simp [x_wk] at h⟩, va_S.rf, hlv, ⟨Nat.le_refl _, ⟨fun _ _ => rfl, rfl⟩, fun _ => rfl⟩⟩
