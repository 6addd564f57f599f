/-! ===== a run of the small machine is a method's contract ===== -/
def x_rm (d bc bs : Nat) : Room := { frames := d + 8, cells := bc, slots := bs, locals := 40 * d + 200 }
def x_ent (M : x_M) (av : List Value) : x_L := av.map some ++ List.replicate (M.maxl - av.length) none
def x_c1 : List Value → Prop
  | [] => True
  | v :: l => v.category = 1 ∧ x_c1 l
/-- methods by their numbers; d frames deep -/
abbrev x_TC : Type := Nat → List Value → x_H → (x_O → x_H → Prop) → Prop
/-- a method without instructions here is told from outside: EX, over what its callees do -/
def x_run (sc : Nat × (Nat → Int32)) (MM : Nat → Option x_M) (EX : x_TC → x_TC) : Nat → Nat → List Value → x_H → (x_O → x_H → Prop) → Prop
  | 0, _, _, _, _ => False
  | d + 1, mj, av, X, Q => match MM mj with
    | some M => match M.tab 0 with
      | some _ => av.length ≤ M.maxl ∧ x_c1 av ∧ x_W sc M (x_run sc MM EX d) Q 0 (x_ent M av) [] X
      | none => EX (x_run sc MM EX d) mj av X Q
    | none => False
theorem x_run_mono (sc : Nat × (Nat → Int32)) (MM : Nat → Option x_M) {EX : x_TC → x_TC} (hEX : ∀ C, x_Cm C → x_Cm (EX C)) : ∀ d, x_Cm (x_run sc MM EX d)
  | 0 => fun _ _ _ _ _ _ h => h
  | d + 1 => fun mj av X Q Q' hQ h => by
    unfold x_run at *
    split at h
    · split at h
      · exact ⟨h.1, h.2.1, x_W.mono (x_run_mono sc MM hEX d) hQ h.2.2⟩
      · exact hEX _ (x_run_mono sc MM hEX d) _ _ _ _ _ hQ h
    · exact h
theorem x_ll_none (ad : Nat → Nat) : ∀ (n k : Nat), x_ll ad k (List.replicate n none) = []
  | 0, _ => rfl
  | n + 1, k => by rw [List.replicate_succ]; exact x_ll_none ad n (k + 1)
theorem x_ll_args (ad : Nat → Nat) (n : Nat) : ∀ (av : List Value) (k : Nat), x_c1 av → x_ll ad k (av.map some ++ List.replicate n none) = lv_args k (av.map (x_rv ad))
  | [], k, _ => x_ll_none ad n k
  | v :: av, k, h => by
    have h1 : ¬ (x_rv ad v).category = 2 := by rw [x_rv_cat, h.1]; decide
    simp only [List.map_cons, List.cons_append, x_ll, lv_args, if_neg h1]
    rw [x_ll_args ad n av (k + 1) h.2]
theorem x_sl (ad : Nat → Nat) : ∀ (av : List Value), x_c1 av → (lg_sl (av.map (x_rv ad))).length = av.length
  | [], _ => rfl
  | v :: av, h => by
    have h1 : ¬ (x_rv ad v).category = 2 := by rw [x_rv_cat, h.1]; decide
    have h2 := x_sl ad av h.2
    simp only [lg_sl] at h2 ⊢
    simp [h1, h2]
theorem x_c1_at : ∀ {av : List Value}, x_c1 av → ∀ (j : Nat) (v : Value), av[j]? = some v → v.category = 1
  | [], _, j, v, h => by simp at h
  | w :: av, hc, 0, v, h => by
    have h1 : w = v := by simpa using h
    rw [← h1]; exact hc.1
  | w :: av, hc, j + 1, v, h => x_c1_at hc.2 j v (by simpa using h)
theorem x_entry (ad : Nat → Nat) (M : x_M) (m : MethodId) {av : List Value} (hc : x_c1 av) (hl : av.length ≤ M.maxl) : ∃ ls, entryFrame m (av.map (x_rv ad)).toArray M.maxl = F0 m 0 ls [] ∧ x_lv ad (x_ent M av) ls M.maxl := by
  refine ⟨_, lg_entry_eq m _ _, ?_, ?_, ?_⟩
  · rw [x_ent, List.length_append, List.length_map, List.length_replicate]; omega
  · rw [x_ent, x_ll_args ad _ av 0 hc]
    exact lv_entry _ (by rw [x_sl ad av hc]; exact hl)
  · intro j v hj
    rw [x_ent] at hj
    by_cases hlt : j < av.length
    · rw [List.getElem?_append_left (by rw [List.length_map]; exact hlt), List.getElem?_map] at hj
      cases h9 : av[j]? with
      | none => rw [h9] at hj; cases hj
      | some w =>
        rw [h9] at hj
        have h8 : w = v := by simpa using hj
        rw [← h8]
        exact x_c1_at hc j w h9
    · rw [List.getElem?_append_right (by rw [List.length_map]; omega)] at hj
      rw [List.getElem?_replicate] at hj
      split at hj <;> cases hj
/-- a method's own word -/
def x_kw (M : x_M) : Cond := match M.hnd with
  | [] => Cond.code M.nam M.cod M.maxl M.ret
  | h :: r => Cond.codeWith M.nam M.cod M.maxl M.ret (h :: r)
def x_ws (M : x_M) : List Cond := x_kw M :: x_T
def x_nmh (y : MethodName) : Prop := y.cls ≠ "java/lang/invoke/MethodHandle" ∧ y.cls ≠ "java/lang/invoke/VarHandle"
/-- the calls of a method, by the words -/
def x_Tc (MM : Nat → Option x_M) (En : (Nat → Prop) → State → Heap → Prop) (M : x_M) : Prop :=
  (∀ ix mj n ci bc bs, M.cal ix = some (mj, n, ci, bc, bs) → ∃ (M' : x_M) (cq : vw_C), MM mj = some M' ∧ M'.hnd = [] ∧ vwCl[ci]? = some cq ∧ M'.nam.cls = cq.1 ∧ Cond.methodLink M.own ix M'.nam ∈ x_T ∧ Cond.instanceMethod M'.nam ∈ x_T ∧ Cond.selects cq.1 M'.nam M'.nam ∈ x_T ∧ Cond.initialized cq.1 ∈ x_T ∧ (parseMethodDescriptor M'.nam.desc).map (fun d => d.parameters.length) = some n) ∧
  (∀ ix mj n k bc bs, M.cas ix = some (mj, n, k, bc, bs) → k ≠ 2 → ∃ (M' : x_M), MM mj = some M' ∧ ((k = 0 ∧ Cond.methodLink M.own ix M'.nam ∈ x_T) ∨ (M'.hnd = [] ∧ ∃ host, ∀ A U H, En A U H → va_Nw (.methodLinkNest M.own ix M'.nam host) U)) ∧ Cond.static M'.nam ∈ x_T ∧ Cond.initialized M'.nam.cls ∈ x_T ∧ (parseMethodDescriptor M'.nam.desc).map (fun d => d.parameters.length) = some n) ∧
  (∀ ix mj n bc bs, M.spc ix = some (some (mj, n, bc, bs)) → ∃ (M' : x_M), MM mj = some M' ∧ M'.hnd = [] ∧ M'.ret = none ∧ M'.nam.name = "<init>" ∧ Cond.methodLink M.own ix M'.nam ∈ x_T ∧ Cond.instanceMethod M'.nam ∈ x_T ∧ Cond.initialized M'.nam.cls ∈ x_T ∧ (parseMethodDescriptor M'.nam.desc).map (fun d => d.parameters.length) = some n)
def x_All (MM : Nat → Option x_M) (En : (Nat → Prop) → State → Heap → Prop) : Prop :=
  ∀ mj M, MM mj = some M → x_Tb M ∧ x_Tc MM En M ∧ plainName M.nam.cls = true ∧ M.nam.cls = M.own ∧ x_kw M ∈ x_T ∧ x_nmh M.nam ∧ M.maxl ≤ 20
/-- handlers do as their table says -/
def x_HandOK (l : Launch) (En : (Nat → Prop) → State → Heap → Prop) (M : x_M) : Prop := ∀ (p : Program) (e : Env) (R : Room) (s : State) (m : MethodId) (args : Array Value) (below : List Frame) (meth : Method) (c : Code) (QQ : State → Prop), (∃ A, En A s s.heap) → p.tables.exec = Jvm.exec → s.vm.findClass M.own = some m.cls → (∀ w ∈ x_T, w.before args s = true) → (M.hnd = [] → ∀ x ∈ c.exceptionTable.toList, False) → ((Cond.codeWith M.nam M.cod M.maxl M.ret M.hnd).before args s = true ∨ M.hnd = []) → (∀ hh, (Cond.codeWith M.nam M.cod M.maxl M.ret hh).before args s = true → c.exceptionTable.toList = tableOf hh) →
  x_Hnd p l e R s m args below meth c QQ M ∧ ∀ pc E, M.exc pc E = some none → ∀ x ∈ c.exceptionTable.toList, covers x pc = false
/-- throws do as they should -/
def x_ThrOK (l : Launch) (En : (Nat → Prop) → State → Heap → Prop) (M : x_M) : Prop := ∀ (D : va_G) (cO : FieldType → ClassId) (p : Program) (e : Env) (R : Room) (s : State) (m : MethodId) (args : Array Value) (below : List Frame) (meth : Method) (c : Code) (ad : Nat → Nat) (X : List x_C) (A : Nat → Prop) (bc bs : Nat) (Q : x_O → x_H → Prop), va_A (x_wk ad cO 0 X) s.heap.size = A → x_Ctx p R s m args meth c M D cO En A bc bs → meth.locks = false → (∀ x ∈ c.exceptionTable.toList, False) →
  x_Thr p l e R s m args below meth c (vx_MQ below (x_Post D cO ad X s.heap.size bc Q) (x_PostX D cO ad X s.heap.size bc Q) args s bc bs A) M Q D cO A X ad bc bs
/-- the contract of a method, d frames deep -/
def x_Con (l : Launch) (sc : Nat × (Nat → Int32)) (b0 : Nat) (D : va_G) (cO : FieldType → ClassId) (En : (Nat → Prop) → State → Heap → Prop) (MM : Nat → Option x_M) (EX : x_TC → x_TC) (d : Nat) : Prop :=
  ∀ (mj : Nat) (M : x_M), MM mj = some M → ∀ (ad : Nat → Nat) (X : List x_C) (av : List Value) (bc bs sz : Nat) (Q : x_O → x_H → Prop), ad x_SP = b0 → x_run sc MM EX d mj av (X, bc, bs) Q → vx_Met l M.nam (x_ws M) (x_rm d bc bs) (x_Pre D cO En ad X av sz) (x_Post D cO ad X sz bc Q) (x_PostX D cO ad X sz bc Q) bc bs (va_A (x_wk ad cO 0 X) sz)
/-- the calls of a method, over contracts d frames deep, in any room that is large enough -/
theorem x_calls {l : Launch} {sc : Nat × (Nat → Int32)} {b0 : Nat} {D : va_G} {cO : FieldType → ClassId} {En : (Nat → Prop) → State → Heap → Prop} {MM : Nat → Option x_M} {EX : x_TC → x_TC} (hMM : x_All MM En) {d : Nat} (ih : x_Con l sc b0 D cO En MM EX d) {M : x_M} (hTc : x_Tc MM En M) {R : Room} {s : State} {args : Array Value} (hts : ∀ w ∈ x_T, w.before args s = true) {A : Nat → Prop} (hE : En A s s.heap) (hR : d + 9 ≤ R.frames ∧ 40 * d + 240 ≤ R.locals) :
    x_CV l R s args M (x_run sc MM EX d) D cO En b0 ∧ x_CS l R s args M (x_run sc MM EX d) D cO En b0 ∧ x_CI l R s args M (x_run sc MM EX d) D cO En b0 := by
  have hGood : ∀ ws : List Cond, (∀ w ∈ ws, w ∈ x_T) → GoodIn x_T ws := fun ws h => x_T_in (fun w hw => hw) h
  have hwsT : ∀ mj2 M', MM mj2 = some M' → ∀ w ∈ x_ws M', w ∈ x_T := by
    intro mj2 M' g1 w hw
    obtain ⟨-, -, -, -, k5, k6, k7⟩ := hMM mj2 M' g1
    rcases List.mem_cons.mp hw with rfl | hw
    · exact k5
    · exact hw
  have hroom : ∀ mj2 M' bc2 bs2, MM mj2 = some M' → (x_rm d bc2 bs2).frames + 1 ≤ R.frames ∧ 8 + (M'.maxl + 11) + (x_rm d bc2 bs2).locals ≤ R.locals := by
    intro mj2 M' bc2 bs2 g1
    obtain ⟨-, -, -, -, k5, k6, k7⟩ := hMM mj2 M' g1
    refine ⟨hR.1, ?_⟩
    show 8 + (M'.maxl + 11) + (40 * d + 200) ≤ R.locals
    omega
  refine ⟨?_, ?_, ?_⟩
  · intro ix mj2 n ci bc2 bs2 hcal
    obtain ⟨M', cq, g1, g0, g2, g3, g4, g5, g6, g7, g8⟩ := hTc.1 ix mj2 n ci bc2 bs2 hcal
    obtain ⟨-, -, -, -, k5, k6, k7⟩ := hMM mj2 M' g1
    refine ⟨M'.nam, M'.cod, M'.maxl, M'.ret, x_ws M', x_rm d bc2 bs2, cq, g2, cwV n hts (hGood _ ?_) (ws' := x_T) (by simp only [x_ws, x_kw, g0]) rfl rfl ⟨g3, k6.1, k6.2, g8⟩ (hroom mj2 M' bc2 bs2 g1), fun ad2 X2 av2 Qm sz2 hs2 hr => ih mj2 M' g1 ad2 X2 av2 bc2 bs2 sz2 Qm hs2 hr⟩
    intro w hw
    rcases List.mem_append.mp hw with hw | hw
    · simp only [List.mem_cons, List.not_mem_nil, or_false] at hw
      rcases hw with rfl | rfl | rfl | rfl
      · exact g4
      · exact g5
      · exact g6
      · exact g7
    · exact hwsT mj2 M' g1 w hw
  · intro ix mj2 n k bc2 bs2 hcal hk2
    obtain ⟨M', g1, g4, g5, g6, g8⟩ := hTc.2.1 ix mj2 n k bc2 bs2 hcal hk2
    obtain ⟨-, -, -, -, k5, k6, k7⟩ := hMM mj2 M' g1
    refine ⟨M'.nam, M'.cod, M'.maxl, M'.ret, x_ws M', x_rm d bc2 bs2, ?_, fun ad2 X2 av2 Qm sz2 hs2 hno hr => x_toMet (ih mj2 M' g1 ad2 X2 av2 bc2 bs2 sz2 Qm hs2 hr) (fun E st t hq => by obtain ⟨⟨Y, ad', h1, -⟩, -⟩ := hq; exact hno E Y h1)⟩
    rcases g4 with ⟨rfl, g4⟩ | ⟨g0, host, g4⟩
    · have hin : ∀ w ∈ va_wsS M.own ix M'.nam (x_ws M'), w ∈ x_T := by
        intro w hw
        rcases List.mem_append.mp hw with hw | hw
        · simp only [List.mem_cons, List.not_mem_nil, or_false] at hw
          rcases hw with rfl | rfl | rfl
          · exact g4
          · exact g5
          · exact g6
        · exact hwsT mj2 M' g1 w hw
      cases hh : M'.hnd with
      | nil => exact Or.inl (va_cwS n hts (hGood _ hin) (ws' := x_T) (by simp only [x_ws, x_kw, hh]) rfl rfl ⟨k6.1, k6.2, g8⟩ (hroom mj2 M' bc2 bs2 g1))
      | cons h9 r9 => exact Or.inr (Or.inr ⟨h9 :: r9, vx_cwSW n hts (hGood _ hin) (ws' := x_T) (by simp only [x_ws, x_kw, hh]) rfl rfl ⟨k6.1, k6.2, g8⟩ (hroom mj2 M' bc2 bs2 g1)⟩)
    · exact Or.inr (Or.inl ⟨host, va_cnB n hts (hGood _ (hwsT mj2 M' g1)) (ws' := x_T) (by simp only [x_ws, x_kw, g0]) rfl rfl (g4 A s _ hE) (hts _ g6) ⟨k6.1, k6.2, g8⟩ (hroom mj2 M' bc2 bs2 g1), hts _ g5, trivial⟩)
  · intro ix mj2 n bc2 bs2 hspc
    obtain ⟨M', g1, g0, g2, g3, g4, g5, g6, g8⟩ := hTc.2.2 ix mj2 n bc2 bs2 hspc
    obtain ⟨-, -, -, -, k5, k6, k7⟩ := hMM mj2 M' g1
    exact ⟨M'.nam, M'.cod, M'.maxl, x_ws M', x_rm d bc2 bs2, cwI n hts (hGood _ (hwsT mj2 M' g1)) (ws' := x_T) (by simp only [x_ws, x_kw, g0, g2]) rfl rfl (hts _ g6) (hts _ g4) (hts _ g5) g3 ⟨k6.1, k6.2, g8⟩ (hroom mj2 M' bc2 bs2 g1), fun ad2 X2 av2 Qm sz2 hs2 hno hr => x_toMet (ih mj2 M' g1 ad2 X2 av2 bc2 bs2 sz2 Qm hs2 hr) (fun E st t hq => by obtain ⟨⟨Y, ad', h1, -⟩, -⟩ := hq; exact hno E Y h1)⟩
set_option maxHeartbeats 1000000 in
theorem x_met (l : Launch) {sc : Nat × (Nat → Int32)} {b0 : Nat} {D : va_G} {cO : FieldType → ClassId} {En : (Nat → Prop) → State → Heap → Prop} (hEn : x_EnOK En) (hScr : ∀ A U H, En A U H → va_X b0 sc.1 sc.2 U H ∧ b0 < H.size ∧ ¬ A b0) (hG : x_Gw) {MM : Nat → Option x_M} (hMM : x_All MM En) (hHd : ∀ mj M, MM mj = some M → x_HandOK l En M) (hTh : ∀ mj M, MM mj = some M → (∀ ix, M.thr ix = none) ∨ (M.hnd = [] ∧ x_ThrOK l En M) ∨ M.tab 0 = none) {EX : x_TC → x_TC} (hX : ∀ d, x_Con l sc b0 D cO En MM EX d → ∀ (mj : Nat) (M : x_M), MM mj = some M → M.tab 0 = none → ∀ (ad : Nat → Nat) (X : List x_C) (av : List Value) (bc bs sz : Nat) (Q : x_O → x_H → Prop), ad x_SP = b0 → EX (x_run sc MM EX d) mj av (X, bc, bs) Q → vx_Met l M.nam (x_ws M) (x_rm (d + 1) bc bs) (x_Pre D cO En ad X av sz) (x_Post D cO ad X sz bc Q) (x_PostX D cO ad X sz bc Q) bc bs (va_A (x_wk ad cO 0 X) sz)) :
    ∀ d, x_Con l sc b0 D cO En MM EX d := by
  intro d
  induction d with
  | zero => intro mj M hM ad X av bc bs sz Q _ h; exact h.elim
  | succ d ih =>
    intro mj M hM ad X av bc bs sz Q hsp h
    cases ht0 : M.tab 0 with
    | none =>
      unfold x_run at h
      rw [hM] at h
      dsimp only at h
      rw [ht0] at h
      exact hX d ih mj M hM ht0 ad X av bc bs sz Q hsp h
    | some i0 =>
    unfold x_run at h
    rw [hM] at h
    dsimp only at h
    rw [ht0] at h
    obtain ⟨hal, hac, hW⟩ := h
    obtain ⟨hTb, hTc, hpn, hcl, hcd, hmh, hml20⟩ := hMM mj M hM
    have body : ∀ p e s m args below meth c s₁, BodyLoose p l M.nam (headSpec (x_ws M) (x_rm (d + 1) bc bs)) M.cod M.maxl M.ret e s m args below meth c s₁ → c.maxLocals = M.maxl → (M.hnd = [] → ∀ x ∈ c.exceptionTable.toList, False) → x_Pre D cO En ad X av sz args s →
        W p l e (headSpec (x_ws M) (x_rm (d + 1) bc bs)).room s m args below meth c s.heap [] 0 0 (vx_MQ below (x_Post D cO ad X sz bc Q) (x_PostX D cO ad X sz bc Q) args s bc bs (va_A (x_wk ad cO 0 X) sz)) (entryFrame m args M.maxl) := by
      intro p e s m args below meth c s₁ B hml hnt hv
      obtain ⟨rfl, hsz, hP, hK, hD0, hE⟩ := hv
      have hts0 : ∀ w ∈ x_ws M, w.before (av.map (x_rv ad)).toArray s = true := atoms_spec (ws := x_ws M) B.pre
      have hts : ∀ w ∈ x_T, w.before (av.map (x_rv ad)).toArray s = true := fun w hw => hts0 w (List.mem_cons_of_mem _ hw)
      have hown : s.vm.findClass M.own = some m.cls := by rw [← hcl]; exact findClass_of_methodNamed B.named
      subst hsz
      have hD := hD0.self (sz := s.heap.size)
      generalize hAe : va_A (x_wk ad cO 0 X) s.heap.size = A at hD hE ⊢
      have hA : ∀ q : Nat, s.heap.size ≤ q → A q := fun q h => by rw [← hAe]; exact Or.inr h
      have hS : va_S A s.heap s.heap [] := va_S.rf
      obtain ⟨ls, hent, hlv⟩ := x_entry ad M m hac hal
      rw [hent]
      have hnm : meth.name = M.nam.name := (name_of_methodNamed B.named B.method).1
      have hx : x_Ctx p (headSpec (x_ws M) (x_rm (d + 1) bc bs)).room s m (av.map (x_rv ad)).toArray meth c M D cO En A bc bs := ⟨B.exec, B.bytes, hml, hown, hts, hK, hA, hE, Nat.le_refl _, Nat.le_refl _, hnm, by show 9 ≤ d + 1 + 8; omega, by show 240 ≤ 40 * (d + 1) + 200; omega⟩
      have hcalls := x_calls hMM ih hTc (R := (headSpec (x_ws M) (x_rm (d + 1) bc bs)).room) hts hE ⟨by show d + 9 ≤ d + 1 + 8; omega, by show 40 * d + 240 ≤ 40 * (d + 1) + 200; omega⟩
      have hlocks : meth.locks = false := B.notSynchronized
      have hZ : x_Ends p l e (headSpec (x_ws M) (x_rm (d + 1) bc bs)).room s m (av.map (x_rv ad)).toArray below meth c (vx_MQ below (x_Post D cO ad X s.heap.size bc Q) (x_PostX D cO ad X s.heap.size bc Q) (av.map (x_rv ad)).toArray s bc bs A) M Q D cO A X ad bc bs := by
        intro v pc L Y hQ hv ad' H locs cells slots ls' hR
        obtain ⟨h1, h2, h3, h4, h5, h6, h7⟩ := hR
        have hpost : ∀ t : State, t.heap = H → s.WarmedH t.vm → x_Post D cO ad X s.heap.size bc Q (av.map (x_rv ad)).toArray s (.returned (v.map (x_rv ad'))) t := by
          intro t ht hWt
          refine ⟨⟨v, Y, ad', rfl, hQ, h7, ?_, va_K.moved hWt.alike hK, ?_⟩, ?_⟩
          · rw [ht]; exact h3
          · rw [hAe]; exact h4
          · rw [hAe]; exact h5.F ht
        have hr := B.returns
        refine W.widen (k := bc) (n := bs) (by omega) (by omega) (vx_ret ?_)
        rcases hv with ⟨x, rfl, hd, hx⟩ | ⟨x, rfl, hd, hx⟩ | ⟨rfl, hd, hx⟩
        · obtain ⟨ty, hty, hx⟩ := hx
          exact W.zret B.exec B.bytes (hr.trans hty) hx hpost h5.2.2 hd hlocks
        · exact W.lret B.exec B.bytes (hr.trans hx) hpost h5.2.2 hd hlocks
        · exact W.vret B.exec B.bytes (hr.trans hx) hpost h5.2.2 hd hlocks
      have hHX := hHd mj M hM p e (headSpec (x_ws M) (x_rm (d + 1) bc bs)).room s m (av.map (x_rv ad)).toArray below meth c (vx_MQ below (x_Post D cO ad X s.heap.size bc Q) (x_PostX D cO ad X s.heap.size bc Q) (av.map (x_rv ad)).toArray s bc bs A) ⟨A, hE⟩ B.exec hown hts hnt (by
          have h9 := hts0 _ List.mem_cons_self
          unfold x_kw at h9
          split at h9
          · exact Or.inr (by assumption)
          · rename_i h8 r8 he
            rw [he]; exact Or.inl h9) (fun hh h9 => vx_table (x := M.nam) B h9)
      have hZX : x_EndX p l e (headSpec (x_ws M) (x_rm (d + 1) bc bs)).room s m (av.map (x_rv ad)).toArray below meth c (vx_MQ below (x_Post D cO ad X s.heap.size bc Q) (x_PostX D cO ad X s.heap.size bc Q) (av.map (x_rv ad)).toArray s bc bs A) M Q D cO A X ad bc bs := by
        intro E pc L st Y hex hQ ad' H locs cells slots ls' q ce hR c1 c2 c3
        obtain ⟨h1, h2, h3, h4, h5, h6, h7⟩ := hR
        refine vx_out (hHX.2 pc E hex) hlocks c1 c2 c3 (fun t ht hWt => ⟨⟨Y, ad', hQ, h7, ?_, va_K.moved hWt hK, ?_⟩, ?_⟩) h5.2.2 (by omega) (by omega)
        · rw [ht]; exact h3
        · rw [hAe]; exact h4
        · rw [hAe]; exact h5.F ht
      have hThr : x_Thr p l e (headSpec (x_ws M) (x_rm (d + 1) bc bs)).room s m (av.map (x_rv ad)).toArray below meth c (vx_MQ below (x_Post D cO ad X s.heap.size bc Q) (x_PostX D cO ad X s.heap.size bc Q) (av.map (x_rv ad)).toArray s bc bs A) M Q D cO A X ad bc bs := by
        rcases hTh mj M hM with h9 | ⟨h8, h9⟩ | h9
        · intro pc ix len tg E L Y _ h3
          rw [h9 ix] at h3
          cases h3
        · exact h9 D cO p e _ s m _ below meth c ad X A bc bs Q hAe hx hlocks (hnt h8)
        · rw [ht0] at h9
          cases h9
      have hPP := hW (x_P p l e (headSpec (x_ws M) (x_rm (d + 1) bc bs)).room s m (av.map (x_rv ad)).toArray below meth c (vx_MQ below (x_Post D cO ad X s.heap.size bc Q) (x_PostX D cO ad X s.heap.size bc Q) (av.map (x_rv ad)).toArray s bc bs A) D cO A M.maxl X ad bc bs) (x_snd hEn hG hTb hx hsp (hScr A s _ hE) hcalls.1 hcalls.2.1 hcalls.2.2 hZ hZX hHX.1 hThr)
      exact hPP ad s.heap [] 0 0 ls ⟨by show 0 + bc ≤ bc; omega, by show 0 + bs ≤ bs; omega, hP, hD, hS, hlv, ⟨Nat.le_refl _, ⟨fun _ _ => rfl, rfl⟩, fun _ => rfl⟩⟩
    cases hh : M.hnd with
    | nil =>
      refine vx_ofW (cc := M.cod) (maxL := M.maxl) (ret := M.ret) (ws' := x_T) hpn (by simp only [x_ws, x_kw, hh]) ?_
      intro p e s m args below meth c s₁ B hml hnt hv
      exact body p e s m args below meth c s₁ B hml (fun _ => hnt) hv
    | cons h9 r9 =>
      refine vx_ofWH (cc := M.cod) (maxL := M.maxl) (ret := M.ret) (hh := h9 :: r9) (ws' := x_T) hpn (by simp only [x_ws, x_kw, hh]) ?_
      intro p e s m args below meth c s₁ B hml hv
      exact body p e s m args below meth c s₁ B hml (fun h => by rw [hh] at h; cases h) hv
