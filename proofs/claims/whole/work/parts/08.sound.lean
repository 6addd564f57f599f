/-! ===== a step of the small machine is a step of the great one ===== -/
section XT
variable {p : Program} {l : Launch} {e : Env} {R : Room} {s : State} {m : MethodId} {args : Array Value} {below : List Frame} {meth : Method} {c : Code} {QQ : State → Prop}
variable {M : x_M} {C : Nat → List Value → x_H → (x_O → x_H → Prop) → Prop} {Q : x_O → x_H → Prop} {D : va_G} {cO : FieldType → ClassId} {En : (Nat → Prop) → State → Heap → Prop} {A : Nat → Prop} {X0 : List x_C} {ad0 : Nat → Nat} {mcT msT : Nat}
/-- a method's ends -/
def x_Ends (p : Program) (l : Launch) (e : Env) (R : Room) (s : State) (m : MethodId) (args : Array Value) (below : List Frame) (meth : Method) (c : Code) (QQ : State → Prop) (M : x_M) (Q : x_O → x_H → Prop) (D : va_G) (cO : FieldType → ClassId) (A : Nat → Prop) (X0 : List x_C) (ad0 : Nat → Nat) (mcT msT : Nat) : Prop :=
  ∀ (v : Option Value) (pc : Nat) (L : x_L) (X : x_H), Q (.inl v) X →
    ((∃ x, v = some (.int x) ∧ decode M.cod pc = .ok (.ireturn, 1) ∧ ∃ ty, M.ret = some ty ∧ narrow ty (.int x) = .int x) ∨ (∃ x, v = some (.long x) ∧ decode M.cod pc = .ok (.lreturn, 1) ∧ M.ret = some .long) ∨ (v = none ∧ decode M.cod pc = .ok (.return_, 1) ∧ M.ret = none)) →
    x_P p l e R s m args below meth c QQ D cO A M.maxl X0 ad0 mcT msT pc L v.toList X
/-- nothing catches it here -/
def x_EndX (p : Program) (l : Launch) (e : Env) (R : Room) (s : State) (m : MethodId) (args : Array Value) (below : List Frame) (meth : Method) (c : Code) (QQ : State → Prop) (M : x_M) (Q : x_O → x_H → Prop) (D : va_G) (cO : FieldType → ClassId) (A : Nat → Prop) (X0 : List x_C) (ad0 : Nat → Nat) (mcT msT : Nat) : Prop :=
  ∀ (E : String) (pc : Nat) (L : x_L) (st : List Value) (X : x_H), M.exc pc E = some none → Q (.inr E) X → x_PX p l e R s m args below meth c QQ D cO A M.maxl X0 ad0 mcT msT E pc L st X
/-- caught: the handler's first instruction stores it -/
def x_Hnd (p : Program) (l : Launch) (e : Env) (R : Room) (s : State) (m : MethodId) (args : Array Value) (below : List Frame) (meth : Method) (c : Code) (QQ : State → Prop) (M : x_M) : Prop :=
  ∀ (E : String) (pc h k : Nat), M.exc pc E = some (some (h, k)) → ∃ hp, ((decode M.cod hp = .ok (.astore k, 2) ∧ h = hp + 2) ∨ ∃ kk : Fin 4, decode M.cod hp = .ok (.astore_n kk, 1) ∧ (kk : Nat) = k ∧ h = hp + 1) ∧
    ∀ (H : Heap) (locs : List Loc) (cells slots : Nat) (ls : Array Slot) (rest : List Value) (q : Addr) (ce : Cell), H[q]? = some ce → ce.vm = .none → s.vm.findClass E = some ce.cls → W p l e R s m args below meth c H locs cells slots QQ (F0 m hp ls [.ref q]) → vx_W p l e R s m args below meth c H locs cells slots QQ (F0 m pc ls rest) q
/-- it throws -/
def x_Thr (p : Program) (l : Launch) (e : Env) (R : Room) (s : State) (m : MethodId) (args : Array Value) (below : List Frame) (meth : Method) (c : Code) (QQ : State → Prop) (M : x_M) (Q : x_O → x_H → Prop) (D : va_G) (cO : FieldType → ClassId) (A : Nat → Prop) (X0 : List x_C) (ad0 : Nat → Nat) (mcT msT : Nat) : Prop :=
  ∀ (pc ix len tg : Nat) (E : String) (L : x_L) (X : x_H), M.tab pc = some (.new ix, len, tg) → M.thr ix = some E → 1 ≤ X.2.1 → 6 ≤ X.2.2 → Q (.inr E) (X.1, X.2.1 - 1, X.2.2 - 6) → x_P p l e R s m args below meth c QQ D cO A M.maxl X0 ad0 mcT msT pc L [] X
theorem x_setR {nL : Nat} {L : x_L} {X : x_H} {ad : Nat → Nat} {H H1 : Heap} {locs locs1 : List Loc} {cells slots : Nat} {ls : Array Slot} {a : Nat} {b : x_C}
    (hR : x_R D cO A s nL X0 ad0 mcT msT L X ad H locs cells slots ls) (hP : va_P D vwCl ((x_wk ad cO 0 X.1).set a (ad a, x_cz ad cO b)) H1) (hD : va_D A ((x_wk ad cO 0 X.1).set a (ad a, x_cz ad cO b))) (hS : va_S A s.heap H1 locs1) :
    x_R D cO A s nL X0 ad0 mcT msT L (X.1.set a b, X.2) ad H1 locs1 cells slots ls := by
  obtain ⟨h1, h2, -, -, -, h6, h7⟩ := hR
  refine ⟨h1, h2, ?_, ?_, hS, h6, ?_⟩
  · show va_P D vwCl (x_wk ad cO 0 (X.1.set a b)) H1
    rw [x_set0]; exact hP
  · show va_D A (x_wk ad cO 0 (X.1.set a b))
    rw [x_set0]; exact hD
  · show x_ext X0 mcT ad0 (X.1.set a b) ad
    exact ⟨by rw [List.length_set]; exact h7.1, h7.2.1, h7.2.2⟩
theorem x_locR {nL : Nat} {L L' : x_L} {X : x_H} {ad : Nat → Nat} {H : Heap} {locs : List Loc} {cells slots : Nat} {ls ls' : Array Slot}
    (hR : x_R D cO A s nL X0 ad0 mcT msT L X ad H locs cells slots ls) (h : x_lv ad L' ls' nL) : x_R D cO A s nL X0 ad0 mcT msT L' X ad H locs cells slots ls' := by
  obtain ⟨h1, h2, h3, h4, h5, -, h7⟩ := hR
  exact ⟨h1, h2, h3, h4, h5, h, h7⟩
theorem x_blind (hEn : x_EnOK En) {ad : Nat → Nat} {X : List x_C} {av : List Value} {sz : Nat} : FrameBlind (x_Pre D cO En ad X av sz) := by
  intro a U g mk q
  obtain ⟨q0, q1, qP, qK, qD, qE⟩ := q
  exact ⟨q0, q1, qP, va_K.moved (u := U) (U := U.calling g mk a) (Vm.Alike.refl U.vm) qK, qD, hEn.1 _ U _ _ rfl qE⟩
theorem x_preAt (hEn : x_EnOK En) {nL : Nat} {L : x_L} {X : x_H} {ad : Nat → Nat} {H : Heap} {locs : List Loc} {cells slots : Nat} {ls : Array Slot} {av : List Value}
    (hX : x_Ctx p R s m args meth c M D cO En A mcT msT) (hR : x_R D cO A s nL X0 ad0 mcT msT L X ad H locs cells slots ls) : ∀ U : State, U.heap = H → s.WarmedH U.vm → x_Pre D cO En ad X.1 av H.size (av.map (x_rv ad)).toArray U := by
  obtain ⟨-, -, hP, hD, hS, -, -⟩ := hR
  obtain ⟨-, -, -, -, -, hK, hA, hE, -⟩ := hX
  intro U hU hW
  refine ⟨rfl, by rw [hU], by rw [hU]; exact hP, va_K.moved hW.alike hK, hD.weaken (fun _ _ _ _ => trivial), ?_⟩
  rw [hU]
  refine hEn.2.1 _ s _ _ hW (hEn.2.2.2 A _ _ _ (fun q hq => ?_) (hEn.2.2.1 A _ _ _ hS.1 hS.2.1 hE))
  rcases hq with ⟨k, e9, hk⟩ | hq
  · exact hD.2 k _ hk
  · exact hA q (Nat.le_trans hS.1 hq)
theorem x_rcv.inv {v : Option Value} {X : x_H} {ci : Nat} {K : Prop} (h : x_rcv v X ci K) : (∃ a fs, v = some (.ref a) ∧ X.1[a]? = some (.inr (ci, fs))) ∧ K := by
  unfold x_rcv at h
  split at h
  · obtain ⟨cj, fs, h1, h2⟩ := x_ob.inv h
    obtain ⟨rfl, h3⟩ := x_if.inv h2
    exact ⟨⟨_, fs, rfl, h1⟩, h3⟩
  · exact h.elim
theorem x_split {st : List Value} {n : Nat} {w : Value} (h : st[n]? = some w) : st = st.take n ++ w :: st.drop (n + 1) ∧ (st.take (n + 1)).reverse = w :: (st.take n).reverse := by
  obtain ⟨hl, he⟩ := List.getElem?_eq_some_iff.mp h
  have h1 : st.take (n + 1) = st.take n ++ [w] := by
    rw [List.take_succ, h]; rfl
  refine ⟨?_, by rw [h1, List.reverse_append]; rfl⟩
  conv => lhs; rw [← List.take_append_drop (n + 1) st, h1, List.append_assoc]
  rfl
theorem x_cats (ad : Nat → Nat) (st : List Value) : ((st.map (x_rv ad)).map fun v => v.category) = st.map fun v => v.category := by
  rw [List.map_map]
  exact List.map_congr_left (fun v _ => x_rv_cat ad v)
theorem x_bokle {bc bs a b : Nat} {p q : Prop} (h : p ∧ ((bc = 0 ∧ bs = 0) ∨ (bc ≤ a ∧ bs ≤ b ∧ q))) : bc ≤ a ∧ bs ≤ b := by
  rcases h.2 with ⟨h1, h2⟩ | ⟨h1, h2, -⟩
  · exact ⟨by omega, by omega⟩
  · exact ⟨h1, h2⟩
theorem x_ext_new {X0 X : List x_C} {bc : Nat} {ad0 ad : Nat → Nat} {q : Nat} {c9 : x_C} (h : x_ext X0 bc ad0 X ad) (hl : X.length < x_SP) (hb : bc ≠ 0) : x_ext X0 bc ad0 (X ++ [c9]) (x_adn ad X.length q) := by
  have hag := x_adn_agr ad (q := q) hl
  refine ⟨by rw [List.length_append]; exact Nat.le_trans h.1 (Nat.le_add_right _ _), ⟨fun k hk => (hag.1 k (Nat.lt_of_lt_of_le hk h.1)).trans (h.2.1.1 k hk), hag.2.trans h.2.1.2⟩, fun z => absurd z hb⟩
set_option maxHeartbeats 4000000 in
theorem x_snd {sc : Nat × (Nat → Int32)} {b0 : Nat} (hEn : x_EnOK En) (hG : x_Gw) (hT : x_Tb M) (hX : x_Ctx p R s m args meth c M D cO En A mcT msT) (hb0 : ad0 x_SP = b0) (hsc : va_X b0 sc.1 sc.2 s s.heap ∧ b0 < s.heap.size ∧ ¬ A b0) (hV : x_CV l R s args M C D cO En b0) (hSt : x_CS l R s args M C D cO En b0) (hI : x_CI l R s args M C D cO En b0) (hZ : x_Ends p l e R s m args below meth c QQ M Q D cO A X0 ad0 mcT msT) (hZX : x_EndX p l e R s m args below meth c QQ M Q D cO A X0 ad0 mcT msT) (hH : x_Hnd p l e R s m args below meth c QQ M) (hThr : x_Thr p l e R s m args below meth c QQ M Q D cO A X0 ad0 mcT msT) :
    ∀ pc L st X, x_st sc M C Q (x_P p l e R s m args below meth c QQ D cO A M.maxl X0 ad0 mcT msT) pc L st X → x_P p l e R s m args below meth c QQ D cO A M.maxl X0 ad0 mcT msT pc L st X := by
  intro pc L st X h ad H locs cells slots ls hR
  have hX0 := hX
  obtain ⟨hx, hb, hml, hown, hts, hK, hA, hE, hmc, hms, hnm, hfr, hlc⟩ := hX
  have hR0 := hR
  obtain ⟨hc, hs, hP, hD, hS, hl, hx0⟩ := hR
  unfold x_st at h
  split at h
  case h_2 => exact h.elim
  case h_1 i len tg htab =>
  obtain ⟨hd, hj⟩ := hT.1 pc i len tg htab
  have hln : L.length = M.maxl := hl.1
  have hsz : ls.size = M.maxl := hl.2.1.1
  have hsp : ad x_SP = b0 := hx0.2.1.2.trans hb0
  cases i
  case iconst n => exact lv_iconst hx hb hd rfl (h ad H locs cells slots ls hR0)
  case bipush n => exact lv_bipush hx hb hd rfl (h ad H locs cells slots ls hR0)
  case sipush n => exact lv_sipush hx hb hd rfl (h ad H locs cells slots ls hR0)
  case lconst n => exact lv_lconst hx hb hd rfl (h ad H locs cells slots ls hR0)
  case iload k =>
    obtain ⟨x, h1, h⟩ := x_ldi.inv h
    exact lv_iload hx hb hd (hl.at h1) (h ad H locs cells slots ls hR0)
  case iload_n k =>
    obtain ⟨x, h1, h⟩ := x_ldi.inv h
    exact lv_iload_n hx hb hd rfl (hl.at h1) (h ad H locs cells slots ls hR0)
  case aload k =>
    obtain ⟨x, h1, h⟩ := x_lda.inv h
    exact lv_aload hx hb hd (hl.at h1) (h ad H locs cells slots ls hR0)
  case aload_n k =>
    obtain ⟨x, h1, h⟩ := x_lda.inv h
    exact lv_aload_n hx hb hd rfl (hl.at h1) (h ad H locs cells slots ls hR0)
  case istore k =>
    obtain ⟨h1, h⟩ := x_if.inv h
    obtain ⟨x, r, rfl, h⟩ := x_s1.inv h
    exact lv_istore hx hb hd hl.2.1 (by omega) rfl (fun ls' h' => h ad H locs cells slots ls' (x_locR hR0 (hl.set rfl h')))
  case istore_n k =>
    obtain ⟨h1, h⟩ := x_if.inv h
    obtain ⟨x, r, rfl, h⟩ := x_s1.inv h
    exact lv_istore_n hx hb hd rfl hl.2.1 (by omega) rfl (fun ls' h' => h ad H locs cells slots ls' (x_locR hR0 (hl.set rfl h')))
  case astore k =>
    obtain ⟨h1, h⟩ := x_if.inv h
    obtain ⟨x, r, rfl, h⟩ := x_sr.inv h
    exact lv_astore hx hb hd hl.2.1 (by omega) rfl (fun ls' h' => h ad H locs cells slots ls' (x_locR hR0 (hl.set (v := .ref x) rfl h')))
  case astore_n k =>
    obtain ⟨h1, h⟩ := x_if.inv h
    obtain ⟨x, r, rfl, h⟩ := x_sr.inv h
    exact lv_astore_n hx hb hd rfl hl.2.1 (by omega) rfl (fun ls' h' => h ad H locs cells slots ls' (x_locR hR0 (hl.set (v := .ref x) rfl h')))
  case iinc k n =>
    obtain ⟨h1, h⟩ := x_if.inv h
    obtain ⟨x, h2, h⟩ := x_ldi.inv h
    obtain ⟨k9, hk9⟩ := List.getElem?_of_mem ((x_ll_mem ad 0 L (k, x_rv ad (.int x))).mpr ⟨k, _, h2, by rw [Nat.zero_add]⟩)
    exact lv_iinc hx hb hd hl.2.1 hk9 rfl (by omega) rfl (fun ls' h' => h ad H locs cells slots ls' (x_locR hR0 (hl.set (v := .int _) rfl h')))
  case iadd =>
    obtain ⟨x, y, r, rfl, h⟩ := x_s2.inv h
    exact lv_iadd hx hb hd (h ad H locs cells slots ls hR0)
  case isub =>
    obtain ⟨x, y, r, rfl, h⟩ := x_s2.inv h
    exact lv_isub hx hb hd (h ad H locs cells slots ls hR0)
  case imul =>
    obtain ⟨x, y, r, rfl, h⟩ := x_s2.inv h
    exact lv_imul hx hb hd (h ad H locs cells slots ls hR0)
  case iand =>
    obtain ⟨x, y, r, rfl, h⟩ := x_s2.inv h
    exact lv_iand hx hb hd (h ad H locs cells slots ls hR0)
  case ior =>
    obtain ⟨x, y, r, rfl, h⟩ := x_s2.inv h
    exact lv_ior hx hb hd (h ad H locs cells slots ls hR0)
  case ixor =>
    obtain ⟨x, y, r, rfl, h⟩ := x_s2.inv h
    exact lv_ixor hx hb hd (h ad H locs cells slots ls hR0)
  case ishl =>
    obtain ⟨x, y, r, rfl, h⟩ := x_s2.inv h
    exact lv_ishl hx hb hd (h ad H locs cells slots ls hR0)
  case ishr =>
    obtain ⟨x, y, r, rfl, h⟩ := x_s2.inv h
    exact lv_ishr hx hb hd (h ad H locs cells slots ls hR0)
  case iushr =>
    obtain ⟨x, y, r, rfl, h⟩ := x_s2.inv h
    exact lv_iushr hx hb hd rfl (h ad H locs cells slots ls hR0)
  case idiv =>
    obtain ⟨x, y, r, rfl, hn, h⟩ := x_s2.inv h
    exact lv_idiv hx hb hd hn (h ad H locs cells slots ls hR0)
  case irem =>
    obtain ⟨x, y, r, rfl, hn, h⟩ := x_s2.inv h
    exact lv_irem hx hb hd hn (h ad H locs cells slots ls hR0)
  case dup =>
    simp only [x_go] at h
    split at h
    · obtain ⟨h1, h2⟩ := x_if.inv h
      exact lv_dup hx hb hd (by rw [x_rv_cat]; exact h1) (h2 ad H locs cells slots ls hR0)
    · exact h.elim
  case dup2 =>
    obtain ⟨a, x, r, rfl, h⟩ := x_sir.inv h
    exact lv_dup2_11 hx hb hd rfl rfl (h ad H locs cells slots ls hR0)
  case i2l =>
    obtain ⟨x, r, rfl, h⟩ := x_s1.inv h
    exact lv_i2l hx hb hd rfl (h ad H locs cells slots ls hR0)
  case l2i =>
    obtain ⟨x, r, rfl, h⟩ := x_sl1.inv h
    exact lv_l2i hx hb hd rfl (h ad H locs cells slots ls hR0)
  case i2c =>
    obtain ⟨x, r, rfl, h⟩ := x_s1.inv h
    exact lv_i2c hx hb hd rfl (h ad H locs cells slots ls hR0)
  case lshr =>
    obtain ⟨x, y, r, rfl, h⟩ := x_sil.inv h
    exact lv_lshr hx hb hd rfl (h ad H locs cells slots ls hR0)
  case lcmp =>
    obtain ⟨x, y, r, rfl, h⟩ := x_sl2.inv h
    exact W.lcmp hx hb hd (h ad H locs cells slots ls hR0)
  case goto o => exact lv_goto hx hb hd hj (h ad H locs cells slots ls hR0)
  case ifCond c9 o =>
    obtain ⟨x, r, rfl, h1, h2⟩ := x_s1.inv h
    cases c9
    · exact lv_if_eq hx hb hd hj (fun q => h1 q ad H locs cells slots ls hR0) (fun q => h2 q ad H locs cells slots ls hR0)
    · exact lv_if_ne hx hb hd hj (fun q => h1 q ad H locs cells slots ls hR0) (fun q => h2 (fun z => z q) ad H locs cells slots ls hR0)
    · exact lv_if_lt hx hb hd hj (fun q => h1 q ad H locs cells slots ls hR0) (fun q => h2 q ad H locs cells slots ls hR0)
    · exact lv_if_ge hx hb hd hj (fun q => h1 q ad H locs cells slots ls hR0) (fun q => h2 q ad H locs cells slots ls hR0)
    · exact lv_if_gt hx hb hd hj (fun q => h1 q ad H locs cells slots ls hR0) (fun q => h2 q ad H locs cells slots ls hR0)
    · exact lv_if_le hx hb hd hj (fun q => h1 q ad H locs cells slots ls hR0) (fun q => h2 q ad H locs cells slots ls hR0)
  case if_icmp c9 o =>
    obtain ⟨x, y, r, rfl, h1, h2⟩ := x_s2.inv h
    cases c9
    · exact lv_icmp_eq hx hb hd hj (fun q => h1 q ad H locs cells slots ls hR0) (fun q => h2 q ad H locs cells slots ls hR0)
    · exact lv_icmp_ne hx hb hd hj (fun q => h1 q ad H locs cells slots ls hR0) (fun q => h2 (fun z => z q) ad H locs cells slots ls hR0)
    · exact lv_icmp_lt hx hb hd hj (fun q => h1 q ad H locs cells slots ls hR0) (fun q => h2 q ad H locs cells slots ls hR0)
    · exact lv_icmp_ge hx hb hd hj (fun q => h1 q ad H locs cells slots ls hR0) (fun q => h2 q ad H locs cells slots ls hR0)
    · exact lv_icmp_gt hx hb hd hj (fun q => h1 q ad H locs cells slots ls hR0) (fun q => h2 q ad H locs cells slots ls hR0)
    · exact lv_icmp_le hx hb hd hj (fun q => h1 q ad H locs cells slots ls hR0) (fun q => h2 q ad H locs cells slots ls hR0)
  case ldc ix =>
    simp only [x_go] at h
    split at h
    · rename_i v hv
      exact lv_ldc hx hb hown (hts _ (hT.2.2.1 ix v hv)) hd (h ad H locs cells slots ls hR0)
    · exact h.elim
  case ldc_w ix =>
    simp only [x_go] at h
    split at h
    · rename_i v hv
      exact lv_ldcw hx hb hown (hts _ (hT.2.2.1 ix v hv)) hd (h ad H locs cells slots ls hR0)
    · exact h.elim
  case ldc2_w ix =>
    simp only [x_go] at h
    split at h
    · rename_i v hv
      exact lv_ldc2 hx hb hown (hts _ (hT.2.2.2.1 ix v hv)) hd (h ad H locs cells slots ls hR0)
    · exact h.elim
  case arraylength =>
    obtain ⟨a, r, rfl, hu⟩ := x_sr.inv h
    by_cases hsp9 : a = x_SP
    · rw [if_pos hsp9] at hu
      subst hsp9
      exact va_slen (b := ad x_SP) hx hb (hsp ▸ hsc.1) (hsp ▸ hsc.2.1) (hsp ▸ hsc.2.2) hS hd (hu ad H locs cells slots ls hR0)
    rw [if_neg hsp9] at hu
    obtain ⟨ty, n, f, ha, hu2⟩ := x_ai.inv hu
    obtain ⟨hty, hw⟩ := x_if.inv hu2
    rcases hty with rfl | rfl
    · exact va_alen hx hb hK hP a 0 (x_at0 ha) rfl rfl hd (hw ad H locs cells slots ls hR0)
    · exact va_alen hx hb hK hP a 1 (x_at0 ha) rfl rfl hd (hw ad H locs cells slots ls hR0)
  case iaload =>
    obtain ⟨a, j, r, rfl, hu⟩ := x_sir.inv h
    by_cases hsp9 : a = x_SP
    · rw [if_pos hsp9] at hu
      subst hsp9
      exact va_sld (b := ad x_SP) hx hb (hsp ▸ hsc.1) (hsp ▸ hsc.2.1) (hsp ▸ hsc.2.2) hS hu.1 hd (hu.2 ad H locs cells slots ls hR0)
    rw [if_neg hsp9] at hu
    obtain ⟨ty, n, f, ha, hu2⟩ := x_ai.inv hu
    obtain ⟨rfl, hi, hw⟩ := x_if.inv hu2
    exact va_iald hx hb hK hP a 0 (x_at0 ha) rfl hi hd (hw ad H locs cells slots ls hR0)
  case baload =>
    obtain ⟨a, j, r, rfl, h⟩ := x_sir.inv h
    obtain ⟨ty, n, f, ha, hu2⟩ := x_ai.inv h
    obtain ⟨rfl, hi, h⟩ := x_if.inv hu2
    exact va_zald hx hb hK hP a 1 (x_at0 ha) rfl hi hd (h ad H locs cells slots ls hR0)
  case laload =>
    obtain ⟨a, j, r, rfl, h⟩ := x_sir.inv h
    obtain ⟨n, f, ha, hi, h⟩ := x_al.inv h
    exact va_lald hx hb hK hP a 2 (x_at0 ha) rfl hi hd (h ad H locs cells slots ls hR0)
  case iastore =>
    obtain ⟨a, j, v, r, rfl, h⟩ := x_siir.inv h
    obtain ⟨ty, n, f, ha, hu2⟩ := x_ai.inv h
    obtain ⟨rfl, hi, h⟩ := x_if.inv hu2
    exact va_iast hx hb hK hP hD hS a 0 (x_at0 ha) rfl hi hd (fun H1 locs1 hP1 hD1 hS1 => h ad H1 locs1 cells slots ls (x_setR hR0 hP1 hD1 hS1))
  case bastore =>
    obtain ⟨a, j, v, r, rfl, h⟩ := x_siir.inv h
    obtain ⟨ty, n, f, ha, hu2⟩ := x_ai.inv h
    obtain ⟨rfl, hi, h⟩ := x_if.inv hu2
    exact va_zast hx hb hK hP hD hS a 1 (x_at0 ha) rfl hi hd (fun H1 locs1 hP1 hD1 hS1 => h ad H1 locs1 cells slots ls (x_setR hR0 hP1 hD1 hS1))
  case lastore =>
    obtain ⟨a, j, v, r, rfl, h⟩ := x_slir.inv h
    obtain ⟨n, f, ha, hi, h⟩ := x_al.inv h
    exact va_last hx hb hK hP hD hS a 2 (x_at0 ha) rfl hi hd (fun H1 locs1 hP1 hD1 hS1 => h ad H1 locs1 cells slots ls (x_setR hR0 hP1 hD1 hS1))
  case getfield ix =>
    simp only [x_go] at h
    split at h
    · rename_i ci k ty w9 hf
      obtain ⟨a, r, rfl, hu⟩ := x_sr.inv h
      obtain ⟨cj, fs, ha, hu2⟩ := x_ob.inv hu
      obtain ⟨rfl, hw⟩ := x_if.inv hu2
      split at hw
      · rename_i v hv
        obtain ⟨C9, T9, N9, ty0, g1, g2, g3, g4, -⟩ := hT.2.1 ix _ k ty w9 hf
        exact va_get hx hb hts g3 hown hK hP a (x_at0 ha) g1 k g2 (hts _ g4) (fun _ q => q) (v := x_rv ad v) (by rw [List.getElem?_map, hv]; rfl) hd (hw ad H locs cells slots ls hR0)
      · exact hw.elim
    · exact h.elim
  case putfield ix =>
    simp only [x_go] at h
    split at h
    · rename_i ci k ty w9 hf
      obtain ⟨a, v, r, rfl, hu⟩ := x_svr.inv h
      obtain ⟨cj, fs, ha, hu2⟩ := x_ob.inv hu
      obtain ⟨⟨rfl, hk, hfit⟩, hw⟩ := x_if.inv hu2
      obtain ⟨C9, T9, N9, ty0, g1, g2, g3, g4, g5, g6, g7⟩ := hT.2.1 ix _ k ty _ hf
      obtain ⟨n1, n2⟩ := x_fit_ok ad hfit
      have kk : ∀ (H1 : Heap) (locs1 : List Loc), va_P D vwCl ((x_wk ad cO 0 X.1).set a (ad a, .inr (cj, (fs.map (x_rv ad)).set k (x_rv ad v)))) H1 → va_D A ((x_wk ad cO 0 X.1).set a (ad a, .inr (cj, (fs.map (x_rv ad)).set k (x_rv ad v)))) → va_S A s.heap H1 locs1 → W p l e R s m args below meth c H1 locs1 cells slots QQ (F0 m (pc + 3) ls (r.map (x_rv ad))) := by
        intro H1 locs1 hP1 hD1 hS1
        refine hw ad H1 locs1 cells slots ls (x_setR hR0 (b := .inr (cj, fs.set k v)) ?_ ?_ hS1)
        · simp only [x_cz, List.map_set]; exact hP1
        · simp only [x_cz, List.map_set]; exact hD1
      rcases g7 with g7 | ⟨g8, ⟨-, g9⟩ | ⟨g9, g10, g11⟩⟩
      · omega
      · exact va_put hx hb hts g3 ty0 g5 g6 hown hK hP hD hS a (x_at0 ha) g1 k g2 (hts _ g4) (fun _ q => q) g9 g8 n1 n2 (by rw [List.length_map]; exact hk) hd kk
      · exact va_putF hx hb hts g3 ty0 g5 g6 hown hK hP hD hS a (x_at0 ha) g1 k g2 (hts _ g4) (fun _ q => q) g9 (hnm.trans g10) g11 g8 n1 n2 (by rw [List.length_map]; exact hk) hd kk
    · exact h.elim
  case invokevirtual ix =>
    simp only [x_go] at h
    split at h
    · rename_i mj n ci bc bs hcal
      obtain ⟨⟨a, fs, ha, hob⟩, h⟩ := x_rcv.inv h
      obtain ⟨hbk, hw⟩ := x_bok.inv h
      obtain ⟨y, bytes, maxL, ret, ws, rm, cq, g1, g2, g3⟩ := hV ix mj n ci bc bs hcal
      obtain ⟨e1, e2⟩ := x_split ha
      have hM := g3 ad X.1 _ _ H.size hsp hw
      rw [e2] at hM
      have hb8 := x_bokle hbk
      refine x_calledX hR0 hA hbk (vx_runV (b := ad a) (As := (st.take n).reverse.map (x_rv ad)) ⟨hx, hb, hml, hown, hts⟩ hM g2 ⟨x_blind hEn, va_recv hK hP g1 (x_at0 hob), x_preAt hEn hX0 hR0 (av := .ref a :: (st.take n).reverse)⟩ rfl ?_ hsz ?_ (lv_room (by rw [x_cats]; exact hbk.1)) hd ⟨by omega, by omega⟩) (fun v Y hq => hq) (fun E Y hq => ?_)
      · rw [List.length_map, List.length_reverse, List.length_take]
        have := (List.getElem?_eq_some_iff.mp ha).1
        omega
      · show st.map (x_rv ad) = _
        rw [← List.map_reverse, List.reverse_reverse]
        conv => lhs; rw [e1]
        rw [List.map_append]
        rfl
      · dsimp only at hq
        split at hq
        · rename_i hex
          exact hZX E pc L _ _ hex hq
        · rename_i h9 k9 hex
          obtain ⟨hk9, hq⟩ := x_if.inv hq
          obtain ⟨hp, hdec, hcat⟩ := hH E pc h9 k9 hex
          intro ad2 H2 locs2 cells2 slots2 ls2 q ce hR2 c1 c2 c3
          refine hcat H2 locs2 cells2 slots2 ls2 _ q ce c1 c2 c3 ?_
          have hl2 : x_lv ad2 L ls2 M.maxl := hR2.2.2.2.2.2.1
          rcases hdec with ⟨d1, rfl⟩ | ⟨kk, d1, rfl, rfl⟩
          · exact lv_astore hx hb d1 hl2.2.1 (by omega) rfl (fun ls' h' => hq ad2 H2 locs2 cells2 slots2 ls' (x_locR hR2 (hl2.unset h')))
          · exact lv_astore_n hx hb d1 rfl hl2.2.1 (by omega) rfl (fun ls' h' => hq ad2 H2 locs2 cells2 slots2 ls' (x_locR hR2 (hl2.unset h')))
        · exact hq.elim
    · exact h.elim
  case invokestatic ix =>
    simp only [x_go] at h
    split at h
    · rename_i mj n bc bs hcal
      obtain ⟨x, y, r, rfl, hu⟩ := x_s2.inv h
      obtain ⟨hr8, hw⟩ := x_if.inv hu
      obtain ⟨w1, w2, w3, w4⟩ := hT.2.2.2.2.2.2 ix mj n bc bs hcal
      refine va_mmin hx hb (hml.trans hsz.symm) hown (hts _ w1) (hts _ w2) (hts _ w3) (hts _ w4) (by omega) ?_ (by omega) (by omega) hd (hw ad H locs cells slots ls hR0)
      have h8 : ((r.map (x_rv ad)).map fun v => v.category).sum ≤ 8 := by rw [x_cats]; exact hr8
      omega
    · rename_i mj n k bc bs hne hcal
      have hk2 : k ≠ 2 := hne
      obtain ⟨hrc, h⟩ := x_if.inv h
      obtain ⟨hbk, hw⟩ := x_bok.inv h
      obtain ⟨y, bytes, maxL, ret, ws, rm, g1, g3⟩ := hSt ix mj n k bc bs hcal hk2
      have hM := g3 ad X.1 _ _ H.size hsp (fun _ _ h => h) hw
      have hb8 := x_bokle hbk
      have hlen : ((st.take n).reverse.map (x_rv ad)).length = n := by
        rw [List.length_map, List.length_reverse, List.length_take]
        omega
      have hstk : (F0 m pc ls (st.map (x_rv ad))).stack = ((st.take n).reverse.map (x_rv ad)).reverse ++ (st.drop n).map (x_rv ad) := by
        show st.map (x_rv ad) = _
        rw [← List.map_reverse, List.reverse_reverse, ← List.map_append, List.take_append_drop]
      rcases g1 with g1 | ⟨host, g1⟩ | ⟨hh, g1⟩
      · exact x_called hR0 hA hbk (va_runS (As := (st.take n).reverse.map (x_rv ad)) ⟨hx, hb, hml, hown, hts⟩ hM g1 ⟨x_blind hEn, x_preAt hEn hX0 hR0 (av := (st.take n).reverse)⟩ rfl hlen hsz hstk (lv_room (by rw [x_cats]; exact hbk.1)) hd ⟨by omega, by omega⟩) (fun v Y hq => hq)
      · exact x_called hR0 hA hbk (va_runSN (As := (st.take n).reverse.map (x_rv ad)) ⟨hx, hb, hml, hown, hts⟩ hM g1 ⟨x_blind hEn, x_preAt hEn hX0 hR0 (av := (st.take n).reverse)⟩ rfl hlen hsz hstk (lv_room (by rw [x_cats]; exact hbk.1)) hd ⟨by omega, by omega⟩) (fun v Y hq => hq)
      · exact x_called hR0 hA hbk (vx_runSW (As := (st.take n).reverse.map (x_rv ad)) ⟨hx, hb, hml, hown, hts⟩ hM g1 ⟨x_blind hEn, x_preAt hEn hX0 hR0 (av := (st.take n).reverse)⟩ rfl hlen hsz hstk (lv_room (by rw [x_cats]; exact hbk.1)) hd ⟨by omega, by omega⟩) (fun v Y hq => hq)
    · exact h.elim
  case invokespecial ix =>
    simp only [x_go] at h
    split at h
    · rename_i hsp2
      obtain ⟨a, r, rfl, hu⟩ := x_sr.inv h
      obtain ⟨hr8, hw⟩ := x_if.inv hu
      refine W.objInit hx hb hown (hts _ (hT.2.2.2.2.2.1 ix hsp2)) (hts _ hG.1) (hts _ hG.2.1) rfl (by rw [hml]; exact hsz) rfl hd (by omega) ?_ (hw ad H locs cells slots ls hR0)
      have h8 : 2 * (F0 m pc ls (List.map (x_rv ad) (Value.ref a :: r))).monitorRoom + ((r.map (x_rv ad)).map fun v => v.category).sum ≤ 8 := lv_room (by rw [x_cats]; exact hr8)
      omega
    · rename_i mj n bc bs hspc
      obtain ⟨⟨a, ha⟩, h⟩ := x_isr.inv h
      obtain ⟨hbk, hw⟩ := x_bok.inv h
      obtain ⟨y, bytes, maxL, ws, rm, g1, g3⟩ := hI ix mj n bc bs hspc
      obtain ⟨e1, e2⟩ := x_split ha
      have hM := g3 ad X.1 _ _ H.size hsp (fun _ _ h => h) hw
      rw [e2] at hM
      have hb8 := x_bokle hbk
      refine x_called hR0 hA hbk (va_runI (b := ad a) (As := (st.take n).reverse.map (x_rv ad)) ⟨hx, hb, hml, hown, hts⟩ hM g1 ⟨x_blind hEn, x_preAt hEn hX0 hR0 (av := .ref a :: (st.take n).reverse)⟩ rfl ?_ hsz ?_ (lv_room (by rw [x_cats]; exact hbk.1)) hd ⟨by omega, by omega⟩) (fun v Y hq => ?_)
      · rw [List.length_map, List.length_reverse, List.length_take]
        have := (List.getElem?_eq_some_iff.mp ha).1
        omega
      · show st.map (x_rv ad) = _
        rw [← List.map_reverse, List.reverse_reverse]
        conv => lhs; rw [e1]
        rw [List.map_append]
        rfl
      · cases v with
        | none => exact hq
        | some v9 => exact hq.elim
    · exact h.elim
  case new ix =>
    simp only [x_go] at h
    split at h
    · rename_i ci fs hnw
      obtain ⟨⟨hc1, hs1, hao⟩, hw⟩ := h
      obtain ⟨C9, T9, N9, ty0, g1, g2, g3, g4, g5, g6, g7, g8, g9⟩ := hT.2.2.2.2.1 ix ci fs hnw
      refine va_new hx hb hts g2 ty0 g3 hown (hts _ g4) (hts _ g5) (hts _ g6) hK hP hD hS hA g1 g7 (by omega) (by omega) hd (fun q H1 hP1 hD1 hS1 => ?_)
      have hwk := x_wk_new (ad := ad) (cO := cO) hao q (.inr (ci, fs)) (by simp only [x_cz, g9])
      have hag := x_adn_agr ad (q := q) hao.1
      have hz : x_cz ad cO (.inr (ci, fs)) = .inr (ci, fs) := by simp only [x_cz, g9]
      have hw2 := hw (x_adn ad X.1.length q) H1 locs (cells + 1) (slots + N9) ls ⟨by show cells + 1 + (X.2.1 - 1) ≤ mcT; omega, by show slots + N9 + (X.2.2 - fs.length) ≤ msT; omega, by show va_P D vwCl (x_wk _ cO 0 (X.1 ++ [_])) H1; rw [hwk, hz]; exact hP1, by show va_D A (x_wk _ cO 0 (X.1 ++ [_])); rw [hwk, hz]; exact hD1, hS1, hl.move hag hao.2.1, x_ext_new hx0 hao.1 (by omega)⟩
      rw [List.map_cons, x_st_move hag hao.2.2.1] at hw2
      simp only [x_rv, x_adn_new] at hw2
      exact hw2
    · split at h
      · rename_i E hE9
        obtain ⟨rfl, h⟩ := x_if.inv h
        exact hThr pc ix len tg E L X htab hE9 h.1.1 h.1.2 h.2 ad H locs cells slots ls hR0
      · exact h.elim
  case newarray at9 =>
    obtain ⟨n, r, rfl, ⟨hn0, hnM, hc1, hs1, hao⟩, hw⟩ := x_s1.inv h
    have key : ∀ (ty : FieldType) (a0 : vp_A) (t0 : Nat), newarray.typeOf at9 = ty → (x_ty cO)[t0]? = some (cO ty, ty) → (∀ cA : ClassId, vp_cell cA a0 = arrV cA n.toNatClampNeg (fun _ => defaultValue ty)) → Cond.arrayClass ty ∈ x_T → n.toNatClampNeg * componentBytes ty ≤ 536870912 → (∀ cA cB : ClassId, va_RA s cA ty → va_RA s cB ty → cA = cB) →
        x_P p l e R s m args below meth c QQ D cO A M.maxl X0 ad0 mcT msT (pc + 2) L (.ref X.1.length :: r) (X.1 ++ [.inl (ty, a0)], X.2.1 - 1, X.2.2 - n.toNatClampNeg) → W p l e R s m args below meth c H locs cells slots QQ (F0 m pc ls (List.map (x_rv ad) (Value.int n :: r))) := by
      intro ty a0 t0 hty ht0 ha0 hwd hby hun hw
      refine va_newa hx hb (hty ▸ hts _ hwd) hty hK hP hD hS hA ha0 hn0 rfl hby (by omega) (by omega) hd (fun q cA H1 hK1 hP1 hD1 hS1 => ?_)
      have hcA : cA = cO ty := hun _ _ (hK1.2 (x_ty cO).length (cA, ty) (by rw [List.getElem?_append_right (Nat.le_refl _), Nat.sub_self]; rfl)).2 (hK.2 t0 _ ht0).2
      subst hcA
      have hwk := x_wk_new (ad := ad) (cO := cO) hao q (.inl (ty, a0)) rfl
      have hag := x_adn_agr ad (q := q) hao.1
      have hw2 := hw (x_adn ad X.1.length q) H1 locs (cells + 1) (slots + n.toNatClampNeg) ls ⟨by show cells + 1 + (X.2.1 - 1) ≤ mcT; omega, by show slots + n.toNatClampNeg + (X.2.2 - n.toNatClampNeg) ≤ msT; omega, by show va_P D vwCl (x_wk _ cO 0 (X.1 ++ [_])) H1; rw [hwk]; exact hP1, by show va_D A (x_wk _ cO 0 (X.1 ++ [_])); rw [hwk]; exact hD1, hS1, hl.move hag hao.2.1, x_ext_new hx0 hao.1 (by omega)⟩
      rw [List.map_cons, x_st_move hag hao.2.2.1] at hw2
      simp only [x_rv, x_adn_new] at hw2
      exact hw2
    cases at9
    case int => exact key .int (n.toNatClampNeg, .inl (fun _ => 0)) 0 rfl rfl (fun cA => rfl) hG.2.2.1 (by simp only [componentBytes]; omega) (fun a b h1 h2 => Option.some.inj (h1.symm.trans h2)) hw
    case boolean => exact key .boolean (n.toNatClampNeg, .inl (fun _ => 0)) 1 rfl rfl (fun cA => rfl) hG.2.2.2.1 (by simp only [componentBytes]; omega) (fun a b h1 h2 => Option.some.inj (h1.symm.trans h2)) hw
    case long => exact key .long (n.toNatClampNeg, .inr (.inl (fun _ => 0))) 2 rfl rfl (fun cA => rfl) hG.2.2.2.2 (by simp only [componentBytes]; omega) (fun a b h1 h2 => Option.some.inj (h1.symm.trans h2)) hw
    all_goals exact hw.elim
  case tableswitch dd lo hi offs =>
    obtain ⟨x, r, rfl, h1, h2⟩ := x_s1.inv h
    obtain ⟨j1, j2, j3⟩ := hj
    by_cases hout : x.toInt < lo ∨ hi < x.toInt
    · exact lv_tableOut hx hb hd hout (by omega) (h2 hout ad H locs cells slots ls hR0)
    · have hlo : ¬ x.toInt < lo := fun z => hout (Or.inl z)
      have hhi : ¬ hi < x.toInt := fun z => hout (Or.inr z)
      have hlt : (x.toInt - lo).toNat < offs.size := by omega
      have ho : offs[(x.toInt - lo).toNat]? = some offs[(x.toInt - lo).toNat] := Array.getElem?_eq_getElem hlt
      have hpos := j2 _ (Array.getElem_mem_toList hlt)
      exact lv_tableIn hx hb hd hlo hhi ho (by omega) (h1 _ _ ho (by omega) ad H locs cells slots ls hR0)
  case ireturn =>
    obtain ⟨x, r, rfl, h⟩ := x_s1.inv h
    obtain ⟨rfl, h⟩ := x_if.inv h
    obtain ⟨h1, h2⟩ := x_ret.inv h
    exact hZ _ pc L X h2 (Or.inl ⟨x, rfl, hd, h1⟩) ad H locs cells slots ls hR0
  case lreturn =>
    obtain ⟨x, r, rfl, h⟩ := x_sl1.inv h
    obtain ⟨⟨rfl, h1⟩, h2⟩ := x_if.inv h
    exact hZ _ pc L X h2 (Or.inr (Or.inl ⟨x, rfl, hd, h1⟩)) ad H locs cells slots ls hR0
  case return_ =>
    obtain ⟨⟨rfl, h1⟩, h2⟩ := x_if.inv h
    exact hZ _ pc L X h2 (Or.inr (Or.inr ⟨rfl, hd, h1⟩)) ad H locs cells slots ls hR0
  all_goals exact h.elim
end XT
