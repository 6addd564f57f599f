/-! ===== texts: length() and charAt(i) of the JDK, over what the start gives ===== -/
theorem dx_J0_coder_7d493_0 : decode cJ0_coder_7d493 0 = .ok (.getstatic 38, 3) := by decide +kernel
theorem dx_J0_coder_7d493_3 : decode cJ0_coder_7d493 3 = .ok (.ifCond .eq 10, 3) := by decide +kernel
theorem dx_J0_coder_7d493_6 : decode cJ0_coder_7d493 6 = .ok (.aload_n 0, 1) := by decide +kernel
theorem dx_J0_coder_7d493_7 : decode cJ0_coder_7d493 7 = .ok (.getfield 15, 3) := by decide +kernel
theorem dx_J0_coder_7d493_10 : decode cJ0_coder_7d493 10 = .ok (.goto 4, 3) := by decide +kernel
theorem dx_J0_coder_7d493_14 : decode cJ0_coder_7d493 14 = .ok (.ireturn, 1) := by decide +kernel
theorem dx_J0_isLatin1_aae02_0 : decode cJ0_isLatin1_aae02 0 = .ok (.getstatic 38, 3) := by decide +kernel
theorem dx_J0_isLatin1_aae02_3 : decode cJ0_isLatin1_aae02 3 = .ok (.ifCond .eq 14, 3) := by decide +kernel
theorem dx_J0_isLatin1_aae02_6 : decode cJ0_isLatin1_aae02 6 = .ok (.aload_n 0, 1) := by decide +kernel
theorem dx_J0_isLatin1_aae02_7 : decode cJ0_isLatin1_aae02 7 = .ok (.getfield 15, 3) := by decide +kernel
theorem dx_J0_isLatin1_aae02_10 : decode cJ0_isLatin1_aae02 10 = .ok (.ifCond .ne 7, 3) := by decide +kernel
theorem dx_J0_isLatin1_aae02_13 : decode cJ0_isLatin1_aae02 13 = .ok (.iconst 1, 1) := by decide +kernel
theorem dx_J0_isLatin1_aae02_14 : decode cJ0_isLatin1_aae02 14 = .ok (.goto 4, 3) := by decide +kernel
theorem dx_J0_isLatin1_aae02_18 : decode cJ0_isLatin1_aae02 18 = .ok (.ireturn, 1) := by decide +kernel
theorem dx_J0_length_8abf5_0 : decode cJ0_length_8abf5 0 = .ok (.aload_n 0, 1) := by decide +kernel
theorem dx_J0_length_8abf5_1 : decode cJ0_length_8abf5 1 = .ok (.getfield 9, 3) := by decide +kernel
theorem dx_J0_length_8abf5_4 : decode cJ0_length_8abf5 4 = .ok (.arraylength, 1) := by decide +kernel
theorem dx_J0_length_8abf5_5 : decode cJ0_length_8abf5 5 = .ok (.aload_n 0, 1) := by decide +kernel
theorem dx_J0_length_8abf5_6 : decode cJ0_length_8abf5 6 = .ok (.invokevirtual 335, 3) := by decide +kernel
theorem dx_J0_length_8abf5_9 : decode cJ0_length_8abf5 9 = .ok (.ishr, 1) := by decide +kernel
theorem dx_J0_length_8abf5_10 : decode cJ0_length_8abf5 10 = .ok (.ireturn, 1) := by decide +kernel
theorem dx_J3_checkIndex_8e157_0 : decode cJ3_checkIndex_8e157 0 = .ok (.iload_n 0, 1) := by decide +kernel
theorem dx_J3_checkIndex_8e157_1 : decode cJ3_checkIndex_8e157 1 = .ok (.ifCond .lt 8, 3) := by decide +kernel
theorem dx_J3_checkIndex_8e157_4 : decode cJ3_checkIndex_8e157 4 = .ok (.iload_n 0, 1) := by decide +kernel
theorem dx_J3_checkIndex_8e157_5 : decode cJ3_checkIndex_8e157 5 = .ok (.iload_n 1, 1) := by decide +kernel
theorem dx_J3_checkIndex_8e157_6 : decode cJ3_checkIndex_8e157 6 = .ok (.if_icmp .lt 10, 3) := by decide +kernel
theorem dx_J3_checkIndex_8e157_16 : decode cJ3_checkIndex_8e157 16 = .ok (.iload_n 0, 1) := by decide +kernel
theorem dx_J3_checkIndex_8e157_17 : decode cJ3_checkIndex_8e157 17 = .ok (.ireturn, 1) := by decide +kernel
theorem dx_J0_checkIndex_df160_0 : decode cJ0_checkIndex_df160 0 = .ok (.iload_n 0, 1) := by decide +kernel
theorem dx_J0_checkIndex_df160_1 : decode cJ0_checkIndex_df160 1 = .ok (.iload_n 1, 1) := by decide +kernel
theorem dx_J0_checkIndex_df160_2 : decode cJ0_checkIndex_df160 2 = .ok (.getstatic 1053, 3) := by decide +kernel
theorem dx_J0_checkIndex_df160_5 : decode cJ0_checkIndex_df160 5 = .ok (.invokestatic 1059, 3) := by decide +kernel
theorem dx_J0_checkIndex_df160_8 : decode cJ0_checkIndex_df160 8 = .ok (.pop, 1) := by decide +kernel
theorem dx_J0_checkIndex_df160_9 : decode cJ0_checkIndex_df160 9 = .ok (.return_, 1) := by decide +kernel
theorem dx_J1_charAt_3b067_0 : decode cJ1_charAt_3b067 0 = .ok (.iload_n 1, 1) := by decide +kernel
theorem dx_J1_charAt_3b067_1 : decode cJ1_charAt_3b067 1 = .ok (.aload_n 0, 1) := by decide +kernel
theorem dx_J1_charAt_3b067_2 : decode cJ1_charAt_3b067 2 = .ok (.arraylength, 1) := by decide +kernel
theorem dx_J1_charAt_3b067_3 : decode cJ1_charAt_3b067 3 = .ok (.invokestatic 9, 3) := by decide +kernel
theorem dx_J1_charAt_3b067_6 : decode cJ1_charAt_3b067 6 = .ok (.aload_n 0, 1) := by decide +kernel
theorem dx_J1_charAt_3b067_7 : decode cJ1_charAt_3b067 7 = .ok (.iload_n 1, 1) := by decide +kernel
theorem dx_J1_charAt_3b067_8 : decode cJ1_charAt_3b067 8 = .ok (.baload, 1) := by decide +kernel
theorem dx_J1_charAt_3b067_9 : decode cJ1_charAt_3b067 9 = .ok (.sipush 255, 3) := by decide +kernel
theorem dx_J1_charAt_3b067_12 : decode cJ1_charAt_3b067 12 = .ok (.iand, 1) := by decide +kernel
theorem dx_J1_charAt_3b067_13 : decode cJ1_charAt_3b067 13 = .ok (.i2c, 1) := by decide +kernel
theorem dx_J1_charAt_3b067_14 : decode cJ1_charAt_3b067 14 = .ok (.ireturn, 1) := by decide +kernel
theorem dx_J0_charAt_5068e_0 : decode cJ0_charAt_5068e 0 = .ok (.aload_n 0, 1) := by decide +kernel
theorem dx_J0_charAt_5068e_1 : decode cJ0_charAt_5068e 1 = .ok (.invokevirtual 492, 3) := by decide +kernel
theorem dx_J0_charAt_5068e_4 : decode cJ0_charAt_5068e 4 = .ok (.ifCond .eq 12, 3) := by decide +kernel
theorem dx_J0_charAt_5068e_7 : decode cJ0_charAt_5068e 7 = .ok (.aload_n 0, 1) := by decide +kernel
theorem dx_J0_charAt_5068e_8 : decode cJ0_charAt_5068e 8 = .ok (.getfield 9, 3) := by decide +kernel
theorem dx_J0_charAt_5068e_11 : decode cJ0_charAt_5068e 11 = .ok (.iload_n 1, 1) := by decide +kernel
theorem dx_J0_charAt_5068e_12 : decode cJ0_charAt_5068e 12 = .ok (.invokestatic 495, 3) := by decide +kernel
theorem dx_J0_charAt_5068e_15 : decode cJ0_charAt_5068e 15 = .ok (.ireturn, 1) := by decide +kernel
def x_rk (k : Nat) : Room := { frames := k, cells := 0, slots := 0, locals := 40 * k }
def x_B1 (a : Nat) (bs : List Nat) (U : State) (H : Heap) : Prop := x_tx a bs (fun _ => False) U H ∧ x_St (fun _ => False) U H
def x_B2 (v : Nat) (bs : List Nat) (U : State) (H : Heap) : Prop := va_T .byte v bs.length (fun j => .int (nI (bs.getD j 0))) (fun _ => False) U H ∧ x_St (fun _ => False) U H
theorem x_St.moved {A : Nat → Prop} {u U : State} {H : Heap} (hvm : u.vm.Alike U.vm) (h : x_St A u H) : x_St A U H := ⟨va_Z.moved hvm h.1, va_Zq.moved hvm h.2⟩
theorem x_B1.moved {a : Nat} {bs : List Nat} {u U : State} {H : Heap} (hvm : u.vm.Alike U.vm) (h : x_B1 a bs u H) : x_B1 a bs U H := ⟨x_tx.moved hvm h.1, x_St.moved hvm h.2⟩
theorem x_B2.moved {v : Nat} {bs : List Nat} {u U : State} {H : Heap} (hvm : u.vm.Alike U.vm) (h : x_B2 v bs u H) : x_B2 v bs U H := ⟨va_T.moved hvm h.1, x_St.moved hvm h.2⟩
theorem x_blS {av : List Value} {B : State → Heap → Prop} (hB : ∀ (u U : State) (H : Heap), u.vm.Alike U.vm → B u H → B U H) : FrameBlind (va_Pc av (fun U => B U U.heap)) := fun a U g mk q => ⟨q.1, hB U (U.calling g mk a) U.heap (Vm.Alike.refl U.vm) q.2⟩
theorem x_gd {ws : List Cond} (h : ∀ w ∈ ws, w ∈ x_T) : GoodIn x_T ws := x_T_in (fun _ hw => hw) h
theorem x_gv {own C : String} {ix : Nat} {y : MethodName} {k : Cond} (h1 : Cond.methodLink own ix y ∈ x_T) (h2 : Cond.instanceMethod y ∈ x_T) (h3 : Cond.selects C y y ∈ x_T) (h4 : Cond.initialized C ∈ x_T) (h5 : k ∈ x_T) : GoodIn x_T (wsV own ix C y (k :: x_T)) := by
  refine x_gd fun w hw => ?_
  rcases List.mem_append.mp hw with hw | hw
  · simp only [List.mem_cons, List.not_mem_nil, or_false] at hw
    rcases hw with rfl | rfl | rfl | rfl
    · exact h1
    · exact h2
    · exact h3
    · exact h4
  · rcases List.mem_cons.mp hw with rfl | hw
    · exact h5
    · exact hw
theorem x_gs {own : String} {ix : Nat} {y : MethodName} {k : Cond} (h1 : Cond.methodLink own ix y ∈ x_T) (h2 : Cond.static y ∈ x_T) (h3 : Cond.initialized y.cls ∈ x_T) (h5 : k ∈ x_T) : GoodIn x_T (va_wsS own ix y (k :: x_T)) := by
  refine x_gd fun w hw => ?_
  rcases List.mem_append.mp hw with hw | hw
  · simp only [List.mem_cons, List.not_mem_nil, or_false] at hw
    rcases hw with rfl | rfl | rfl
    · exact h1
    · exact h2
    · exact h3
  · rcases List.mem_cons.mp hw with rfl | hw
    · exact h5
    · exact hw
theorem x_ent1 (m : MethodId) (av : List Value) (n : Nat) (h : (lg_sl av).length ≤ n) : ∃ ls, entryFrame m av.toArray n = F0 m 0 ls [] ∧ lv_has ls n (lv_args 0 av) := ⟨_, lg_entry_eq m _ _, lv_entry _ h⟩
theorem x_coder (l : Launch) (a : Nat) (bs : List Nat) : Met l yJ0_coder_7d493 (Cond.code yJ0_coder_7d493 cJ0_coder_7d493 1 (some .byte) :: x_T) (x_rk 0) (va_Pc [.ref a] (fun U => x_B1 a bs U U.heap)) (QcRead 0) 0 0 (fun _ => False) := by
  refine va_MetF (cc := cJ0_coder_7d493) (maxL := 1) (ret := some .byte) (ws' := x_T) (by decide +kernel) rfl ?_
  intro p e s m args below meth c s₁ B hml hv
  obtain ⟨rfl, hE, hZ⟩ := hv
  have hx := B.exec
  have hb := B.bytes
  have hr := B.returns
  have hts : ∀ w ∈ x_T, w.before ([.ref a] : List Value).toArray s = true := fun w hw => atoms_spec (ws := Cond.code yJ0_coder_7d493 cJ0_coder_7d493 1 (some .byte) :: x_T) B.pre w (List.mem_cons_of_mem _ hw)
  have hown : s.vm.findClass RJ0 = some m.cls := findClass_of_methodNamed B.named
  obtain ⟨ls, he, hl⟩ := x_ent1 m [.ref a] 1 (Nat.le_refl 1)
  rw [he]
  refine va_gets hx hb hZ.1 va_S.rf hown (hts _ wx_f38) (fun _ q => q) dx_J0_coder_7d493_0 ?_
  refine lv_if_eq hx hb dx_J0_coder_7d493_3 (tgt := 13) rfl (fun q => absurd q (by decide)) (fun _ => ?_)
  refine lv_aload_n hx hb dx_J0_coder_7d493_6 rfl (lv_at hl 0 rfl) ?_
  refine vk_getf hx hb hE.2.1 va_S.rf hown (hts _ wx_f15) (fun _ q => q) dx_J0_coder_7d493_7 ?_
  refine lv_goto hx hb dx_J0_coder_7d493_10 (tgt := 14) rfl ?_
  exact W.zret hx hb hr rfl (fun t ht _ => ⟨rfl, ht⟩) (fun q h => nomatch h) dx_J0_coder_7d493_14
theorem x_latin (l : Launch) (a : Nat) (bs : List Nat) : Met l yJ0_isLatin1_aae02 (Cond.code yJ0_isLatin1_aae02 cJ0_isLatin1_aae02 1 (some .boolean) :: x_T) (x_rk 0) (va_Pc [.ref a] (fun U => x_B1 a bs U U.heap)) (QcRead 1) 0 0 (fun _ => False) := by
  refine va_MetF (cc := cJ0_isLatin1_aae02) (maxL := 1) (ret := some .boolean) (ws' := x_T) (by decide +kernel) rfl ?_
  intro p e s m args below meth c s₁ B hml hv
  obtain ⟨rfl, hE, hZ⟩ := hv
  have hx := B.exec
  have hb := B.bytes
  have hr := B.returns
  have hts : ∀ w ∈ x_T, w.before ([.ref a] : List Value).toArray s = true := fun w hw => atoms_spec (ws := Cond.code yJ0_isLatin1_aae02 cJ0_isLatin1_aae02 1 (some .boolean) :: x_T) B.pre w (List.mem_cons_of_mem _ hw)
  have hown : s.vm.findClass RJ0 = some m.cls := findClass_of_methodNamed B.named
  obtain ⟨ls, he, hl⟩ := x_ent1 m [.ref a] 1 (Nat.le_refl 1)
  rw [he]
  refine va_gets hx hb hZ.1 va_S.rf hown (hts _ wx_f38) (fun _ q => q) dx_J0_isLatin1_aae02_0 ?_
  refine lv_if_eq hx hb dx_J0_isLatin1_aae02_3 (tgt := 17) rfl (fun q => absurd q (by decide)) (fun _ => ?_)
  refine lv_aload_n hx hb dx_J0_isLatin1_aae02_6 rfl (lv_at hl 0 rfl) ?_
  refine vk_getf hx hb hE.2.1 va_S.rf hown (hts _ wx_f15) (fun _ q => q) dx_J0_isLatin1_aae02_7 ?_
  refine lv_if_ne hx hb dx_J0_isLatin1_aae02_10 (tgt := 17) rfl (fun q => absurd rfl q) (fun _ => ?_)
  refine lv_iconst hx hb dx_J0_isLatin1_aae02_13 rfl ?_
  refine lv_goto hx hb dx_J0_isLatin1_aae02_14 (tgt := 18) rfl ?_
  exact W.zret hx hb hr rfl (fun t ht _ => ⟨rfl, ht⟩) (fun q h => nomatch h) dx_J0_isLatin1_aae02_18
theorem x_length (l : Launch) (a : Nat) (bs : List Nat) (hn : bs.length < 2 ^ 31) : Met l yJ0_length_8abf5 (Cond.code yJ0_length_8abf5 cJ0_length_8abf5 1 (some .int) :: x_T) (x_rk 1) (va_Pc [.ref a] (fun U => x_B1 a bs U U.heap)) (QcRead (nI bs.length)) 0 0 (fun _ => False) := by
  refine va_MetF (cc := cJ0_length_8abf5) (maxL := 1) (ret := some .int) (ws' := x_T) (by decide +kernel) rfl ?_
  intro p e s m args below meth c s₁ B hml hv
  obtain ⟨rfl, hE, hZ⟩ := hv
  have hx := B.exec
  have hb := B.bytes
  have hr := B.returns
  have hts : ∀ w ∈ x_T, w.before ([.ref a] : List Value).toArray s = true := fun w hw => atoms_spec (ws := Cond.code yJ0_length_8abf5 cJ0_length_8abf5 1 (some .int) :: x_T) B.pre w (List.mem_cons_of_mem _ hw)
  have hown : s.vm.findClass RJ0 = some m.cls := findClass_of_methodNamed B.named
  obtain ⟨ls, he, hl⟩ := x_ent1 m [.ref a] 1 (Nat.le_refl 1)
  rw [he]
  obtain ⟨hO, hC, v, hV, hT⟩ := id hE
  refine lv_aload_n hx hb dx_J0_length_8abf5_0 rfl (lv_at hl 0 rfl) ?_
  refine vk_getf hx hb hV va_S.rf hown (hts _ wx_f9) (fun _ q => q) dx_J0_length_8abf5_1 ?_
  refine va_tlen hx hb hT va_S.rf rfl dx_J0_length_8abf5_4 ?_
  refine lv_aload_n hx hb dx_J0_length_8abf5_5 rfl (lv_at hl 0 rfl) ?_
  obtain ⟨cell, o1, o2, o3, -⟩ := hO
  refine W.callR (W.runV (C := RJ0) (b := a) (As := []) (nL := 1) ⟨hx, hb, hml, hown, hts⟩ (x_coder l a bs) (cwV 0 hts (x_gv wx_m335 wx_i335 wx_s335 wx_nJ0 wx_coder) rfl rfl rfl (by decide +kernel) ⟨Nat.le_refl 1, by decide⟩) ⟨x_blS (fun _ _ _ h => x_B1.moved h), ⟨cell, o1, o2, o3⟩, fun U hU hW => ⟨rfl, by dsimp only; rw [hU]; exact x_B1.moved hW.alike ⟨hE, hZ⟩⟩⟩ rfl rfl hl.1 rfl (lv_room (Nat.le_of_ble_eq_true rfl)) dx_J0_length_8abf5_6 ⟨Nat.le_refl 0, Nat.le_refl 0⟩) ?_
  refine lv_ishr hx hb dx_J0_length_8abf5_9 ?_
  rw [show (Int32.ofNat bs.length) >>> ((0 : Int32) &&& 31) = nI bs.length from sc_shr0 hn]
  exact W.zret hx hb hr rfl (fun t ht _ => ⟨rfl, ht⟩) (fun q h => nomatch h) dx_J0_length_8abf5_10
theorem x_chk3 (l : Launch) {i n : Int32} {v : Value} (h0 : ¬ i < 0) (h1 : i < n) (hv : v = .null ∨ ∃ t, v = .ref t) : Met l yJ3_checkIndex_8e157 (Cond.code yJ3_checkIndex_8e157 cJ3_checkIndex_8e157 3 (some .int) :: x_T) (x_rk 0) (va_Pc [.int i, .int n, v] (fun _ => True)) (QcRead i) 0 0 (fun _ => False) := by
  refine va_MetF (cc := cJ3_checkIndex_8e157) (maxL := 3) (ret := some .int) (ws' := x_T) (by decide +kernel) rfl ?_
  intro p e s m args below meth c s₁ B hml hv9
  obtain ⟨rfl, -⟩ := hv9
  have hx := B.exec
  have hb := B.bytes
  have hr := B.returns
  obtain ⟨ls, he, g0, g1⟩ : ∃ ls, entryFrame m [.int i, .int n, v].toArray 3 = F0 m 0 ls [] ∧ ls[0]? = some (.val (.int i)) ∧ ls[1]? = some (.val (.int n)) := by
    rcases hv with rfl | ⟨t, rfl⟩
    · obtain ⟨ls, he, hl⟩ := x_ent1 m [.int i, .int n, .null] 3 (Nat.le_refl 3)
      exact ⟨ls, he, lv_at hl 0 rfl, lv_at hl 1 rfl⟩
    · obtain ⟨ls, he, hl⟩ := x_ent1 m [.int i, .int n, .ref t] 3 (Nat.le_refl 3)
      exact ⟨ls, he, lv_at hl 0 rfl, lv_at hl 1 rfl⟩
  rw [he]
  refine lv_iload_n hx hb dx_J3_checkIndex_8e157_0 rfl g0 ?_
  refine lv_if_lt hx hb dx_J3_checkIndex_8e157_1 (tgt := 9) rfl (fun q => absurd q h0) (fun _ => ?_)
  refine lv_iload_n hx hb dx_J3_checkIndex_8e157_4 rfl g0 ?_
  refine lv_iload_n hx hb dx_J3_checkIndex_8e157_5 rfl g1 ?_
  refine lv_icmp_lt hx hb dx_J3_checkIndex_8e157_6 (tgt := 16) rfl (fun _ => ?_) (fun q => absurd h1 q)
  refine lv_iload_n hx hb dx_J3_checkIndex_8e157_16 rfl g0 ?_
  exact W.zret hx hb hr rfl (fun t ht _ => ⟨rfl, ht⟩) (fun q h => nomatch h) dx_J3_checkIndex_8e157_17
theorem x_chk (l : Launch) {i n : Int32} (h0 : ¬ i < 0) (h1 : i < n) : Met l yJ0_checkIndex_df160 (Cond.code yJ0_checkIndex_df160 cJ0_checkIndex_df160 2 none :: x_T) (x_rk 1) (va_Pc [.int i, .int n] (fun U => x_St (fun _ => False) U U.heap)) (va_Sv (fun _ => True)) 0 0 (fun _ => False) := by
  refine va_MetF (cc := cJ0_checkIndex_df160) (maxL := 2) (ret := none) (ws' := x_T) (by decide +kernel) rfl ?_
  intro p e s m args below meth c s₁ B hml hv
  obtain ⟨rfl, hZ⟩ := hv
  have hx := B.exec
  have hb := B.bytes
  have hr := B.returns
  have hts : ∀ w ∈ x_T, w.before ([.int i, .int n] : List Value).toArray s = true := fun w hw => atoms_spec (ws := Cond.code yJ0_checkIndex_df160 cJ0_checkIndex_df160 2 none :: x_T) B.pre w (List.mem_cons_of_mem _ hw)
  have hown : s.vm.findClass RJ0 = some m.cls := findClass_of_methodNamed B.named
  obtain ⟨ls, he, hl⟩ := x_ent1 m [.int i, .int n] 2 (Nat.le_refl 2)
  rw [he]
  refine lv_iload_n hx hb dx_J0_checkIndex_df160_0 rfl (lv_at hl 0 rfl) ?_
  refine lv_iload_n hx hb dx_J0_checkIndex_df160_1 rfl (lv_at hl 1 rfl) ?_
  obtain ⟨v, hv, hg⟩ : ∃ v : Value, (v = .null ∨ ∃ t, v = .ref t) ∧ va_Z RJ3 "SIOOBE_FORMATTER" "Ljava/util/function/BiFunction;" v (fun _ => False) s s.heap := by
    rcases hZ.2 with h | ⟨t, h⟩
    · exact ⟨_, Or.inl rfl, h⟩
    · exact ⟨_, Or.inr ⟨t, rfl⟩, h⟩
  refine va_gets hx hb hg va_S.rf hown (hts _ wx_f1053) (fun _ q => q) dx_J0_checkIndex_df160_2 ?_
  refine W.callR (W.runS (As := [.int i, .int n, v]) (nL := 2) ⟨hx, hb, hml, hown, hts⟩ (x_chk3 l h0 h1 hv) (va_cwS 3 hts (x_gs wx_m1059 wx_s1059 wx_nJ3 wx_chk3) rfl rfl rfl (by decide +kernel) ⟨Nat.le_refl 1, by decide⟩) ⟨fun a U g mk q => ⟨q.1, trivial⟩, fun U hU hW => ⟨rfl, trivial⟩⟩ rfl rfl hl.1 rfl (lv_room (Nat.le_of_ble_eq_true rfl)) dx_J0_checkIndex_df160_5 ⟨Nat.le_refl 0, Nat.le_refl 0⟩) ?_
  refine lv_pop hx hb dx_J0_checkIndex_df160_8 rfl ?_
  exact W.vret hx hb hr (fun t ht _ => ⟨rfl, trivial, ht⟩) (fun q h => nomatch h) dx_J0_checkIndex_df160_9
theorem x_b255 : ∀ b, b < 128 → ((nI b &&& 255).toUInt32 % 65536).toInt32 = nI b ∧ narrow .char (.int (nI b)) = .int (nI b) := by decide +kernel
theorem x_char1 (l : Launch) (v k : Nat) (bs : List Nat) (hn : bs.length < 2 ^ 31) (hk : k < bs.length) (h8 : bs.getD k 0 < 128) : Met l yJ1_charAt_3b067 (Cond.code yJ1_charAt_3b067 cJ1_charAt_3b067 2 (some .char) :: x_T) (x_rk 2) (va_Pc [.ref v, .int (nI k)] (fun U => x_B2 v bs U U.heap)) (QcRead (nI (bs.getD k 0))) 0 0 (fun _ => False) := by
  refine va_MetF (cc := cJ1_charAt_3b067) (maxL := 2) (ret := some .char) (ws' := x_T) (by decide +kernel) rfl ?_
  intro p e s m args below meth c s₁ B hml hv
  obtain ⟨rfl, hT, hZ⟩ := hv
  have hx := B.exec
  have hb := B.bytes
  have hr := B.returns
  have hts : ∀ w ∈ x_T, w.before ([.ref v, .int (nI k)] : List Value).toArray s = true := fun w hw => atoms_spec (ws := Cond.code yJ1_charAt_3b067 cJ1_charAt_3b067 2 (some .char) :: x_T) B.pre w (List.mem_cons_of_mem _ hw)
  have hown : s.vm.findClass RJ1 = some m.cls := findClass_of_methodNamed B.named
  obtain ⟨ls, he, hl⟩ := x_ent1 m [.ref v, .int (nI k)] 2 (Nat.le_refl 2)
  rw [he]
  refine lv_iload_n hx hb dx_J1_charAt_3b067_0 rfl (lv_at hl 1 rfl) ?_
  refine lv_aload_n hx hb dx_J1_charAt_3b067_1 rfl (lv_at hl 0 rfl) ?_
  refine va_tlen hx hb hT va_S.rf rfl dx_J1_charAt_3b067_2 ?_
  refine va_csv (W.runS (As := [.int (nI k), .int (nI bs.length)]) (nL := 2) ⟨hx, hb, hml, hown, hts⟩ (x_chk l (nI_pos (by omega)) (nI_lt hk hn)) (va_cwS 2 hts (x_gs wx_m9 wx_s9 wx_nJ0 wx_chk) rfl rfl rfl (by decide +kernel) ⟨Nat.le_refl 2, by decide⟩) ⟨x_blS (B := x_St (fun _ => False)) (fun _ _ _ h => x_St.moved h), fun U hU hW => ⟨rfl, by dsimp only; rw [hU]; exact x_St.moved hW.alike hZ⟩⟩ rfl rfl hl.1 rfl (lv_room (Nat.le_of_ble_eq_true rfl)) dx_J1_charAt_3b067_3 ⟨Nat.le_refl 0, Nat.le_refl 0⟩) (fun _ => ?_)
  refine lv_aload_n hx hb dx_J1_charAt_3b067_6 rfl (lv_at hl 0 rfl) ?_
  refine lv_iload_n hx hb dx_J1_charAt_3b067_7 rfl (lv_at hl 1 rfl) ?_
  refine va_tb hx hb hT va_S.rf (vp_in_nI hk hn) (v := .int (nI (bs.getD k 0))) (by rw [nI_clamp (by omega)]) dx_J1_charAt_3b067_8 ?_
  refine lv_sipush hx hb (v := 255) dx_J1_charAt_3b067_9 (by decide) ?_
  refine lv_iand hx hb dx_J1_charAt_3b067_12 ?_
  obtain ⟨q1, q2⟩ := x_b255 _ h8
  refine lv_i2c hx hb dx_J1_charAt_3b067_13 q1 ?_
  exact W.zret hx hb hr q2 (fun t ht _ => ⟨rfl, ht⟩) (fun q h => nomatch h) dx_J1_charAt_3b067_14
theorem x_charAt (l : Launch) (a k : Nat) (bs : List Nat) (hn : bs.length < 2 ^ 31) (hk : k < bs.length) (h8 : bs.getD k 0 < 128) : Met l yJ0_charAt_5068e (Cond.code yJ0_charAt_5068e cJ0_charAt_5068e 2 (some .char) :: x_T) (x_rk 3) (va_Pc [.ref a, .int (nI k)] (fun U => x_B1 a bs U U.heap)) (QcRead (nI (bs.getD k 0))) 0 0 (fun _ => False) := by
  refine va_MetF (cc := cJ0_charAt_5068e) (maxL := 2) (ret := some .char) (ws' := x_T) (by decide +kernel) rfl ?_
  intro p e s m args below meth c s₁ B hml hv
  obtain ⟨rfl, hE, hZ⟩ := hv
  have hx := B.exec
  have hb := B.bytes
  have hr := B.returns
  have hts : ∀ w ∈ x_T, w.before ([.ref a, .int (nI k)] : List Value).toArray s = true := fun w hw => atoms_spec (ws := Cond.code yJ0_charAt_5068e cJ0_charAt_5068e 2 (some .char) :: x_T) B.pre w (List.mem_cons_of_mem _ hw)
  have hown : s.vm.findClass RJ0 = some m.cls := findClass_of_methodNamed B.named
  obtain ⟨ls, he, hl⟩ := x_ent1 m [.ref a, .int (nI k)] 2 (Nat.le_refl 2)
  rw [he]
  obtain ⟨hO, hC, v, hV, hT⟩ := id hE
  obtain ⟨cell, o1, o2, o3, -⟩ := hO
  refine lv_aload_n hx hb dx_J0_charAt_5068e_0 rfl (lv_at hl 0 rfl) ?_
  refine W.callR (W.runV (C := RJ0) (b := a) (As := []) (nL := 2) ⟨hx, hb, hml, hown, hts⟩ (x_latin l a bs) (cwV 0 hts (x_gv wx_m492 wx_i492 wx_s492 wx_nJ0 wx_latin) rfl rfl rfl (by decide +kernel) ⟨by decide, by decide⟩) ⟨x_blS (fun _ _ _ h => x_B1.moved h), ⟨cell, o1, o2, o3⟩, fun U hU hW => ⟨rfl, by dsimp only; rw [hU]; exact x_B1.moved hW.alike ⟨hE, hZ⟩⟩⟩ rfl rfl hl.1 rfl (lv_room (Nat.le_of_ble_eq_true rfl)) dx_J0_charAt_5068e_1 ⟨Nat.le_refl 0, Nat.le_refl 0⟩) ?_
  refine lv_if_eq hx hb dx_J0_charAt_5068e_4 (tgt := 16) rfl (fun q => absurd q (by decide)) (fun _ => ?_)
  refine lv_aload_n hx hb dx_J0_charAt_5068e_7 rfl (lv_at hl 0 rfl) ?_
  refine vk_getf hx hb hV va_S.rf hown (hts _ wx_f9) (fun _ q => q) dx_J0_charAt_5068e_8 ?_
  refine lv_iload_n hx hb dx_J0_charAt_5068e_11 rfl (lv_at hl 1 rfl) ?_
  refine W.callR (W.runS (As := [.ref v, .int (nI k)]) (nL := 2) ⟨hx, hb, hml, hown, hts⟩ (x_char1 l v k bs hn hk h8) (va_cwS 2 hts (x_gs wx_m495 wx_s495 wx_nJ1 wx_char1) rfl rfl rfl (by decide +kernel) ⟨Nat.le_refl 3, by decide⟩) ⟨x_blS (B := x_B2 v bs) (fun _ _ _ h => x_B2.moved h), fun U hU hW => ⟨rfl, by dsimp only; rw [hU]; exact x_B2.moved hW.alike ⟨hT, hZ⟩⟩⟩ rfl rfl hl.1 rfl (lv_room (Nat.le_of_ble_eq_true rfl)) dx_J0_charAt_5068e_12 ⟨Nat.le_refl 0, Nat.le_refl 0⟩) ?_
  exact W.zret hx hb hr (x_b255 _ h8).2 (fun t ht _ => ⟨rfl, ht⟩) (fun q h => nomatch h) dx_J0_charAt_5068e_15
