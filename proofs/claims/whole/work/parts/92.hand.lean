/-! ===== what is caught, what is thrown ===== -/
section XHD
variable {l : Launch} {sc : Nat × (Nat → Int32)} {b0 : Nat} {M : x_M}
theorem x_hand0 {En : (Nat → Prop) → State → Heap → Prop} (h1 : M.exc = x_exn) (h2 : M.hnd = []) : x_HandOK l En M := by
  intro p e R s m args below meth c QQ _ _ _ _ hnt _ _
  refine ⟨fun E pc h k hq => ?_, fun pc E _ x hx => (hnt h2 x hx).elim⟩
  rw [h1] at hq
  simp [x_exn] at hq
theorem x_hand1 {e1 hp hh k : Nat} (ho : M.own = RL) (hn : M.hnd = [(0, e1, hp, 13)]) (he : M.exc = fun pc E => if 0 ≤ pc ∧ pc < e1 then (if E = "java/lang/ArrayIndexOutOfBoundsException" then some (some (hh, k)) else none) else some none)
    (hd : (decode M.cod hp = .ok (.astore k, 2) ∧ hh = hp + 2) ∨ ∃ kk : Fin 4, decode M.cod hp = .ok (.astore_n kk, 1) ∧ (kk : Nat) = k ∧ hh = hp + 1) : x_HandOK l (x_En sc b0) M := by
  intro p e R s m args below meth c QQ hEn hx hown hts hnt hcw htab
  obtain ⟨A9, hE⟩ := hEn
  rw [ho] at hown
  have ht : c.exceptionTable.toList = [⟨0, e1, hp, 13⟩] := by
    rcases hcw with h | h
    · rw [hn] at h; exact htab _ h
    · rw [hn] at h; cases h
  refine ⟨fun E pc h k9 hq => ?_, fun pc E hq x hx9 => ?_⟩
  · rw [he] at hq
    dsimp only at hq
    by_cases hpc : 0 ≤ pc ∧ pc < e1
    · rw [if_pos hpc] at hq
      by_cases hE9 : E = "java/lang/ArrayIndexOutOfBoundsException"
      · rw [if_pos hE9] at hq
        have h1 : hh = h ∧ k = k9 := by simpa using hq
        obtain ⟨rfl, rfl⟩ := h1
        subst hE9
        refine ⟨hp, hd, fun H locs cells slots ls rest q ce c1 c2 c3 kk => ?_⟩
        exact vx_catch (name := "java/lang/ArrayIndexOutOfBoundsException") hown [] ⟨0, e1, hp, 13⟩ [] ht (fun z hz => nomatch hz) (by simp [covers, hpc.2]) (by show (13 : Nat) ≠ 0; decide) (hts _ wx_l13) (va_Nw.use rfl (hE.2.1 _ (List.mem_of_getElem? (i := 3) rfl))) c1 c2 c3 kk
      · rw [if_neg hE9] at hq; cases hq
    · rw [if_neg hpc] at hq; cases hq
  · rw [he] at hq
    dsimp only at hq
    by_cases hpc : 0 ≤ pc ∧ pc < e1
    · rw [if_pos hpc] at hq
      split at hq <;> cases hq
    · rw [ht] at hx9
      have h1 := List.mem_singleton.mp hx9
      subst h1
      simp only [covers, Bool.and_eq_false_iff, decide_eq_false_iff_not]
      omega
theorem x_hand2 {e1 p1 p2 h1 h2 k : Nat} (ho : M.own = RL) (hn : M.hnd = [(0, e1, p1, 13), (0, e1, p2, 15)]) (he : M.exc = fun pc E => if 0 ≤ pc ∧ pc < e1 then (if E = "java/lang/ArrayIndexOutOfBoundsException" then some (some (h1, k)) else if E = "java/lang/IllegalArgumentException" then some (some (h2, k)) else none) else some none)
    (hd1 : decode M.cod p1 = .ok (.astore k, 2) ∧ h1 = p1 + 2) (hd2 : decode M.cod p2 = .ok (.astore k, 2) ∧ h2 = p2 + 2) : x_HandOK l (x_En sc b0) M := by
  intro p e R s m args below meth c QQ hEn hx hown hts hnt hcw htab
  obtain ⟨A9, hE⟩ := hEn
  rw [ho] at hown
  have ht : c.exceptionTable.toList = [⟨0, e1, p1, 13⟩, ⟨0, e1, p2, 15⟩] := by
    rcases hcw with h | h
    · rw [hn] at h; exact htab _ h
    · rw [hn] at h; cases h
  refine ⟨fun E pc h k9 hq => ?_, fun pc E hq x hx9 => ?_⟩
  · rw [he] at hq
    dsimp only at hq
    by_cases hpc : 0 ≤ pc ∧ pc < e1
    · rw [if_pos hpc] at hq
      by_cases hE9 : E = "java/lang/ArrayIndexOutOfBoundsException"
      · rw [if_pos hE9] at hq
        have g1 : h1 = h ∧ k = k9 := by simpa using hq
        obtain ⟨rfl, rfl⟩ := g1
        subst hE9
        refine ⟨p1, Or.inl hd1, fun H locs cells slots ls rest q ce c1 c2 c3 kk => ?_⟩
        exact vx_catch (name := "java/lang/ArrayIndexOutOfBoundsException") hown [] ⟨0, e1, p1, 13⟩ [⟨0, e1, p2, 15⟩] ht (fun z hz => nomatch hz) (by simp [covers, hpc.2]) (by show (13 : Nat) ≠ 0; decide) (hts _ wx_l13) (va_Nw.use rfl (hE.2.1 _ (List.mem_of_getElem? (i := 3) rfl))) c1 c2 c3 kk
      · rw [if_neg hE9] at hq
        by_cases hE8 : E = "java/lang/IllegalArgumentException"
        · rw [if_pos hE8] at hq
          have g1 : h2 = h ∧ k = k9 := by simpa using hq
          obtain ⟨rfl, rfl⟩ := g1
          subst hE8
          refine ⟨p2, Or.inl hd2, fun H locs cells slots ls rest q ce c1 c2 c3 kk => ?_⟩
          exact vx_catch (name := "java/lang/IllegalArgumentException") hown [⟨0, e1, p1, 13⟩] ⟨0, e1, p2, 15⟩ [] ht (fun z hz => by
            have g9 := List.mem_singleton.mp hz
            subst g9
            exact Or.inr ⟨by show (13 : Nat) ≠ 0; decide, "java/lang/ArrayIndexOutOfBoundsException", hts _ wx_l13, hE.2.2.1⟩) (by simp [covers, hpc.2]) (by show (15 : Nat) ≠ 0; decide) (hts _ wx_l15) (va_Nw.use rfl (hE.2.1 _ (List.mem_of_getElem? (i := 4) rfl))) c1 c2 c3 kk
        · rw [if_neg hE8] at hq; cases hq
    · rw [if_neg hpc] at hq; cases hq
  · rw [he] at hq
    dsimp only at hq
    by_cases hpc : 0 ≤ pc ∧ pc < e1
    · rw [if_pos hpc] at hq
      split at hq
      · cases hq
      · split at hq <;> cases hq
    · rw [ht] at hx9
      have g1 : x = ⟨0, e1, p1, 13⟩ ∨ x = ⟨0, e1, p2, 15⟩ := by simpa using hx9
      rcases g1 with g1 | g1
      · subst g1
        simp only [covers, Bool.and_eq_false_iff, decide_eq_false_iff_not]
        omega
      · subst g1
        simp only [covers, Bool.and_eq_false_iff, decide_eq_false_iff_not]
        omega
theorem x_thr0 {En : (Nat → Prop) → State → Heap → Prop} (h : ∀ pc ix len tg, M.tab pc = some (.new ix, len, tg) → M.thr ix = none) : x_ThrOK l En M := by
  intro D cO p e R s m args below meth c ad X A bc bs Q _ _ _ _ pc ix len tg E L Y h1 h2
  rw [h pc ix len tg h1] at h2
  cases h2
def x_ckN (il : List (Nat × x_I)) (tl : List (Nat × String)) : Bool := il.all fun e => match e.2.1 with
  | .new ix => (x_lk tl ix).isNone
  | _ => true
theorem x_ckN_ok {il : List (Nat × x_I)} {tl : List (Nat × String)} (h : x_ckN il tl = true) : ∀ pc ix len tg, x_lk il pc = some (.new ix, len, tg) → x_lk tl ix = none := by
  intro pc ix len tg hl
  have h1 := List.all_eq_true.mp h _ (x_lk_mem hl)
  simpa using h1
def x_ckT (il : List (Nat × x_I)) (tl : List (Nat × String)) (pc0 : Nat) (cls : String) : Bool := il.all fun e => match e.2.1 with
  | .new ix => (match x_lk tl ix with
    | some E => decide (e.1 = pc0 ∧ E = cls)
    | none => true)
  | _ => true
theorem x_ckT_ok {il : List (Nat × x_I)} {tl : List (Nat × String)} {pc0 : Nat} {cls : String} (h : x_ckT il tl pc0 cls = true) : ∀ pc ix len tg E, x_lk il pc = some (.new ix, len, tg) → x_lk tl ix = some E → pc = pc0 ∧ E = cls := by
  intro pc ix len tg E hl h2
  have h1 := List.all_eq_true.mp h _ (x_lk_mem hl)
  dsimp only at h1
  rw [h2] at h1
  exact of_decide_eq_true h1
theorem x_ltP {D : va_G} {cl : List vw_C} {ws : va_W} {H1 : Heap} (h : va_P D cl ws H1) {k : Nat} {q : Nat × va_E} (hk : ws[k]? = some q) : q.1 < H1.size := (h k q hk).lt
theorem x_thrS (hl : l.stackTraces = false) {pc0 ik is ic : Nat} {cls text : String} {names : List String} (ho : M.own = RX7) (hcls : Bundle.fit cls = true) (hnm : ∀ n ∈ names, Bundle.fit n = true) (hk : Cond.classLink RX7 ik cls ∈ x_T) (hini : Cond.initialized cls ∈ x_T)
    (hstr : ∀ U, x_Rf U → ∃ a, vk_R RX7 is text a U) (hat : ∀ w ∈ Bundle.ownAtoms RX7 ic cls names, vx_no w = true → w ∈ x_T ∨ w ∈ x_NwL) (hlen : names.length ≤ 3)
    (hon : ∀ pc ix len tg E, M.tab pc = some (.new ix, len, tg) → M.thr ix = some E → pc = pc0 ∧ E = cls)
    (d0 : decode M.cod pc0 = .ok (.new ik, 3)) (d3 : decode M.cod (pc0 + 3) = .ok (.dup, 1)) (d4 : decode M.cod (pc0 + 4) = .ok (.ldc is, 2)) (d6 : decode M.cod (pc0 + 6) = .ok (.invokespecial ic, 3)) (d9 : decode M.cod (pc0 + 9) = .ok (.athrow, 1)) : x_ThrOK l (x_En sc b0) M := by
  intro D cO p e R s m args below meth c ad X A bc bs Q hAe hX hlocks hnt pc ix len tg E L Y h1 h2 hc1 hs6 hQ ad' H locs cells slots ls hR
  obtain ⟨hpc, hE9⟩ := hon pc ix len tg E h1 h2
  subst hpc
  subst hE9
  obtain ⟨hx, hb, hml, hown, hts, hK, hA, hE, hmc, hms, hnmm, hfr, hlc⟩ := hX
  obtain ⟨r1, r2, r3, r4, r5, r6, r7⟩ := hR
  rw [ho] at hown
  obtain ⟨sa, hsa⟩ := hstr s hE.2.2.2.1
  have hw : ∀ w ∈ vx_atS RX7 ic E names, w ∈ x_T ∨ w ∈ x_NwL := fun w hw => hat w (List.mem_filter.mp hw).1 (List.mem_filter.mp hw).2
  have hot : ∀ w, w ∈ x_T ∨ w ∈ x_NwL → vx_ot w = true := by
    intro w h
    unfold vx_ot
    rcases h with h | h
    · rw [x_T_good h, Bool.or_true]
    · rw [x_NwL_on w h, Bool.true_or]
  refine vx_throwS (A := A) hx hb hl hown hcls hnm (hts _ hk) (hts _ hini) hsa (fun w h => ?_) (fun w h => ?_) hE.2.2.2.2.1.1 hE.2.2.2.2.1.2 r5 (r6.2.1.1.trans hml.symm) d0 d3 d4 d6 d9 (fun x hx => (hnt x hx).elim) (by omega) ?_ (by omega) (by omega) hlocks (fun t ht hz hq => ?_) r5.2.2 (by omega) (by omega)
  · rcases hw w h with h | h
    · exact hts w h
    · exact va_Nw.use (x_NwL_on w h) (hE.2.1 w h)
  · rcases List.mem_cons.mp h with rfl | h
    · exact hot _ (Or.inl hk)
    · rcases List.mem_cons.mp h with rfl | h
      · exact hot _ (Or.inl hini)
      · exact hot w (hw w h)
  · show 0 + (13 * (names.length + 1) + 43) ≤ R.locals
    omega
  · refine ⟨⟨(Y.1, Y.2.1 - 1, Y.2.2 - 6), ad', hQ, r7, r3.kept (fun k q hk9 => hq q.1 (x_ltP r3 hk9)), va_K.moved ht hK, ?_⟩, ?_⟩
    · rw [hAe]; exact r4
    · rw [hAe]
      exact ⟨Nat.le_trans r5.1 hz, fun q g1 g2 => (hq q (Nat.lt_of_lt_of_le g1 r5.1)).trans (r5.2.1 q g1 g2)⟩
end XHD
theorem hd_L_set {l : Launch} {sc : Nat × (Nat → Int32)} {b0 : Nat} : x_HandOK l (x_En sc b0) m_L_set := x_hand2 (e1 := 17) (p1 := 20) (p2 := 24) (h1 := 22) (h2 := 26) (k := 4) rfl rfl rfl ⟨by decide +kernel, rfl⟩ ⟨by decide +kernel, rfl⟩
theorem hd_L_take {l : Launch} {sc : Nat × (Nat → Int32)} {b0 : Nat} : x_HandOK l (x_En sc b0) m_L_take := x_hand2 (e1 := 17) (p1 := 20) (p2 := 24) (h1 := 22) (h2 := 26) (k := 4) rfl rfl rfl ⟨by decide +kernel, rfl⟩ ⟨by decide +kernel, rfl⟩
theorem hd_L_enable {l : Launch} {sc : Nat × (Nat → Int32)} {b0 : Nat} : x_HandOK l (x_En sc b0) m_L_enable := x_hand1 (e1 := 17) (hp := 20) (hh := 22) (k := 4) rfl rfl rfl (Or.inl ⟨by decide +kernel, rfl⟩)
theorem hd_L_done {l : Launch} {sc : Nat × (Nat → Int32)} {b0 : Nat} : x_HandOK l (x_En sc b0) m_L_done := x_hand1 (e1 := 9) (hp := 12) (hh := 13) (k := 3) rfl rfl rfl (Or.inr ⟨3, by decide +kernel, rfl, rfl⟩)
theorem hd_L_candidates {l : Launch} {sc : Nat × (Nat → Int32)} {b0 : Nat} : x_HandOK l (x_En sc b0) m_L_candidates := x_hand1 (e1 := 9) (hp := 12) (hh := 13) (k := 3) rfl rfl rfl (Or.inr ⟨3, by decide +kernel, rfl, rfl⟩)
theorem hd_L_value {l : Launch} {sc : Nat × (Nat → Int32)} {b0 : Nat} : x_HandOK l (x_En sc b0) m_L_value := x_hand1 (e1 := 9) (hp := 12) (hh := 13) (k := 3) rfl rfl rfl (Or.inr ⟨3, by decide +kernel, rfl, rfl⟩)
theorem ht_X7_checkCell {l : Launch} {sc : Nat × (Nat → Int32)} {b0 : Nat} (hl : l.stackTraces = false) : x_ThrOK l (x_En sc b0) m_X7_checkCell := x_thrS hl (pc0 := 15) (ik := 195) (is := 197) (ic := 199) (cls := "java/lang/ArrayIndexOutOfBoundsException") (text := "no such cell") (names := x_nA) rfl (by decide +kernel) (by decide +kernel) wx_c195 wx_nA (fun U h => h.1) th_A (by decide) (x_ckT_ok (il := il_X7_checkCell) (tl := tl_X7) (by decide +kernel)) (by decide +kernel) (by decide +kernel) (by decide +kernel) (by decide +kernel) (by decide +kernel)
theorem ht_X7_checkSymbol {l : Launch} {sc : Nat × (Nat → Int32)} {b0 : Nat} (hl : l.stackTraces = false) : x_ThrOK l (x_En sc b0) m_X7_checkSymbol := x_thrS hl (pc0 := 15) (ik := 202) (is := 204) (ic := 206) (cls := "java/lang/IllegalArgumentException") (text := "no such symbol") (names := x_nI) rfl (by decide +kernel) (by decide +kernel) wx_c202 wx_nI (fun U h => h.2.1) th_I (by decide) (x_ckT_ok (il := il_X7_checkSymbol) (tl := tl_X7) (by decide +kernel)) (by decide +kernel) (by decide +kernel) (by decide +kernel) (by decide +kernel) (by decide +kernel)
theorem ht_X7_checkStep {l : Launch} {sc : Nat × (Nat → Int32)} {b0 : Nat} (hl : l.stackTraces = false) : x_ThrOK l (x_En sc b0) m_X7_checkStep := x_thrS hl (pc0 := 10) (ik := 195) (is := 207) (ic := 199) (cls := "java/lang/ArrayIndexOutOfBoundsException") (text := "no such step") (names := x_nA) rfl (by decide +kernel) (by decide +kernel) wx_c195 wx_nA (fun U h => h.2.2) th_A (by decide) (x_ckT_ok (il := il_X7_checkStep) (tl := tl_X7) (by decide +kernel)) (by decide +kernel) (by decide +kernel) (by decide +kernel) (by decide +kernel) (by decide +kernel)
def x_Fin (l : Launch) (En : (Nat → Prop) → State → Heap → Prop) (M : x_M) : Prop := x_HandOK l En M ∧ ((∀ ix, M.thr ix = none) ∨ (M.hnd = [] ∧ x_ThrOK l En M) ∨ M.tab 0 = none)
theorem x_fin0 {l : Launch} {En : (Nat → Prop) → State → Heap → Prop} {M : x_M} (h1 : M.exc = x_exn) (h2 : M.hnd = []) (h3 : ∀ ix, M.thr ix = none) : x_Fin l En M := ⟨x_hand0 h1 h2, Or.inl h3⟩
theorem x_fin1 {l : Launch} {En : (Nat → Prop) → State → Heap → Prop} {M : x_M} (h1 : M.exc = x_exn) (h2 : M.hnd = []) (h3 : x_ThrOK l En M) : x_Fin l En M := ⟨x_hand0 h1 h2, Or.inr (Or.inl ⟨h2, h3⟩)⟩
theorem tf_0 {l : Launch} {sc : Nat × (Nat → Int32)} {b0 : Nat} (hl : l.stackTraces = false) : ∀ M ∈ [m_J6_bitCount, m_X8_init, m_X8_thrown, m_X8_fails, m_X8_cells, m_X8_isCell, m_X8_isSymbol, m_X8_boxOf, m_X8_isIn, m_X8_at, m_X8_sees, m_X8_has, m_X8_countOf, m_X8_places, m_X8_isBroken, m_X8_put, m_X8_changed, m_X8_set, m_X8_take, m_X8_enable, m_X8_none, m_X8_leaves, m_X8_takes, m_X8_sets, m_X8_first, m_X8_next, m_X8_isPicked, m_X8_last, m_X8_lowest, m_X8_only, m_X8_common, m_X8_crosses, m_X8_pointing, m_X8_claiming, m_X8_naked, m_X8_isOpenIn, m_X8_hidden, m_X8_fish, m_X8_wing, m_X8_isWing], x_Fin l (x_En sc b0) M := List.forall_mem_cons.mpr ⟨x_fin0 rfl rfl (fun _ => rfl), List.forall_mem_cons.mpr ⟨x_fin0 rfl rfl (fun _ => rfl), List.forall_mem_cons.mpr ⟨x_fin0 rfl rfl (fun _ => rfl), List.forall_mem_cons.mpr ⟨x_fin0 rfl rfl (fun _ => rfl), List.forall_mem_cons.mpr ⟨x_fin0 rfl rfl (fun _ => rfl), List.forall_mem_cons.mpr ⟨x_fin0 rfl rfl (fun _ => rfl), List.forall_mem_cons.mpr ⟨x_fin0 rfl rfl (fun _ => rfl), List.forall_mem_cons.mpr ⟨x_fin0 rfl rfl (fun _ => rfl), List.forall_mem_cons.mpr ⟨x_fin0 rfl rfl (fun _ => rfl), List.forall_mem_cons.mpr ⟨x_fin0 rfl rfl (fun _ => rfl), List.forall_mem_cons.mpr ⟨x_fin0 rfl rfl (fun _ => rfl), List.forall_mem_cons.mpr ⟨x_fin0 rfl rfl (fun _ => rfl), List.forall_mem_cons.mpr ⟨x_fin0 rfl rfl (fun _ => rfl), List.forall_mem_cons.mpr ⟨x_fin0 rfl rfl (fun _ => rfl), List.forall_mem_cons.mpr ⟨x_fin0 rfl rfl (fun _ => rfl), List.forall_mem_cons.mpr ⟨x_fin0 rfl rfl (fun _ => rfl), List.forall_mem_cons.mpr ⟨x_fin0 rfl rfl (fun _ => rfl), List.forall_mem_cons.mpr ⟨x_fin0 rfl rfl (fun _ => rfl), List.forall_mem_cons.mpr ⟨x_fin0 rfl rfl (fun _ => rfl), List.forall_mem_cons.mpr ⟨x_fin0 rfl rfl (fun _ => rfl), List.forall_mem_cons.mpr ⟨x_fin0 rfl rfl (fun _ => rfl), List.forall_mem_cons.mpr ⟨x_fin0 rfl rfl (fun _ => rfl), List.forall_mem_cons.mpr ⟨x_fin0 rfl rfl (fun _ => rfl), List.forall_mem_cons.mpr ⟨x_fin0 rfl rfl (fun _ => rfl), List.forall_mem_cons.mpr ⟨x_fin0 rfl rfl (fun _ => rfl), List.forall_mem_cons.mpr ⟨x_fin0 rfl rfl (fun _ => rfl), List.forall_mem_cons.mpr ⟨x_fin0 rfl rfl (fun _ => rfl), List.forall_mem_cons.mpr ⟨x_fin0 rfl rfl (fun _ => rfl), List.forall_mem_cons.mpr ⟨x_fin0 rfl rfl (fun _ => rfl), List.forall_mem_cons.mpr ⟨x_fin0 rfl rfl (fun _ => rfl), List.forall_mem_cons.mpr ⟨x_fin0 rfl rfl (fun _ => rfl), List.forall_mem_cons.mpr ⟨x_fin0 rfl rfl (fun _ => rfl), List.forall_mem_cons.mpr ⟨x_fin0 rfl rfl (fun _ => rfl), List.forall_mem_cons.mpr ⟨x_fin0 rfl rfl (fun _ => rfl), List.forall_mem_cons.mpr ⟨x_fin0 rfl rfl (fun _ => rfl), List.forall_mem_cons.mpr ⟨x_fin0 rfl rfl (fun _ => rfl), List.forall_mem_cons.mpr ⟨x_fin0 rfl rfl (fun _ => rfl), List.forall_mem_cons.mpr ⟨x_fin0 rfl rfl (fun _ => rfl), List.forall_mem_cons.mpr ⟨x_fin0 rfl rfl (fun _ => rfl), List.forall_mem_cons.mpr ⟨x_fin0 rfl rfl (fun _ => rfl), List.forall_mem_nil _⟩⟩⟩⟩⟩⟩⟩⟩⟩⟩⟩⟩⟩⟩⟩⟩⟩⟩⟩⟩⟩⟩⟩⟩⟩⟩⟩⟩⟩⟩⟩⟩⟩⟩⟩⟩⟩⟩⟩⟩
theorem tf_1 {l : Launch} {sc : Nat × (Nat → Int32)} {b0 : Nat} (hl : l.stackTraces = false) : ∀ M ∈ [m_X8_isLinked, m_X8_colour, m_X8_clash, m_X8_seesOne, m_X8_colours, m_X8_corners, m_X8_rectangle, m_X8_look, m_X8_search, m_X8_find, m_X8_goMany, m_X8_reasonMany, m_X8_found, m_X8_reasonAt, m_X8_reason, m_X8_goes, m_X8_act, m_X8_apply, m_X8_solve, m_X8_undo, m_X8_done, m_X8_candidates, m_X8_value, m_X8_state, m_X8_part, m_X8_nameByte, m_X8_words, m_X2_init, m_X2_layLines, m_X2_layBoxes, m_X2_lay, m_X2_fill, m_X2_cell, m_X2_house, m_X2_rowOf, m_X2_columnOf, m_X2_places, m_X2_isOpen, m_X2_isIn, m_X2_see], x_Fin l (x_En sc b0) M := List.forall_mem_cons.mpr ⟨x_fin0 rfl rfl (fun _ => rfl), List.forall_mem_cons.mpr ⟨x_fin0 rfl rfl (fun _ => rfl), List.forall_mem_cons.mpr ⟨x_fin0 rfl rfl (fun _ => rfl), List.forall_mem_cons.mpr ⟨x_fin0 rfl rfl (fun _ => rfl), List.forall_mem_cons.mpr ⟨x_fin0 rfl rfl (fun _ => rfl), List.forall_mem_cons.mpr ⟨x_fin0 rfl rfl (fun _ => rfl), List.forall_mem_cons.mpr ⟨x_fin0 rfl rfl (fun _ => rfl), List.forall_mem_cons.mpr ⟨x_fin0 rfl rfl (fun _ => rfl), List.forall_mem_cons.mpr ⟨x_fin0 rfl rfl (fun _ => rfl), List.forall_mem_cons.mpr ⟨x_fin0 rfl rfl (fun _ => rfl), List.forall_mem_cons.mpr ⟨x_fin0 rfl rfl (fun _ => rfl), List.forall_mem_cons.mpr ⟨x_fin0 rfl rfl (fun _ => rfl), List.forall_mem_cons.mpr ⟨x_fin0 rfl rfl (fun _ => rfl), List.forall_mem_cons.mpr ⟨x_fin0 rfl rfl (fun _ => rfl), List.forall_mem_cons.mpr ⟨x_fin0 rfl rfl (fun _ => rfl), List.forall_mem_cons.mpr ⟨x_fin0 rfl rfl (fun _ => rfl), List.forall_mem_cons.mpr ⟨x_fin0 rfl rfl (fun _ => rfl), List.forall_mem_cons.mpr ⟨x_fin0 rfl rfl (fun _ => rfl), List.forall_mem_cons.mpr ⟨x_fin0 rfl rfl (fun _ => rfl), List.forall_mem_cons.mpr ⟨x_fin0 rfl rfl (fun _ => rfl), List.forall_mem_cons.mpr ⟨x_fin0 rfl rfl (fun _ => rfl), List.forall_mem_cons.mpr ⟨x_fin0 rfl rfl (fun _ => rfl), List.forall_mem_cons.mpr ⟨x_fin0 rfl rfl (fun _ => rfl), List.forall_mem_cons.mpr ⟨x_fin0 rfl rfl (fun _ => rfl), List.forall_mem_cons.mpr ⟨x_fin0 rfl rfl (fun _ => rfl), List.forall_mem_cons.mpr ⟨x_fin0 rfl rfl (fun _ => rfl), List.forall_mem_cons.mpr ⟨x_fin0 rfl rfl (fun _ => rfl), List.forall_mem_cons.mpr ⟨x_fin0 rfl rfl (fun _ => rfl), List.forall_mem_cons.mpr ⟨x_fin0 rfl rfl (fun _ => rfl), List.forall_mem_cons.mpr ⟨x_fin0 rfl rfl (fun _ => rfl), List.forall_mem_cons.mpr ⟨x_fin0 rfl rfl (fun _ => rfl), List.forall_mem_cons.mpr ⟨x_fin0 rfl rfl (fun _ => rfl), List.forall_mem_cons.mpr ⟨x_fin0 rfl rfl (fun _ => rfl), List.forall_mem_cons.mpr ⟨x_fin0 rfl rfl (fun _ => rfl), List.forall_mem_cons.mpr ⟨x_fin0 rfl rfl (fun _ => rfl), List.forall_mem_cons.mpr ⟨x_fin0 rfl rfl (fun _ => rfl), List.forall_mem_cons.mpr ⟨x_fin0 rfl rfl (fun _ => rfl), List.forall_mem_cons.mpr ⟨x_fin0 rfl rfl (fun _ => rfl), List.forall_mem_cons.mpr ⟨x_fin0 rfl rfl (fun _ => rfl), List.forall_mem_cons.mpr ⟨x_fin0 rfl rfl (fun _ => rfl), List.forall_mem_nil _⟩⟩⟩⟩⟩⟩⟩⟩⟩⟩⟩⟩⟩⟩⟩⟩⟩⟩⟩⟩⟩⟩⟩⟩⟩⟩⟩⟩⟩⟩⟩⟩⟩⟩⟩⟩⟩⟩⟩⟩
theorem tf_2 {l : Launch} {sc : Nat × (Nat → Int32)} {b0 : Nat} (hl : l.stackTraces = false) : ∀ M ∈ [m_X2_drop, m_X2_giveBack, m_X2_isBroken, m_X2_openCells, m_X2_openCandidates, m_X1_init, m_X1_clear, m_X1_strike, m_X1_because, m_X1_goer, m_X1_nthBit, m_X3_init, m_X3_mostSteps, m_X3_clear, m_X3_note, m_X3_close, m_X3_takeBack, m_X6_init, m_X6_gather, m_X6_start, m_X6_end, m_X6_get, m_X0_init, m_X0_look, m_X0_join, m_X0_colour, m_X0_linkedCell, m_X0_takes, m_X0_clash, m_X0_strikeColour, m_X0_strikeOthers, m_X0_leaveBehind, m_X5_init, m_X5_seek, m_X5_settle, m_X5_strikePlaces, m_X5_takesSome, m_X5_becauseOf, m_X5_last, m_X5_onlyPlace], x_Fin l (x_En sc b0) M := List.forall_mem_cons.mpr ⟨x_fin0 rfl rfl (fun _ => rfl), List.forall_mem_cons.mpr ⟨x_fin0 rfl rfl (fun _ => rfl), List.forall_mem_cons.mpr ⟨x_fin0 rfl rfl (fun _ => rfl), List.forall_mem_cons.mpr ⟨x_fin0 rfl rfl (fun _ => rfl), List.forall_mem_cons.mpr ⟨x_fin0 rfl rfl (fun _ => rfl), List.forall_mem_cons.mpr ⟨x_fin0 rfl rfl (fun _ => rfl), List.forall_mem_cons.mpr ⟨x_fin0 rfl rfl (fun _ => rfl), List.forall_mem_cons.mpr ⟨x_fin0 rfl rfl (fun _ => rfl), List.forall_mem_cons.mpr ⟨x_fin0 rfl rfl (fun _ => rfl), List.forall_mem_cons.mpr ⟨x_fin0 rfl rfl (fun _ => rfl), List.forall_mem_cons.mpr ⟨x_fin0 rfl rfl (fun _ => rfl), List.forall_mem_cons.mpr ⟨x_fin0 rfl rfl (fun _ => rfl), List.forall_mem_cons.mpr ⟨x_fin0 rfl rfl (fun _ => rfl), List.forall_mem_cons.mpr ⟨x_fin0 rfl rfl (fun _ => rfl), List.forall_mem_cons.mpr ⟨x_fin0 rfl rfl (fun _ => rfl), List.forall_mem_cons.mpr ⟨x_fin0 rfl rfl (fun _ => rfl), List.forall_mem_cons.mpr ⟨x_fin0 rfl rfl (fun _ => rfl), List.forall_mem_cons.mpr ⟨x_fin0 rfl rfl (fun _ => rfl), List.forall_mem_cons.mpr ⟨x_fin0 rfl rfl (fun _ => rfl), List.forall_mem_cons.mpr ⟨x_fin0 rfl rfl (fun _ => rfl), List.forall_mem_cons.mpr ⟨x_fin0 rfl rfl (fun _ => rfl), List.forall_mem_cons.mpr ⟨x_fin0 rfl rfl (fun _ => rfl), List.forall_mem_cons.mpr ⟨x_fin0 rfl rfl (fun _ => rfl), List.forall_mem_cons.mpr ⟨x_fin0 rfl rfl (fun _ => rfl), List.forall_mem_cons.mpr ⟨x_fin0 rfl rfl (fun _ => rfl), List.forall_mem_cons.mpr ⟨x_fin0 rfl rfl (fun _ => rfl), List.forall_mem_cons.mpr ⟨x_fin0 rfl rfl (fun _ => rfl), List.forall_mem_cons.mpr ⟨x_fin0 rfl rfl (fun _ => rfl), List.forall_mem_cons.mpr ⟨x_fin0 rfl rfl (fun _ => rfl), List.forall_mem_cons.mpr ⟨x_fin0 rfl rfl (fun _ => rfl), List.forall_mem_cons.mpr ⟨x_fin0 rfl rfl (fun _ => rfl), List.forall_mem_cons.mpr ⟨x_fin0 rfl rfl (fun _ => rfl), List.forall_mem_cons.mpr ⟨x_fin0 rfl rfl (fun _ => rfl), List.forall_mem_cons.mpr ⟨x_fin0 rfl rfl (fun _ => rfl), List.forall_mem_cons.mpr ⟨x_fin0 rfl rfl (fun _ => rfl), List.forall_mem_cons.mpr ⟨x_fin0 rfl rfl (fun _ => rfl), List.forall_mem_cons.mpr ⟨x_fin0 rfl rfl (fun _ => rfl), List.forall_mem_cons.mpr ⟨x_fin0 rfl rfl (fun _ => rfl), List.forall_mem_cons.mpr ⟨x_fin0 rfl rfl (fun _ => rfl), List.forall_mem_cons.mpr ⟨x_fin0 rfl rfl (fun _ => rfl), List.forall_mem_nil _⟩⟩⟩⟩⟩⟩⟩⟩⟩⟩⟩⟩⟩⟩⟩⟩⟩⟩⟩⟩⟩⟩⟩⟩⟩⟩⟩⟩⟩⟩⟩⟩⟩⟩⟩⟩⟩⟩⟩⟩
theorem tf_3 {l : Launch} {sc : Nat × (Nat → Int32)} {b0 : Nat} (hl : l.stackTraces = false) : ∀ M ∈ [m_X5_isOpenIn, m_X5_pointing, m_X5_claiming, m_X5_confined, m_X5_sharedHouse, m_X5_nakedSet, m_X5_hiddenSet, m_X5_crossing, m_X5_crossingAt, m_X5_fitItems, m_X5_isCovered, m_X5_unionOf, m_X5_wing, m_X5_isWingtip, m_X5_wingAt, m_X5_onlyOneAnswer, m_X5_rectangleAt, m_X5_isInTwoBoxes, m_X5_fourth, m_X7_init, m_X7_set, m_X7_take, m_X7_enable, m_X7_find, m_X7_found, m_X7_reason, m_X7_goes, m_X7_apply, m_X7_solve, m_X7_undo, m_X7_done, m_X7_candidates, m_X7_value, m_X7_state, m_X7_words, m_X7_letterOfCell, m_X7_performFound, m_X7_carryOut, m_X7_forgetSteps, m_X7_isOpenCandidate], x_Fin l (x_En sc b0) M := List.forall_mem_cons.mpr ⟨x_fin0 rfl rfl (fun _ => rfl), List.forall_mem_cons.mpr ⟨x_fin0 rfl rfl (fun _ => rfl), List.forall_mem_cons.mpr ⟨x_fin0 rfl rfl (fun _ => rfl), List.forall_mem_cons.mpr ⟨x_fin0 rfl rfl (fun _ => rfl), List.forall_mem_cons.mpr ⟨x_fin0 rfl rfl (fun _ => rfl), List.forall_mem_cons.mpr ⟨x_fin0 rfl rfl (fun _ => rfl), List.forall_mem_cons.mpr ⟨x_fin0 rfl rfl (fun _ => rfl), List.forall_mem_cons.mpr ⟨x_fin0 rfl rfl (fun _ => rfl), List.forall_mem_cons.mpr ⟨x_fin0 rfl rfl (fun _ => rfl), List.forall_mem_cons.mpr ⟨x_fin0 rfl rfl (fun _ => rfl), List.forall_mem_cons.mpr ⟨x_fin0 rfl rfl (fun _ => rfl), List.forall_mem_cons.mpr ⟨x_fin0 rfl rfl (fun _ => rfl), List.forall_mem_cons.mpr ⟨x_fin0 rfl rfl (fun _ => rfl), List.forall_mem_cons.mpr ⟨x_fin0 rfl rfl (fun _ => rfl), List.forall_mem_cons.mpr ⟨x_fin0 rfl rfl (fun _ => rfl), List.forall_mem_cons.mpr ⟨x_fin0 rfl rfl (fun _ => rfl), List.forall_mem_cons.mpr ⟨x_fin0 rfl rfl (fun _ => rfl), List.forall_mem_cons.mpr ⟨x_fin0 rfl rfl (fun _ => rfl), List.forall_mem_cons.mpr ⟨x_fin0 rfl rfl (fun _ => rfl), List.forall_mem_cons.mpr ⟨x_fin1 rfl rfl (x_thr0 (x_ckN_ok (il := il_X7_init) (tl := tl_X7) (by decide +kernel))), List.forall_mem_cons.mpr ⟨x_fin1 rfl rfl (x_thr0 (x_ckN_ok (il := il_X7_set) (tl := tl_X7) (by decide +kernel))), List.forall_mem_cons.mpr ⟨x_fin1 rfl rfl (x_thr0 (x_ckN_ok (il := il_X7_take) (tl := tl_X7) (by decide +kernel))), List.forall_mem_cons.mpr ⟨x_fin1 rfl rfl (x_thr0 (x_ckN_ok (il := il_X7_enable) (tl := tl_X7) (by decide +kernel))), List.forall_mem_cons.mpr ⟨x_fin1 rfl rfl (x_thr0 (x_ckN_ok (il := il_X7_find) (tl := tl_X7) (by decide +kernel))), List.forall_mem_cons.mpr ⟨x_fin1 rfl rfl (x_thr0 (x_ckN_ok (il := il_X7_found) (tl := tl_X7) (by decide +kernel))), List.forall_mem_cons.mpr ⟨x_fin1 rfl rfl (x_thr0 (x_ckN_ok (il := il_X7_reason) (tl := tl_X7) (by decide +kernel))), List.forall_mem_cons.mpr ⟨x_fin1 rfl rfl (x_thr0 (x_ckN_ok (il := il_X7_goes) (tl := tl_X7) (by decide +kernel))), List.forall_mem_cons.mpr ⟨x_fin1 rfl rfl (x_thr0 (x_ckN_ok (il := il_X7_apply) (tl := tl_X7) (by decide +kernel))), List.forall_mem_cons.mpr ⟨x_fin1 rfl rfl (x_thr0 (x_ckN_ok (il := il_X7_solve) (tl := tl_X7) (by decide +kernel))), List.forall_mem_cons.mpr ⟨x_fin1 rfl rfl (x_thr0 (x_ckN_ok (il := il_X7_undo) (tl := tl_X7) (by decide +kernel))), List.forall_mem_cons.mpr ⟨x_fin1 rfl rfl (x_thr0 (x_ckN_ok (il := il_X7_done) (tl := tl_X7) (by decide +kernel))), List.forall_mem_cons.mpr ⟨x_fin1 rfl rfl (x_thr0 (x_ckN_ok (il := il_X7_candidates) (tl := tl_X7) (by decide +kernel))), List.forall_mem_cons.mpr ⟨x_fin1 rfl rfl (x_thr0 (x_ckN_ok (il := il_X7_value) (tl := tl_X7) (by decide +kernel))), List.forall_mem_cons.mpr ⟨x_fin1 rfl rfl (x_thr0 (x_ckN_ok (il := il_X7_state) (tl := tl_X7) (by decide +kernel))), List.forall_mem_cons.mpr ⟨⟨x_hand0 rfl rfl, Or.inr (Or.inr rfl)⟩, List.forall_mem_cons.mpr ⟨x_fin1 rfl rfl (x_thr0 (x_ckN_ok (il := il_X7_letterOfCell) (tl := tl_X7) (by decide +kernel))), List.forall_mem_cons.mpr ⟨x_fin1 rfl rfl (x_thr0 (x_ckN_ok (il := il_X7_performFound) (tl := tl_X7) (by decide +kernel))), List.forall_mem_cons.mpr ⟨x_fin1 rfl rfl (x_thr0 (x_ckN_ok (il := il_X7_carryOut) (tl := tl_X7) (by decide +kernel))), List.forall_mem_cons.mpr ⟨x_fin1 rfl rfl (x_thr0 (x_ckN_ok (il := il_X7_forgetSteps) (tl := tl_X7) (by decide +kernel))), List.forall_mem_cons.mpr ⟨x_fin1 rfl rfl (x_thr0 (x_ckN_ok (il := il_X7_isOpenCandidate) (tl := tl_X7) (by decide +kernel))), List.forall_mem_nil _⟩⟩⟩⟩⟩⟩⟩⟩⟩⟩⟩⟩⟩⟩⟩⟩⟩⟩⟩⟩⟩⟩⟩⟩⟩⟩⟩⟩⟩⟩⟩⟩⟩⟩⟩⟩⟩⟩⟩⟩
theorem tf_4 {l : Launch} {sc : Nat × (Nat → Int32)} {b0 : Nat} (hl : l.stackTraces = false) : ∀ M ∈ [m_X7_allTimes, m_X7_checkCell, m_X7_checkSymbol, m_X7_checkStep, m_X7_leastBit, m_L_cell, m_L_set, m_L_take, m_L_enable, m_L_done, m_L_candidates, m_L_value], x_Fin l (x_En sc b0) M := List.forall_mem_cons.mpr ⟨x_fin1 rfl rfl (x_thr0 (x_ckN_ok (il := il_X7_allTimes) (tl := tl_X7) (by decide +kernel))), List.forall_mem_cons.mpr ⟨x_fin1 rfl rfl (ht_X7_checkCell hl), List.forall_mem_cons.mpr ⟨x_fin1 rfl rfl (ht_X7_checkSymbol hl), List.forall_mem_cons.mpr ⟨x_fin1 rfl rfl (ht_X7_checkStep hl), List.forall_mem_cons.mpr ⟨x_fin1 rfl rfl (x_thr0 (x_ckN_ok (il := il_X7_leastBit) (tl := tl_X7) (by decide +kernel))), List.forall_mem_cons.mpr ⟨x_fin0 rfl rfl (fun _ => rfl), List.forall_mem_cons.mpr ⟨⟨hd_L_set, Or.inl (fun _ => rfl)⟩, List.forall_mem_cons.mpr ⟨⟨hd_L_take, Or.inl (fun _ => rfl)⟩, List.forall_mem_cons.mpr ⟨⟨hd_L_enable, Or.inl (fun _ => rfl)⟩, List.forall_mem_cons.mpr ⟨⟨hd_L_done, Or.inl (fun _ => rfl)⟩, List.forall_mem_cons.mpr ⟨⟨hd_L_candidates, Or.inl (fun _ => rfl)⟩, List.forall_mem_cons.mpr ⟨⟨hd_L_value, Or.inl (fun _ => rfl)⟩, List.forall_mem_nil _⟩⟩⟩⟩⟩⟩⟩⟩⟩⟩⟩⟩
theorem x_Fin_ok {l : Launch} {sc : Nat × (Nat → Int32)} {b0 : Nat} (hl : l.stackTraces = false) : ∀ mj M, x_MM mj = some M → x_Fin l (x_En sc b0) M := by
  intro mj M hM
  have h1 : M ∈ x_ML := List.mem_of_getElem? hM
  have h2 : x_ML = [m_J6_bitCount, m_X8_init, m_X8_thrown, m_X8_fails, m_X8_cells, m_X8_isCell, m_X8_isSymbol, m_X8_boxOf, m_X8_isIn, m_X8_at, m_X8_sees, m_X8_has, m_X8_countOf, m_X8_places, m_X8_isBroken, m_X8_put, m_X8_changed, m_X8_set, m_X8_take, m_X8_enable, m_X8_none, m_X8_leaves, m_X8_takes, m_X8_sets, m_X8_first, m_X8_next, m_X8_isPicked, m_X8_last, m_X8_lowest, m_X8_only, m_X8_common, m_X8_crosses, m_X8_pointing, m_X8_claiming, m_X8_naked, m_X8_isOpenIn, m_X8_hidden, m_X8_fish, m_X8_wing, m_X8_isWing] ++ [m_X8_isLinked, m_X8_colour, m_X8_clash, m_X8_seesOne, m_X8_colours, m_X8_corners, m_X8_rectangle, m_X8_look, m_X8_search, m_X8_find, m_X8_goMany, m_X8_reasonMany, m_X8_found, m_X8_reasonAt, m_X8_reason, m_X8_goes, m_X8_act, m_X8_apply, m_X8_solve, m_X8_undo, m_X8_done, m_X8_candidates, m_X8_value, m_X8_state, m_X8_part, m_X8_nameByte, m_X8_words, m_X2_init, m_X2_layLines, m_X2_layBoxes, m_X2_lay, m_X2_fill, m_X2_cell, m_X2_house, m_X2_rowOf, m_X2_columnOf, m_X2_places, m_X2_isOpen, m_X2_isIn, m_X2_see] ++ [m_X2_drop, m_X2_giveBack, m_X2_isBroken, m_X2_openCells, m_X2_openCandidates, m_X1_init, m_X1_clear, m_X1_strike, m_X1_because, m_X1_goer, m_X1_nthBit, m_X3_init, m_X3_mostSteps, m_X3_clear, m_X3_note, m_X3_close, m_X3_takeBack, m_X6_init, m_X6_gather, m_X6_start, m_X6_end, m_X6_get, m_X0_init, m_X0_look, m_X0_join, m_X0_colour, m_X0_linkedCell, m_X0_takes, m_X0_clash, m_X0_strikeColour, m_X0_strikeOthers, m_X0_leaveBehind, m_X5_init, m_X5_seek, m_X5_settle, m_X5_strikePlaces, m_X5_takesSome, m_X5_becauseOf, m_X5_last, m_X5_onlyPlace] ++ [m_X5_isOpenIn, m_X5_pointing, m_X5_claiming, m_X5_confined, m_X5_sharedHouse, m_X5_nakedSet, m_X5_hiddenSet, m_X5_crossing, m_X5_crossingAt, m_X5_fitItems, m_X5_isCovered, m_X5_unionOf, m_X5_wing, m_X5_isWingtip, m_X5_wingAt, m_X5_onlyOneAnswer, m_X5_rectangleAt, m_X5_isInTwoBoxes, m_X5_fourth, m_X7_init, m_X7_set, m_X7_take, m_X7_enable, m_X7_find, m_X7_found, m_X7_reason, m_X7_goes, m_X7_apply, m_X7_solve, m_X7_undo, m_X7_done, m_X7_candidates, m_X7_value, m_X7_state, m_X7_words, m_X7_letterOfCell, m_X7_performFound, m_X7_carryOut, m_X7_forgetSteps, m_X7_isOpenCandidate] ++ [m_X7_allTimes, m_X7_checkCell, m_X7_checkSymbol, m_X7_checkStep, m_X7_leastBit, m_L_cell, m_L_set, m_L_take, m_L_enable, m_L_done, m_L_candidates, m_L_value] := rfl
  rw [h2] at h1
  simp only [List.mem_append] at h1
  rcases h1 with (((h1 | h1) | h1) | h1) | h1
  · exact tf_0 hl M h1
  · exact tf_1 hl M h1
  · exact tf_2 hl M h1
  · exact tf_3 hl M h1
  · exact tf_4 hl M h1
