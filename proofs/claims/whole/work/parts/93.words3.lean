/-! ===== words(g, i): its plain instructions in the small machine, the names' texts by hand ===== -/
def il_W2 : List (Nat × x_I) := [(0, .aload_n 0, 1, 0), (1, .getfield 27, 3, 0), (4, .getfield 88, 3, 0), (7, .iconst (-1), 1, 0), (8, .if_icmp .eq 16, 3, 24), (11, .iload_n 1, 1, 0), (12, .ifCond .lt 12, 3, 24), (15, .iload_n 1, 1, 0), (16, .iconst 1, 1, 0), (17, .if_icmp .gt 7, 3, 24), (20, .iload_n 2, 1, 0), (21, .ifCond .ge 5, 3, 26), (24, .iconst (-1), 1, 0), (25, .ireturn, 1, 0), (80, .iload 5, 2, 0), (82, .iconst 5, 1, 0), (83, .idiv, 1, 0), (84, .istore 6, 2, 0), (86, .iload 6, 2, 0), (88, .aload_n 0, 1, 0), (89, .getfield 27, 3, 0), (92, .getfield 91, 3, 0), (95, .if_icmp .lt 5, 3, 100), (98, .iconst (-1), 1, 0), (99, .ireturn, 1, 0), (100, .aload_n 0, 1, 0), (101, .aload_n 0, 1, 0), (102, .getfield 27, 3, 0), (105, .getfield 103, 3, 0), (108, .iload 6, 2, 0), (110, .iaload, 1, 0), (111, .iload 5, 2, 0), (113, .iload 6, 2, 0), (115, .iconst 5, 1, 0), (116, .imul, 1, 0), (117, .isub, 1, 0), (118, .invokevirtual 169, 3, 0), (121, .ireturn, 1, 0)]
def vl_W2 : List (Nat × Nat × Nat × Nat × Nat × Nat) := [(169, k_X7_letterOfCell, 2, 7, 0, 0)]
def m_W2 : x_M := (RX7, yX7_words, cX7_words, 7, (some .int), x_lk il_W2, x_lk fl_X7, x_lk vl_W2, x_lk [], x_lk [], x_lk [], x_lk [], x_exn, x_lk [], [])
theorem ci_W2 : x_ckI cX7_words il_W2 = true := by decide +kernel
theorem tb_W2 : x_Tb m_W2 := x_Tb_of (il := il_W2) (fl := fl_X7) (vl := vl_W2) (sl := []) (pl := []) (nl := []) (tl := []) (kl := []) false ci_W2 fk_X7 (fun h => by cases h) (List.forall_mem_nil _) (List.forall_mem_nil _) (List.forall_mem_nil _) (List.forall_mem_nil _)
theorem tc_W2 {En : (Nat → Prop) → State → Heap → Prop} : x_Tc x_MM En m_W2 := x_Tc_of (vl := vl_W2) (sl := []) (pl := []) (List.forall_mem_cons.mpr ⟨⟨m_X7_letterOfCell, _, rfl, rfl, rfl, rfl, wx_m169, wx_i169, wx_s169, wx_nX7, by decide +kernel⟩, List.forall_mem_nil _⟩) (List.forall_mem_nil _) (List.forall_mem_nil _)
theorem dw_26 : decode cX7_words 26 = .ok (.getstatic 147, 3) := by decide +kernel
theorem dw_29 : decode cX7_words 29 = .ok (.aload_n 0, 1) := by decide +kernel
theorem dw_30 : decode cX7_words 30 = .ok (.getfield 27, 3) := by decide +kernel
theorem dw_33 : decode cX7_words 33 = .ok (.getfield 88, 3) := by decide +kernel
theorem dw_36 : decode cX7_words 36 = .ok (.aaload, 1) := by decide +kernel
theorem dw_37 : decode cX7_words 37 = .ok (.astore_n 3, 1) := by decide +kernel
theorem dw_38 : decode cX7_words 38 = .ok (.iload_n 1, 1) := by decide +kernel
theorem dw_39 : decode cX7_words 39 = .ok (.ifCond .ne 10, 3) := by decide +kernel
theorem dw_42 : decode cX7_words 42 = .ok (.aload_n 3, 1) := by decide +kernel
theorem dw_43 : decode cX7_words 43 = .ok (.getfield 151, 3) := by decide +kernel
theorem dw_46 : decode cX7_words 46 = .ok (.goto 7, 3) := by decide +kernel
theorem dw_49 : decode cX7_words 49 = .ok (.aload_n 3, 1) := by decide +kernel
theorem dw_50 : decode cX7_words 50 = .ok (.getfield 157, 3) := by decide +kernel
theorem dw_53 : decode cX7_words 53 = .ok (.astore 4, 2) := by decide +kernel
theorem dw_55 : decode cX7_words 55 = .ok (.iload_n 2, 1) := by decide +kernel
theorem dw_56 : decode cX7_words 56 = .ok (.aload 4, 2) := by decide +kernel
theorem dw_58 : decode cX7_words 58 = .ok (.invokevirtual 160, 3) := by decide +kernel
theorem dw_61 : decode cX7_words 61 = .ok (.if_icmp .ge 10, 3) := by decide +kernel
theorem dw_64 : decode cX7_words 64 = .ok (.aload 4, 2) := by decide +kernel
theorem dw_66 : decode cX7_words 66 = .ok (.iload_n 2, 1) := by decide +kernel
theorem dw_67 : decode cX7_words 67 = .ok (.invokevirtual 165, 3) := by decide +kernel
theorem dw_70 : decode cX7_words 70 = .ok (.ireturn, 1) := by decide +kernel
theorem dw_71 : decode cX7_words 71 = .ok (.iload_n 2, 1) := by decide +kernel
theorem dw_72 : decode cX7_words 72 = .ok (.aload 4, 2) := by decide +kernel
theorem dw_74 : decode cX7_words 74 = .ok (.invokevirtual 160, 3) := by decide +kernel
theorem dw_77 : decode cX7_words 77 = .ok (.isub, 1) := by decide +kernel
theorem dw_78 : decode cX7_words 78 = .ok (.istore 5, 2) := by decide +kernel
abbrev w_W (c1 c2 c3 c4 c5 c6 c7 c8 c10 : x_C) (a1 a2 a4 a5 a6 : Value) (step b4 b5 b6 reasons : Int32) (rn : Nat) (rf : Nat → Int32) (r : List x_C) : List x_C := .inr (7, [a1, a2, .ref 9, a4, a5, a6]) :: c1 :: c2 :: c3 :: c4 :: c5 :: c6 :: c7 :: c8 :: .inr (2, [.ref 10, .ref 11, .int step, .int b4, .int b5, .int b6, .int reasons]) :: c10 :: .inl (.int, rn, .inl rf) :: r
section XWD
variable {sc : Nat × (Nat → Int32)} {C : x_TC} {Q : x_O → x_H → Prop} {P : Nat → x_L → List Value → x_H → Prop} {c1 c2 c3 c4 c5 c6 c7 c8 c10 : x_C} {a1 a2 a4 a5 a6 : Value} {step b4 b5 b6 reasons : Int32} {rn : Nat} {rf : Nat → Int32} {r : List x_C}
theorem wd_head (hP : ∀ pc L st Y, x_st sc m_W2 C Q P pc L st Y → P pc L st Y) {lg i : Int32} (hm : (step = -1 ∨ lg < 0 ∨ 1 < lg ∨ i < 0) → Q (.inl (some (.int (-1)))) (w_W c1 c2 c3 c4 c5 c6 c7 c8 c10 a1 a2 a4 a5 a6 step b4 b5 b6 reasons rn rf r, 0, 0))
    (h26 : ¬ (step = -1 ∨ lg < 0 ∨ 1 < lg ∨ i < 0) → P 26 [some (.ref 0), some (.int lg), some (.int i), none, none, none, none] [] (w_W c1 c2 c3 c4 c5 c6 c7 c8 c10 a1 a2 a4 a5 a6 step b4 b5 b6 reasons rn rf r, 0, 0)) :
    P 0 [some (.ref 0), some (.int lg), some (.int i), none, none, none, none] [] (w_W c1 c2 c3 c4 c5 c6 c7 c8 c10 a1 a2 a4 a5 a6 step b4 b5 b6 reasons rn rf r, 0, 0) := by
  have e1 : Int32.ofInt 1 = (1 : Int32) := by decide
  have em : Int32.ofInt (-1) = (-1 : Int32) := by decide
  have out : (step = -1 ∨ lg < 0 ∨ 1 < lg ∨ i < 0) → P 24 [some (.ref 0), some (.int lg), some (.int i), none, none, none, none] [] (w_W c1 c2 c3 c4 c5 c6 c7 c8 c10 a1 a2 a4 a5 a6 step b4 b5 b6 reasons rn rf r, 0, 0) := by
    intro h
    refine hP _ _ _ _ ?_
    refine hP _ _ _ _ ?_
    have h9 := hm h
    rw [← em] at h9
    exact h9
  refine hP _ _ _ _ ?_
  refine hP _ _ _ _ ?_
  refine hP _ _ _ _ ?_
  refine hP _ _ _ _ ?_
  refine hP _ _ _ _ (And.intro (fun h => out (Or.inl (show step = -1 from Eq.trans h em))) (fun h1 => ?_))
  refine hP _ _ _ _ ?_
  refine hP _ _ _ _ (And.intro (fun h => out (Or.inr (Or.inl h))) (fun h2 => ?_))
  refine hP _ _ _ _ ?_
  refine hP _ _ _ _ ?_
  refine hP _ _ _ _ (And.intro (fun h => out (Or.inr (Or.inr (Or.inl ?_)))) (fun h3 => ?_))
  · have h9 : Int32.ofInt 1 < lg := h
    rw [e1] at h9; exact h9
  refine hP _ _ _ _ ?_
  refine hP _ _ _ _ (And.intro (fun h => h26 ?_) (fun h4 => out (Or.inr (Or.inr (Or.inr ?_)))))
  · have g3 : ¬ Int32.ofInt 1 < lg := h3
    rw [e1] at g3
    rintro (q | q | q | q)
    · exact h1 (show step = Int32.ofInt (-1) from q.trans em.symm)
    · exact h2 q
    · exact g3 q
    · exact absurd h (Int32.not_le.mpr q)
  · exact Int32.not_le.mp h4
theorem wd_tail (hP : ∀ pc L st Y, x_st sc m_W2 C Q P pc L st Y → P pc L st Y) (hC : x_Cm C) {lg i v : Int32} (h1 : reasons ≤ v / 5 → Q (.inl (some (.int (-1)))) (w_W c1 c2 c3 c4 c5 c6 c7 c8 c10 a1 a2 a4 a5 a6 step b4 b5 b6 reasons rn rf r, 0, 0))
    (h2 : ¬ reasons ≤ v / 5 → vp_in (v / 5) rn ∧ C k_X7_letterOfCell [.ref 0, .int (rf (v / 5).toNatClampNeg), .int (v - v / 5 * 5)] (w_W c1 c2 c3 c4 c5 c6 c7 c8 c10 a1 a2 a4 a5 a6 step b4 b5 b6 reasons rn rf r, 0, 0) fun o Y => match o with
        | .inl (some (.int x)) => Q (.inl (some (.int x))) (Y.1, 0, 0)
        | _ => False) :
    P 80 [some (.ref 0), some (.int lg), some (.int i), none, none, some (.int v), none] [] (w_W c1 c2 c3 c4 c5 c6 c7 c8 c10 a1 a2 a4 a5 a6 step b4 b5 b6 reasons rn rf r, 0, 0) := by
  have em : Int32.ofInt (-1) = (-1 : Int32) := by decide
  rw [show (5 : Int32) = Int32.ofInt 5 by decide] at h1 h2
  rw [← em] at h1
  refine hP _ _ _ _ ?_
  refine hP _ _ _ _ ?_
  refine hP _ _ _ _ (And.intro (by decide) ?_)
  refine hP _ _ _ _ ?_
  refine hP _ _ _ _ ?_
  refine hP _ _ _ _ ?_
  refine hP _ _ _ _ ?_
  refine hP _ _ _ _ ?_
  refine hP _ _ _ _ (And.intro (fun h => ?_) (fun h => ?_))
  · obtain ⟨hin, hcall⟩ := h2 (fun q => absurd h (Int32.not_lt.mpr q))
    refine hP _ _ _ _ ?_
    refine hP _ _ _ _ ?_
    refine hP _ _ _ _ ?_
    refine hP _ _ _ _ ?_
    refine hP _ _ _ _ ?_
    refine hP _ _ _ _ (And.intro hin ?_)
    refine hP _ _ _ _ ?_
    refine hP _ _ _ _ ?_
    refine hP _ _ _ _ ?_
    refine hP _ _ _ _ ?_
    refine hP _ _ _ _ ?_
    refine hP _ _ _ _ (hC _ _ _ _ _ (fun o Y h => ?_) hcall)
    rcases o with v9 | E
    · cases v9 with
      | none => exact h.elim
      | some w =>
        cases w with
        | int x => exact hP _ _ _ _ h
        | _ => exact h.elim
    · exact h.elim
  · refine hP _ _ _ _ ?_
    refine hP _ _ _ _ ?_
    exact h1 (Int32.not_lt.mp h)
end XWD
theorem x_nm_128 : ∀ g, g < 2 → ∀ n, n < 19 → ((x_nm g).getD n []).length < 2 ^ 31 ∧ ∀ b ∈ (x_nm g).getD n [], b < 128 := by decide +kernel
section XMD
variable {p : Program} {l : Launch} {e : Env} {R : Room} {s : State} {m : MethodId} {args : Array Value} {below : List Frame} {meth : Method} {c : Code} {QQ : State → Prop} {D : va_G} {cO : FieldType → ClassId} {A : Nat → Prop} {X0 : List x_C} {ad0 : Nat → Nat} {mcT msT : Nat} {sc : Nat × (Nat → Int32)} {b0 : Nat}
variable {c1 c2 c3 c4 c5 c6 c7 c8 c10 : x_C} {a1 a2 a4 a5 a6 : Value} {b4 b5 b6 reasons : Int32} {rn : Nat} {rf : Nat → Int32} {r : List x_C}
set_option maxHeartbeats 2000000 in
theorem wd_mid (hX : x_Ctx p R s m args meth c m_W2 D cO (x_En sc b0) A mcT msT) {k n g : Nat} (hn : n < 19) (hg2 : g < 2) (hk : k < 2 ^ 31) {t : List Nat} (ht : (x_nm g).getD n [] = t)
    (h70 : k < t.length → ∀ L, x_P p l e R s m args below meth c QQ D cO A 7 X0 ad0 mcT msT 70 L [.int (nI (t.getD k 0))] (w_W c1 c2 c3 c4 c5 c6 c7 c8 c10 a1 a2 a4 a5 a6 (nI n) b4 b5 b6 reasons rn rf r, 0, 0))
    (h80 : ¬ k < t.length → x_P p l e R s m args below meth c QQ D cO A 7 X0 ad0 mcT msT 80 [some (.ref 0), some (.int (nI g)), some (.int (nI k)), none, none, some (.int (nI k - nI t.length)), none] [] (w_W c1 c2 c3 c4 c5 c6 c7 c8 c10 a1 a2 a4 a5 a6 (nI n) b4 b5 b6 reasons rn rf r, 0, 0)) :
    x_P p l e R s m args below meth c QQ D cO A 7 X0 ad0 mcT msT 26 [some (.ref 0), some (.int (nI g)), some (.int (nI k)), none, none, none, none] [] (w_W c1 c2 c3 c4 c5 c6 c7 c8 c10 a1 a2 a4 a5 a6 (nI n) b4 b5 b6 reasons rn rf r, 0, 0) := by
  intro ad H locs cells slots ls hR
  obtain ⟨hx, hb, hml, hown, hts, hK, hA, hE, hmc, hms, hnm, hfr, hlc⟩ := hX
  have hb : c.code = cX7_words := hb
  have hml : c.maxLocals = 7 := hml
  have hown : s.vm.findClass RX7 = some m.cls := hown
  obtain ⟨-, -, -, -, -, hZ, tN, aN, n1, n2, n3⟩ := hE
  obtain ⟨r1, r2, r3, r4, r5, r6, r7⟩ := hR
  obtain ⟨aS, q1, q2⟩ := n3 g n hg2 hn
  obtain ⟨hlen, h128⟩ := x_nm_128 g hg2 n hn
  rw [ht] at q2 hlen h128
  refine va_gets hx hb n1 r5 hown (hts _ wx_f147) (fun _ q => q) dw_26 ?_
  refine lv_aload_n hx hb dw_29 rfl (r6.at (k := 0) rfl) ?_
  obtain ⟨C9, T9, N9, ty0, g1, g2, g3, g4, -⟩ := tb_W2.2.1 27 7 2 _ _ rfl
  refine va_get hx hb hts g3 hown hK r3 0 (x_at0 (c := .inr (7, [a1, a2, .ref 9, a4, a5, a6])) rfl) g1 2 g2 (hts _ g4) (fun _ q => q) (v := .ref (ad 9)) rfl dw_30 ?_
  obtain ⟨C8, T8, N8, ty8, f1, f2, f3, f4, -⟩ := tb_W2.2.1 88 2 2 _ _ rfl
  refine va_get hx hb hts f3 hown hK r3 9 (x_at0 (c := .inr (2, [.ref 10, .ref 11, .int (nI n), .int b4, .int b5, .int b6, .int reasons])) rfl) f1 2 f2 (hts _ f4) (fun _ q => q) (v := .int (nI n)) rfl dw_33 ?_
  refine vb_tq hx hb n2 r5 (vp_in_nI hn (by decide)) (v := .ref (aN n)) (by rw [nI_clamp (by omega)]) dw_36 ?_
  refine lv_astore_n hx hb dw_37 rfl r6.2.1 (by decide) rfl (fun ls1 l1 => ?_)
  have r6' : x_lv ad [some (.ref 0), some (.int (nI g)), some (.int (nI k)), none, none, none, none] ls1 7 := r6.unset l1
  have h3 : ls1[3]? = some (.val (.ref (aN n))) := lv_at l1 0 rfl
  have go53 : W p l e R s m args below meth c H locs cells slots QQ (F0 m 53 ls1 [.ref aS]) := by
    refine lv_astore hx hb dw_53 r6'.2.1 (by decide) rfl (fun ls2 l2 => ?_)
    have r8 : x_lv ad [some (.ref 0), some (.int (nI g)), some (.int (nI k)), none, none, none, none] ls2 7 := r6'.unset l2
    have h4 : ls2[4]? = some (.val (.ref aS)) := lv_at l2 0 rfl
    have hi : ls2[2]? = some (.val (.int (nI k))) := r8.at (k := 2) rfl
    obtain ⟨cell, o1, o2, o3, -⟩ := q2.1.kept r5.2.1
    have hB1 : ∀ U : State, U.heap = H → s.WarmedH U.vm → x_B1 aS t U U.heap := by
      intro U hU hW
      rw [hU]
      exact x_B1.moved hW.alike ⟨(q2.kept r5.2.1).narrow (fun _ h => h.elim), ⟨(hZ.1.kept r5.2.1).narrow (fun _ h => h.elim), (hZ.2.kept r5.2.1).narrow (fun _ h => h.elim)⟩⟩
    have hroom : cells + 0 ≤ R.cells ∧ slots + 0 ≤ R.slots := ⟨by omega, by omega⟩
    have call : ∀ {pc : Nat} {rest : List Value}, decode cX7_words pc = .ok (.invokevirtual 160, 3) → (rest.map fun v => v.category).sum ≤ 8 → W p l e R s m args below meth c H locs cells slots QQ (F0 m (pc + 3) ls2 (.int (nI t.length) :: rest)) → W p l e R s m args below meth c H locs cells slots QQ (F0 m pc ls2 (.ref aS :: rest)) := by
      intro pc rest hd hrm kk
      exact W.callR (W.runV (C := RJ0) (b := aS) (As := []) (nL := 7) ⟨hx, hb, hml, hown, hts⟩ (x_length l aS t hlen) (cwV 0 hts (x_gv wx_m160 wx_i160 wx_s160 wx_nJ0 wx_length) rfl rfl rfl (by decide +kernel) ⟨by show 1 + 1 ≤ R.frames; omega, by show 8 + (1 + 11) + 40 ≤ R.locals; omega⟩) ⟨x_blS (fun _ _ _ h => x_B1.moved h), ⟨cell, o1, o2, o3⟩, fun U hU hW => ⟨rfl, hB1 U hU hW⟩⟩ rfl rfl l2.1 rfl (lv_room hrm) hd hroom) kk
    refine lv_iload_n hx hb dw_55 rfl hi ?_
    refine lv_aload hx hb dw_56 h4 ?_
    refine call dw_58 (Nat.le_of_ble_eq_true rfl) ?_
    refine lv_icmp_ge hx hb dw_61 (tgt := 71) rfl (fun hge => ?_) (fun hlt => ?_)
    · have hnk : ¬ k < t.length := fun q => nI_ge q hlen hge
      refine lv_iload_n hx hb dw_71 rfl hi ?_
      refine lv_aload hx hb dw_72 h4 ?_
      refine call dw_74 (Nat.le_of_ble_eq_true rfl) ?_
      refine lv_isub hx hb dw_77 ?_
      refine lv_istore hx hb dw_78 r8.2.1 (by decide) rfl (fun ls3 l3 => ?_)
      exact h80 hnk ad H locs cells slots ls3 ⟨r1, r2, r3, r4, r5, r8.set (k := 5) (v := .int _) rfl l3, r7⟩
    · have hk' : k < t.length := by
        rcases Nat.lt_or_ge k t.length with q | q
        · exact q
        · exact absurd (nI_le q hk) hlt
      have h8 : t.getD k 0 < 128 := h128 _ (by rw [List.getD_eq_getElem?_getD, List.getElem?_eq_getElem hk']; exact List.getElem_mem hk')
      refine lv_aload hx hb dw_64 h4 ?_
      refine lv_iload_n hx hb dw_66 rfl hi ?_
      refine W.callR (W.runV (C := RJ0) (b := aS) (As := [.int (nI k)]) (nL := 7) ⟨hx, hb, hml, hown, hts⟩ (x_charAt l aS k t hlen hk' h8) (cwV 1 hts (x_gv wx_m165 wx_i165 wx_s165 wx_nJ0 wx_charAt) rfl rfl rfl (by decide +kernel) ⟨by show 3 + 1 ≤ R.frames; omega, by show 8 + (2 + 11) + 40 * 3 ≤ R.locals; omega⟩) ⟨x_blS (fun _ _ _ h => x_B1.moved h), ⟨cell, o1, o2, o3⟩, fun U hU hW => ⟨rfl, hB1 U hU hW⟩⟩ rfl rfl l2.1 rfl (lv_room (Nat.le_of_ble_eq_true rfl)) dw_67 hroom) ?_
      exact h70 hk' _ ad H locs cells slots ls2 ⟨r1, r2, r3, r4, r5, r8, r7⟩
  refine lv_iload_n hx hb dw_38 rfl (r6'.at (k := 1) rfl) ?_
  refine lv_if_ne hx hb dw_39 (tgt := 49) rfl (fun hne => ?_) (fun heq => ?_)
  · have hg1 : g = 1 := by
      rcases (show g = 0 ∨ g = 1 by omega) with rfl | rfl
      · exact absurd nI_0 hne
      · rfl
    subst hg1
    refine lv_aload_n hx hb dw_49 rfl h3 ?_
    exact vk_getf hx hb q1 r5 hown (hts _ wx_f157) (fun _ q => q) dw_50 go53
  · have hg1 : g = 0 := by
      rcases (show g = 0 ∨ g = 1 by omega) with rfl | rfl
      · rfl
      · exact absurd heq (nI_ne0 (by decide) (by decide))
    subst hg1
    refine lv_aload_n hx hb dw_42 rfl h3 ?_
    refine vk_getf hx hb q1 r5 hown (hts _ wx_f151) (fun _ q => q) dw_43 ?_
    exact lv_goto hx hb dw_46 (tgt := 53) rfl go53
end XMD
theorem x_dst {l : List x_C} {z : x_C} (h : l[11]? = some z) : ∃ c0 c1 c2 c3 c4 c5 c6 c7 c8 c9 c10 r, l = c0 :: c1 :: c2 :: c3 :: c4 :: c5 :: c6 :: c7 :: c8 :: c9 :: c10 :: z :: r := by
  rcases l with _ | ⟨c0, l⟩
  · simp at h
  rcases l with _ | ⟨c1, l⟩
  · simp at h
  rcases l with _ | ⟨c2, l⟩
  · simp at h
  rcases l with _ | ⟨c3, l⟩
  · simp at h
  rcases l with _ | ⟨c4, l⟩
  · simp at h
  rcases l with _ | ⟨c5, l⟩
  · simp at h
  rcases l with _ | ⟨c6, l⟩
  · simp at h
  rcases l with _ | ⟨c7, l⟩
  · simp at h
  rcases l with _ | ⟨c8, l⟩
  · simp at h
  rcases l with _ | ⟨c9, l⟩
  · simp at h
  rcases l with _ | ⟨c10, l⟩
  · simp at h
  rcases l with _ | ⟨c11, l⟩
  · simp at h
  have e : c11 = z := by simpa using h
  subst e
  exact ⟨c0, c1, c2, c3, c4, c5, c6, c7, c8, c9, c10, l, rfl⟩
