/-! ===== words(g, i): its contract ===== -/
theorem x_nm_at : ∀ g, g < 2 → ∀ n, n < 19 → (x_nm g)[n]? = some ((x_nm g).getD n []) := by decide +kernel
theorem x_gAt {t : List Nat} {k : Nat} (h : k < t.length) : t[k]? = some (t.getD k 0) := by
  rw [List.getD_eq_getElem?_getD, List.getElem?_eq_getElem h]; rfl
set_option maxHeartbeats 4000000 in
theorem x_wordsX (l : Launch) {sc : Nat × (Nat → Int32)} {b0 : Nat} {D : va_G} {cO : FieldType → ClassId} : ∀ d, x_Con l sc b0 D cO (x_En sc b0) x_MM x_EX d → ∀ (mj : Nat) (M : x_M), x_MM mj = some M → M.tab 0 = none → ∀ (ad : Nat → Nat) (X : List x_C) (av : List Value) (bc bs sz : Nat) (Q : x_O → x_H → Prop), ad x_SP = b0 → x_EX (x_run sc x_MM x_EX d) mj av (X, bc, bs) Q →
    vx_Met l M.nam (x_ws M) (x_rm (d + 1) bc bs) (x_Pre D cO (x_En sc b0) ad X av sz) (x_Post D cO ad X sz bc Q) (x_PostX D cO ad X sz bc Q) bc bs (va_A (x_wk ad cO 0 X) sz) := by
  intro d ih mj M hM ht0 ad X av bc bs sz Q hsp h
  obtain ⟨hmj, hz, lg, i, hav, a1, a2, a4, a5, a6, step, b4, b5, b6, reasons, rn, rf, g1, g2, g3, g4, g5⟩ := h
  subst hmj
  subst hav
  have hz0 : bc = 0 ∧ bs = 0 := by simpa using hz
  obtain ⟨hz1, hz2⟩ := hz0
  subst hz1
  subst hz2
  have hM9 : x_MM k_X7_words = some m_X7_words := rfl
  rw [hM9] at hM
  have hM8 := Option.some.inj hM
  subst hM8
  have g1 : X[0]? = some (.inr (7, [a1, a2, .ref 9, a4, a5, a6])) := g1
  have g2 : X[9]? = some (.inr (2, [.ref 10, .ref 11, .int step, .int b4, .int b5, .int b6, .int reasons])) := g2
  have g3 : X[11]? = some (.inl (.int, rn, .inl rf)) := g3
  obtain ⟨c0, c1, c2, c3, c4, c5, c6, c7, c8, c9, c10, r, hXe⟩ := x_dst g3
  rw [hXe] at g1 g2
  have e0 : c0 = .inr (7, [a1, a2, .ref 9, a4, a5, a6]) := Option.some.inj g1
  have e9 : c9 = .inr (2, [.ref 10, .ref 11, .int step, .int b4, .int b5, .int b6, .int reasons]) := Option.some.inj g2
  subst e0
  subst e9
  clear g1 g2 g3
  refine vx_ofW (cc := cX7_words) (maxL := 7) (ret := some .int) (ws' := x_T) (by decide +kernel) rfl ?_
  intro p e s m args below meth c s₁ B hml hnt hv
  obtain ⟨hav, hsz, hP, hK, hD0, hE⟩ := hv
  subst hav
  have hts0 : ∀ w ∈ x_ws m_X7_words, w.before (([.ref 0, .int lg, .int i] : List Value).map (x_rv ad)).toArray s = true := atoms_spec (ws := x_ws m_X7_words) B.pre
  have hts : ∀ w ∈ x_T, w.before (([.ref 0, .int lg, .int i] : List Value).map (x_rv ad)).toArray s = true := fun w hw => hts0 w (List.mem_cons_of_mem _ hw)
  have hown : s.vm.findClass RX7 = some m.cls := findClass_of_methodNamed B.named
  subst hsz
  have hD := hD0.self (sz := s.heap.size)
  generalize hAe : va_A (x_wk ad cO 0 X) s.heap.size = A at hD hE ⊢
  have hA : ∀ q : Nat, s.heap.size ≤ q → A q := fun q h => by rw [← hAe]; exact Or.inr h
  have hS : va_S A s.heap s.heap [] := va_S.rf
  obtain ⟨ls, hent, hlv⟩ := x_entry ad m_W2 m (av := [.ref 0, .int lg, .int i]) ⟨rfl, rfl, rfl, trivial⟩ (Nat.le_of_ble_eq_true rfl)
  have hent' : entryFrame m (([.ref 0, .int lg, .int i] : List Value).map (x_rv ad)).toArray 7 = F0 m 0 ls [] := hent
  rw [hent']
  have hnm : meth.name = m_W2.nam.name := (name_of_methodNamed B.named B.method).1
  have hx : x_Ctx p (headSpec (x_ws m_X7_words) (x_rm (d + 1) 0 0)).room s m (([.ref 0, .int lg, .int i] : List Value).map (x_rv ad)).toArray meth c m_W2 D cO (x_En sc b0) A 0 0 := ⟨B.exec, B.bytes, hml, hown, hts, hK, hA, hE, Nat.le_refl _, Nat.le_refl _, hnm, by show 9 ≤ d + 1 + 8; omega, by show 240 ≤ 40 * (d + 1) + 200; omega⟩
  have hcalls := x_calls (x_All_ok (x_En_nw sc b0)) ih tc_W2 (R := (headSpec (x_ws m_X7_words) (x_rm (d + 1) 0 0)).room) hts hE ⟨by show d + 9 ≤ d + 1 + 8; omega, by show 40 * d + 240 ≤ 40 * (d + 1) + 200; omega⟩
  have hlocks : meth.locks = false := B.notSynchronized
  have hZ : x_Ends p l e (headSpec (x_ws m_X7_words) (x_rm (d + 1) 0 0)).room s m (([.ref 0, .int lg, .int i] : List Value).map (x_rv ad)).toArray below meth c (vx_MQ below (x_Post D cO ad X s.heap.size 0 Q) (x_PostX D cO ad X s.heap.size 0 Q) (([.ref 0, .int lg, .int i] : List Value).map (x_rv ad)).toArray s 0 0 A) m_W2 Q D cO A X ad 0 0 := by
    intro v pc L Y hQ hv ad' H locs cells slots ls' hR
    obtain ⟨h1, h2, h3, h4, h5, h6, h7⟩ := hR
    have hpost : ∀ t : State, t.heap = H → s.WarmedH t.vm → x_Post D cO ad X s.heap.size 0 Q (([.ref 0, .int lg, .int i] : List Value).map (x_rv ad)).toArray s (.returned (v.map (x_rv ad'))) t := by
      intro t ht hWt
      refine ⟨⟨v, Y, ad', rfl, hQ, h7, ?_, va_K.moved hWt.alike hK, ?_⟩, ?_⟩
      · rw [ht]; exact h3
      · rw [hAe]; exact h4
      · rw [hAe]; exact h5.F ht
    have hr := B.returns
    refine W.widen (k := 0) (n := 0) (by omega) (by omega) (vx_ret ?_)
    rcases hv with ⟨x, rfl, hd, hx⟩ | ⟨x, rfl, hd, hx⟩ | ⟨rfl, hd, hx⟩
    · obtain ⟨ty, hty, hx⟩ := hx
      exact W.zret B.exec B.bytes (hr.trans hty) hx hpost h5.2.2 hd hlocks
    · exact W.lret B.exec B.bytes (hr.trans hx) hpost h5.2.2 hd hlocks
    · exact W.vret B.exec B.bytes (hr.trans hx) hpost h5.2.2 hd hlocks
  have hZX : x_EndX p l e (headSpec (x_ws m_X7_words) (x_rm (d + 1) 0 0)).room s m (([.ref 0, .int lg, .int i] : List Value).map (x_rv ad)).toArray below meth c (vx_MQ below (x_Post D cO ad X s.heap.size 0 Q) (x_PostX D cO ad X s.heap.size 0 Q) (([.ref 0, .int lg, .int i] : List Value).map (x_rv ad)).toArray s 0 0 A) m_W2 Q D cO A X ad 0 0 := by
    intro E pc L st Y hex hQ ad' H locs cells slots ls' q ce hR k1 k2 k3
    obtain ⟨h1, h2, h3, h4, h5, h6, h7⟩ := hR
    refine vx_out (fun x hx => (hnt x hx).elim) hlocks k1 k2 k3 (fun t ht hWt => ⟨⟨Y, ad', hQ, h7, ?_, va_K.moved hWt hK, ?_⟩, ?_⟩) h5.2.2 (by omega) (by omega)
    · rw [ht]; exact h3
    · rw [hAe]; exact h4
    · rw [hAe]; exact h5.F ht
  have hstep := x_snd (x_En_ok sc b0) x_Gw_ok tb_W2 hx hsp hE.1 hcalls.1 hcalls.2.1 hcalls.2.2 hZ hZX (fun E pc h k hq => by cases (show (some none : Option (Option (Nat × Nat))) = some (some (h, k)) from hq)) (fun pc ix len tg E L Y _ h3 => by cases (show (none : Option String) = some E from h3))
  have g4 : (step = -1 ∨ lg < 0 ∨ 1 < lg ∨ i < 0) → Q (.inl (some (.int (-1)))) (X, 0, 0) := g4
  rw [hXe] at g4
  have hgo := wd_head hstep g4 (fun hne => by
    obtain ⟨hin, hgt⟩ := g5 hne
    obtain ⟨n, hn31, hn⟩ := nI_of (x := step) (fun q => hin (Or.inl q))
    obtain ⟨g, hg31, hg⟩ := nI_of (x := lg) (fun q => hne (Or.inr (Or.inl q)))
    obtain ⟨k, hk31, hk⟩ := nI_of (x := i) (fun q => hne (Or.inr (Or.inr (Or.inr q))))
    subst hn
    subst hg
    subst hk
    have hn19 : n < 19 := Nat.not_le.mp fun q => hin (Or.inr (by rw [nI_clamp hn31]; exact q))
    have hg2 : g < 2 := Nat.not_le.mp fun q => hne (Or.inr (Or.inr (Or.inl (nI_lt (a := 1) (b := g) (by omega) hg31))))
    have hT := hgt ((x_nm g).getD n []) (by rw [nI_clamp hn31, nI_clamp hg31]; exact x_nm_at g hg2 n hn19)
    obtain ⟨hlen, -⟩ := x_nm_128 g hg2 n hn19
    rw [hXe] at hT
    refine wd_mid hx hn19 hg2 hk31 rfl (fun hkt L => ?_) (fun hkt => ?_)
    · exact hZ (some (.int _)) 70 L _ (hT.1 (nI_lt hkt hlen) _ (by rw [nI_clamp hk31]; exact x_gAt hkt)) (Or.inl ⟨_, rfl, dw_70, _, rfl, rfl⟩)
    · obtain ⟨t1, t2⟩ := hT.2 (nI_nlt (Nat.not_lt.mp hkt) hk31)
      refine wd_tail hstep (x_hC sc d) t1 (fun q => ?_)
      obtain ⟨t3, t4⟩ := t2 q
      refine ⟨t3, x_hC sc d _ _ _ _ _ (fun o Y h => ?_) t4⟩
      rcases o with v9 | E
      · cases v9 with
        | none => exact h
        | some w => cases w <;> exact h
      · exact h)
  exact hgo ad s.heap [] 0 0 ls ⟨by show 0 + 0 ≤ 0; omega, by show 0 + 0 ≤ 0; omega, by rw [hXe] at hP; exact hP, by rw [hXe] at hD; exact hD, hS, hlv, ⟨by rw [hXe]; exact Nat.le_refl _, ⟨fun _ _ => rfl, rfl⟩, fun _ => rfl⟩⟩
