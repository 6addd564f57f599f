/-! ===== the class: colours, the whole look ===== -/
section KC
variable {sc : Nat × (Nat → Int32)} {cs : x_S} {tl : List x_C} {bb : Nat × Nat} {n w h d : Nat} {Q : x_O → x_H → Prop} {cb : Nat → Nat} {vb : Nat → Option Nat} {lt dk lf : Nat → Bool} {m : Nat} {J : Nat → Nat}
theorem clG_out {s : Nat} : ∀ e, n * n ≤ e → clG cb n w h s lt dk (n * n) e = 0 := fun e he => by unfold clG; rw [decide_eq_false (by omega), Bool.false_and]; rfl
theorem c_takes (hB : bC cs n w h cb vb) (hZ : zC cs n) (hJ : joC cs n m J lt dk) (hK : mrC cs n lt dk lf) {s : Nat} (hs : s < n) (hbt : ∀ x c, c < n * n → xc lt dk x c = true → (cb c).testBit s = true) (hT : ∀ cs', scC cs cs' → anyG (clG cb n w h s lt dk (n * n)) = true → rsC cs' n (none, clG cb n w h s lt dk (n * n), clR lt dk (n * n)) → Q (.inl (some (.int (bI true)))) (w_C n cs' tl bb)) (hF : ∀ cs', frS cs cs' → anyG (clG cb n w h s lt dk (n * n)) = false → zC cs' n → Q (.inl (some (.int (bI false)))) (w_C n cs' tl bb)) : x_run sc x_MM x_EX (d + 4) k_X0_takes [.ref 15, .ref 2, .ref 9, .int (nI s)] (w_C n cs tl bb) Q := by
  have hk := hB.1.1
  obtain ⟨g1, g2, g3, g4, g5, g6, g7, g8⟩ := hk.le
  have hm2 := hJ.le
  obtain ⟨z1, z2, z3, z4⟩ := hZ
  have hand : ∀ c, (cb c).testBit s = true → cb c &&& 2 ^ s = 2 ^ s := by
    intro c hc
    apply Nat.eq_of_testBit_eq
    intro t
    rw [Nat.testBit_and, Nat.testBit_two_pow]
    by_cases hst : s = t
    · subst hst; rw [hc]; rfl
    · rw [decide_eq_false hst, Bool.and_false]
  refine x_in (M := m_X0_takes) rfl rfl (Nat.le_of_ble_eq_true rfl) ⟨rfl, rfl, rfl, rfl, trivial⟩ ?_
  intro P hP
  have aft : ∀ cs2 : x_S, frS cs cs2 → oC cs2 n (clG cb n w h s lt dk (n * n)) → P 45 [some (.ref 15), some (.ref 2), some (.ref 9), some (.int (nI s)), none] [] (w_C n cs2 tl bb) := by
    intro cs2 hf ho
    have hJ2 := hf.j hJ
    have hga := gc_any (go := clG cb n w h s lt dk (n * n)) g7 (fun c hc => (ho.1 c hc).2) clG_out
    have hgl := gcN_le (clG cb n w h s lt dk (n * n)) (n * n)
    have lpr : ∀ i, i ≤ m → ∀ cs3 : x_S, frB cs2 cs3 → rC cs3 n (fun e => (List.range i).any fun j => J j / 2 == e) → anyG (clG cb n w h s lt dk (n * n)) = true → P 57 [some (.ref 15), some (.ref 2), some (.ref 9), some (.int (nI s)), some (.int (nI i))] [] (w_C n cs3 tl bb) := by
      refine x_lp m (fun i hi ih cs3 hf3 hr3 ha => ?_)
      have hJ3 := hf3.j hJ2
      repeat refine hP _ _ _ _ ?_
      refine b_ge (i) (m) (fun hi9 => ?_) (fun hi9 => ?_) (rfl) (hJ3.1) (by omega) (by omega)
      · have e9 : i = m := by omega
        subst e9
        repeat refine hP _ _ _ _ ?_
        refine And.intro rfl (hT cs3 (hf.sc.tr hf3.sc) ha ⟨⟨(hf3.1 1 (by decide)).trans ((hf.1 1 (by decide)).trans z1), (hf3.1 2 (by decide)).trans ((hf.1 2 (by decide)).trans z2)⟩, hf3.o ho, rC_congr hr3 (fun e he => ?_)⟩)
        show ((List.range i).any fun j => J j / 2 == e) = clR lt dk (n * n) e
        unfold clR
        rw [decide_eq_true he, Bool.true_and, Bool.eq_iff_iff, List.any_eq_true, Bool.or_eq_true]
        constructor
        · rintro ⟨j, hj, h1⟩
          rw [beq_iff_eq] at h1
          obtain ⟨_, _, q3⟩ := hJ.2.2.1 j (List.mem_range.mp hj)
          rw [h1] at q3
          cases hx : (J j % 2 == 0) with
          | true => rw [hx] at q3; exact Or.inl q3
          | false => rw [hx] at q3; exact Or.inr q3
        · intro h1
          rcases h1 with h1 | h1
          · obtain ⟨j, hj, e2⟩ := hJ.2.2.2 e true he h1
            have e2 : J j = 2 * e + 0 := e2
            exact ⟨j, List.mem_range.mpr hj, by rw [beq_iff_eq]; omega⟩
          · obtain ⟨j, hj, e2⟩ := hJ.2.2.2 e false he h1
            have e2 : J j = 2 * e + 1 := e2
            exact ⟨j, List.mem_range.mpr hj, by rw [beq_iff_eq]; omega⟩
      · have ih := ih hi9
        obtain ⟨p1, p2, p3⟩ := hJ3.2.2.1 i hi9
        repeat refine hP _ _ _ _ ?_
        refine And.intro (vp_in_nI (by omega) (by omega)) ?_
        rw [ldv (f := cs3.2 17) p1 (by omega)]
        repeat refine hP _ _ _ _ ?_
        refine c_bec hk hr3 p2 (sh_half (by omega)) (fun cs4 hf4 hr4 => ?_)
        iterate 2 refine hP _ _ _ _ ?_
        refine x_p4 (P := P) (ih cs4 (hf3.tr hf4) (rC_congr hr4 (fun e _ => by rw [any_s]; by_cases he : e = J i / 2; (rw [he, updB_s, beq_self_eq_true, Bool.or_true]); (rw [updB_n he, beq_eq_false_iff_ne.mpr (fun e9 => he e9.symm), Bool.or_false]))) ha) ?_ rfl ?_ <;> try (first | rfl | (rw [nI_succ]; rfl))
    repeat refine hP _ _ _ _ ?_
    refine And.intro (fun h0 => ?_) (fun h0 => ?_)
    · have h0 : ¬ cs2.1 3 = 0 := h0
      rw [ho.2, nI_z (by omega)] at h0
      have ha : anyG (clG cb n w h s lt dk (n * n)) = true := by
        cases hh : anyG (clG cb n w h s lt dk (n * n)) with
        | true => rfl
        | false => exact absurd (hga.mpr hh) h0
      iterate 2 refine hP _ _ _ _ ?_
      refine x_p4 (P := P) (lpr 0 (by omega) cs2 (frB.rf cs2) (hf.r z4) ha) ?_ rfl ?_ <;> try (first | rfl | (rw [nI_succ]; rfl))
    · have h0 : cs2.1 3 = 0 := Decidable.of_not_not h0
      rw [ho.2, nI_z (by omega)] at h0
      have ha := hga.mp h0
      repeat refine hP _ _ _ _ ?_
      exact And.intro rfl (hF cs2 hf ha ⟨(hf.1 1 (by decide)).trans z1, (hf.1 2 (by decide)).trans z2, oC_0 g7 ho ha, hf.r z4⟩)
  repeat refine hP _ _ _ _ ?_
  refine c_clash hB.1 hJ (x := true) rfl ?_
  repeat refine hP _ _ _ _ ?_
  refine b_ifeq (fun hl => ?_) (fun hl => ?_) (rfl)
  · have hl : clB n w h lt (n * n) = false := hl
    repeat refine hP _ _ _ _ ?_
    refine c_clash hB.1 hJ (x := false) rfl ?_
    repeat refine hP _ _ _ _ ?_
    refine b_ifeq (fun hd => ?_) (fun hd => ?_) (rfl)
    · have hd : clB n w h dk (n * n) = false := hd
      repeat refine hP _ _ _ _ ?_
      refine c_strikeOthers hB hJ hK z3 hs (fun cs3 hf3 ho3 => ?_)
      exact aft cs3 hf3 (oC_congr ho3 (fun e _ => by unfold clG clI; rw [hl, hd]; rfl))
    · have hd : clB n w h dk (n * n) = true := hd
      repeat refine hP _ _ _ _ ?_
      refine c_strikeColour hk hJ z3 hs (x := false) rfl (fun cs3 hf3 ho3 => ?_)
      refine hP _ _ _ _ ?_
      exact aft cs3 hf3 (oC_congr ho3 (fun e he => by unfold clG clI; rw [hl, hd, decide_eq_true he, Bool.true_and]; show (if dk e then 2 ^ s else 0) = (if dk e then cb e &&& 2 ^ s else 0); cases hde : dk e with | false => rfl | true => rw [hand e (hbt false e he hde)]))
  · have hl : clB n w h lt (n * n) = true := hl
    repeat refine hP _ _ _ _ ?_
    refine c_strikeColour hk hJ z3 hs (x := true) rfl (fun cs3 hf3 ho3 => ?_)
    refine hP _ _ _ _ ?_
    exact aft cs3 hf3 (oC_congr ho3 (fun e he => by unfold clG clI; rw [hl, decide_eq_true he, Bool.true_and]; show (if lt e then 2 ^ s else 0) = (if lt e then cb e &&& 2 ^ s else 0); cases hde : lt e with | false => rfl | true => rw [hand e (hbt true e he hde)]))
/-- in a cluster of a lesser cell -/
noncomputable def lfB (cb : Nat → Nat) (n w h s fr : Nat) : Nat → Bool := fun c => (List.range fr).any fun f => (cb f).testBit s && (rcB (lkN cb n w h s) (n * n) f true c || rcB (lkN cb n w h s) (n * n) f false c)
theorem lf_t {s fr c : Nat} : lfB cb n w h s fr c = true ↔ ∃ f x, f < fr ∧ (cb f).testBit s = true ∧ Rch (lkN cb n w h s) (n * n) f c x := by
  unfold lfB
  rw [List.any_eq_true]
  constructor
  · rintro ⟨f, hf, h1⟩
    rw [Bool.and_eq_true, Bool.or_eq_true] at h1
    rcases h1.2 with h2 | h2
    · exact ⟨f, true, List.mem_range.mp hf, h1.1, rcB_t.mp h2⟩
    · exact ⟨f, false, List.mem_range.mp hf, h1.1, rcB_t.mp h2⟩
  · rintro ⟨f, x, hf, hb, hr⟩
    refine ⟨f, List.mem_range.mpr hf, ?_⟩
    rw [hb, Bool.true_and]
    cases x with
    | true => rw [rcB_t.mpr hr]; rfl
    | false => rw [rcB_t.mpr hr]; exact Bool.or_true _
theorem lf_s {s fr : Nat} (c : Nat) : lfB cb n w h s (fr + 1) c = (lfB cb n w h s fr c || ((cb fr).testBit s && (rcB (lkN cb n w h s) (n * n) fr true c || rcB (lkN cb n w h s) (n * n) fr false c))) := any_s _ fr
theorem ls_t {s fr : Nat} (hf : fr < n * n) (hb : (cb fr).testBit s = true) : lsB (rcB (lkN cb n w h s) (n * n) fr true) (rcB (lkN cb n w h s) (n * n) fr false) fr (n * n) = !lfB cb n w h s fr fr := by
  have hsym := lkN_sym cb n w h s
  cases hl : lfB cb n w h s fr fr with
  | true =>
    obtain ⟨f, x, f1, f2, f3⟩ := lf_t.mp hl
    have h3 := f3.sym hsym (show f < n * n by omega)
    show _ = false
    unfold lsB
    rw [List.all_eq_false]
    refine ⟨f, List.mem_range.mpr (by omega), ?_⟩
    have hj : (rcB (lkN cb n w h s) (n * n) fr true f || rcB (lkN cb n w h s) (n * n) fr false f) = true := by
      cases x with
      | true => rw [rcB_t.mpr h3]; rfl
      | false => rw [rcB_t.mpr h3]; exact Bool.or_true _
    rw [hj, decide_eq_false (by omega)]
    decide
  | false =>
    show _ = true
    unfold lsB
    rw [List.all_eq_true]
    intro c hc
    cases hj : (rcB (lkN cb n w h s) (n * n) fr true c || rcB (lkN cb n w h s) (n * n) fr false c) with
    | false => rfl
    | true =>
      rw [Bool.or_eq_true] at hj
      have : ¬ c < fr := by
        intro hcf
        have ⟨x, hr⟩ : ∃ x, Rch (lkN cb n w h s) (n * n) fr c x := by
          rcases hj with h1 | h1
          · exact ⟨true, rcB_t.mp h1⟩
          · exact ⟨false, rcB_t.mp h1⟩
        have := lf_t.mpr ⟨c, x, hcf, rc_bit hb hr, hr.sym hsym hf⟩
        rw [hl] at this
        cases this
      rw [decide_eq_true (by omega)]
      rfl
theorem c_colours (hB : bC cs n w h cb vb) (hZ : zC cs n) (hT : ∀ cs' r, scC cs cs' → clS cb n w h = some r → rsC cs' n r → Q (.inl (some (.int (bI true)))) (w_C n cs' tl bb)) (hF : ∀ cs', scC cs cs' → clS cb n w h = none → zC cs' n → Q (.inl (some (.int (bI false)))) (w_C n cs' tl bb)) : x_run sc x_MM x_EX (d + 5) k_X0_look [.ref 15, .ref 2, .ref 9] (w_C n cs tl bb) Q := by
  have hk := hB.1.1
  obtain ⟨g1, g2, g3, g4, g5, g6, g7, g8⟩ := hk.le
  refine x_in (M := m_X0_look) rfl rfl (Nat.le_of_ble_eq_true rfl) ⟨rfl, rfl, rfl, trivial⟩ ?_
  intro P hP
  have loop : ∀ s, s ≤ n → ∀ cs2 : x_S, scC cs cs2 → zC cs2 n → clS cb n w h = ff (fun s => ff (clF cb n w h s) (n * n - 0) 0) (n - s) s → ∀ x4, P 2 [some (.ref 15), some (.ref 2), some (.ref 9), some (.int (nI s)), x4] [] (w_C n cs2 tl bb) := by
    refine x_lp n (fun s hs3 ih cs2 hsc hz hf x4 => ?_)
    repeat refine hP _ _ _ _ ?_
    refine b_ge (s) (n) (fun hs => ?_) (fun hs => ?_) (rfl) (rfl) (by omega) (by omega)
    · repeat refine hP _ _ _ _ ?_
      exact And.intro rfl (hF cs2 hsc (hf.trans (ff_e hs)) hz)
    · have ih := ih hs
      have cells : ∀ fr, fr ≤ n * n → ∀ cs3 : x_S, scC cs cs3 → zC cs3 n → mrC cs3 n (fun _ => false) (fun _ => false) (lfB cb n w h s fr) → ff (clF cb n w h s) (n * n - 0) 0 = ff (clF cb n w h s) (n * n - fr) fr → P 40 [some (.ref 15), some (.ref 2), some (.ref 9), some (.int (nI s)), some (.int (nI fr))] [] (w_C n cs3 tl bb) := by
        refine x_lp (n * n) (fun fr hfr3 ihc cs3 hsc3 hz3 hK3 hfc => ?_)
        have hB3 := hsc3.b hB
        obtain ⟨hG3, hC3, hV3, hP3, hE3⟩ := hsc3.b hB
        repeat refine hP _ _ _ _ ?_
        refine b_ge (fr) (n * n) (fun hfr => ?_) (fun hfr => ?_) (rfl) (rfl) (by omega) (by omega)
        · iterate 2 refine hP _ _ _ _ ?_
          refine x_p4 (P := P) (ih cs3 hsc3 hz3 (hf.trans (ff_n' (ev := fun s => ff (clF cb n w h s) (n * n - 0) 0) hs (hfc.trans (ff_e hfr)))) (some (.int (nI fr)))) ?_ rfl ?_ <;> try (first | rfl | (rw [nI_succ]; rfl))
        · have ihc := ihc hfr
          have skip9 : ∀ cs5 : x_S, scC cs cs5 → zC cs5 n → mrC cs5 n (fun _ => false) (fun _ => false) (lfB cb n w h s (fr + 1)) → clF cb n w h s fr = none → P 106 [some (.ref 15), some (.ref 2), some (.ref 9), some (.int (nI s)), some (.int (nI fr))] [] (w_C n cs5 tl bb) := by
            intro cs5 h5 hz5 hK5 hn
            iterate 2 refine hP _ _ _ _ ?_
            refine x_p4 (P := P) (ihc cs5 h5 hz5 hK5 (hfc.trans (ff_n' hfr hn))) ?_ rfl ?_ <;> try (first | rfl | (rw [nI_succ]; rfl))
          repeat refine hP _ _ _ _ ?_
          refine And.intro (vp_in_nI hfr (by omega)) ?_
          rw [ldv (f := cs3.2 16) (hK3 fr hfr) (by omega)]
          repeat refine hP _ _ _ _ ?_
          refine And.intro (fun h0 => ?_) (fun h0 => ?_)
          · have h0 : ¬ nI (mv false false (lfB cb n w h s fr fr)) = 0 := h0
            have hlf : lfB cb n w h s fr fr = true := by
              cases hh : lfB cb n w h s fr fr with
              | true => rfl
              | false => rw [hh] at h0; exact absurd rfl h0
            have hsame : ∀ c, lfB cb n w h s (fr + 1) c = lfB cb n w h s fr c := by
              intro c
              rw [lf_s]
              cases hc : lfB cb n w h s fr c with
              | true => rfl
              | false =>
                rw [Bool.false_or]
                cases hx : ((cb fr).testBit s && (rcB (lkN cb n w h s) (n * n) fr true c || rcB (lkN cb n w h s) (n * n) fr false c)) with
                | false => rfl
                | true =>
                  exfalso
                  rw [Bool.and_eq_true, Bool.or_eq_true] at hx
                  obtain ⟨f, x, f1, f2, f3⟩ := lf_t.mp hlf
                  have ⟨y, hr⟩ : ∃ y, Rch (lkN cb n w h s) (n * n) fr c y := by
                    rcases hx.2 with h1 | h1
                    · exact ⟨true, rcB_t.mp h1⟩
                    · exact ⟨false, rcB_t.mp h1⟩
                  rw [lf_t.mpr ⟨f, _, f1, f2, f3.trans hr⟩] at hc
                  cases hc
            refine skip9 cs3 hsc3 hz3 (fun c hc => by rw [hsame c]; exact hK3 c hc) ?_
            unfold clF clE
            rw [if_neg]
            intro hh
            rw [ls_t hfr hh.1, hlf] at hh
            exact absurd hh.2.2 (by decide)
          · have h0 : nI (mv false false (lfB cb n w h s fr fr)) = 0 := Decidable.of_not_not h0
            have hlf : lfB cb n w h s fr fr = false := by
              cases hh : lfB cb n w h s fr fr with
              | false => rfl
              | true => rw [hh] at h0; exact absurd h0 (by decide)
            repeat refine hP _ _ _ _ ?_
            refine And.intro (vp_in_nI hfr (by omega)) ?_
            rw [ldv (f := cs3.2 3) (hC3 fr hfr).1 (by omega)]
            repeat refine hP _ _ _ _ ?_
            refine b_ifeq (fun hbit => ?_) (fun hbit => ?_) (bit1 (hC3.lt g2 hfr) (by omega))
            · refine skip9 cs3 hsc3 hz3 (fun c hc => ?_) (by unfold clF clE; rw [if_neg]; intro hh; rw [hbit] at hh; exact absurd hh.1 (by decide))
              rw [lf_s, hbit, Bool.false_and, Bool.or_false]
              exact hK3 c hc
            · have hls : lsB (rcB (lkN cb n w h s) (n * n) fr true) (rcB (lkN cb n w h s) (n * n) fr false) fr (n * n) = true := by rw [ls_t hfr hbit, hlf]; rfl
              have htwo := rc_two (lk := lkN cb n w h s) (N := n * n) (fr := fr) hfr (lk_irr cb n w h s)
              repeat refine hP _ _ _ _ ?_
              refine c_join hB3 hs hfr hbit hK3 (fun cs4 m J hf4 hJ4 hK4 => ?_)
              have hm2 := hJ4.le
              have hmm := hJ4.2.1
              have hz4 := hf4.z hz3
              have leave : ∀ cs5 : x_S, frS cs4 cs5 → zC cs5 n → clF cb n w h s fr = none → P 102 [some (.ref 15), some (.ref 2), some (.ref 9), some (.int (nI s)), some (.int (nI fr))] [] (w_C n cs5 tl bb) := by
                intro cs5 h5 hz5 hn
                repeat refine hP _ _ _ _ ?_
                refine c_leaveBehind hk (h5.j hJ4) (h5.mr hK4) (fun cs6 hf6 hK6 => ?_)
                exact skip9 cs6 (((hsc3.tr hf4.sc).tr h5.sc).tr hf6.sc) (hf6.z hz5) (fun c hc => by rw [lf_s, hbit, Bool.true_and]; exact hK6 c hc) hn
              repeat refine hP _ _ _ _ ?_
              refine b_le (m) (1) (fun hm1 => ?_) (fun hm1 => ?_) (hJ4.1) (oi1) (by omega) (by omega)
              · refine leave cs4 (frS.rf cs4) hz4 ?_
                unfold clF clE
                rw [if_neg]
                intro hh
                have := htwo.mpr hh.2.1
                omega
              · have hclf : clF cb n w h s fr = rOf (clG cb n w h s (rcB (lkN cb n w h s) (n * n) fr true) (rcB (lkN cb n w h s) (n * n) fr false) (n * n)) (clR (rcB (lkN cb n w h s) (n * n) fr true) (rcB (lkN cb n w h s) (n * n) fr false) (n * n)) := by
                  unfold clF clE
                  rw [if_pos ⟨hbit, htwo.mp (by omega), hls⟩]
                repeat refine hP _ _ _ _ ?_
                refine c_takes ((hsc3.tr hf4.sc).b hB) hz4 hJ4 hK4 hs (fun x c hc hx => ?_) (fun cs5 h5 ha hr5 => ?_) (fun cs5 h5 ha hz5 => ?_)
                · cases x with
                  | true => exact rc_bit hbit (rcB_t.mp hx)
                  | false => exact rc_bit hbit (rcB_t.mp hx)
                · repeat refine hP _ _ _ _ ?_
                  refine b_ifeq (fun h6 => ?_) (fun h6 => ?_) (rfl)
                  · cases h6
                  · repeat refine hP _ _ _ _ ?_
                    exact And.intro rfl (hT cs5 _ ((hsc3.tr hf4.sc).tr h5) (hf.trans (ff_s' (ev := fun s => ff (clF cb n w h s) (n * n - 0) 0) hs (hfc.trans (ff_s' hfr (hclf.trans (if_pos ha)))))) hr5)
                · repeat refine hP _ _ _ _ ?_
                  refine b_ifeq (fun h6 => ?_) (fun h6 => ?_) (rfl)
                  · exact leave cs5 h5 hz5 (by rw [hclf]; unfold rOf; rw [ha]; rfl)
                  · cases h6
      have zero : ∀ i, i ≤ n * n → P 13 [some (.ref 15), some (.ref 2), some (.ref 9), some (.int (nI s)), some (.int (nI i))] [] (w_C n (sA cs2 16 (zr (cs2.2 16) i)) tl bb) := by
        refine x_lp (n * n) (fun i hi ihz => ?_)
        repeat refine hP _ _ _ _ ?_
        refine b_ge (i) (n * n) (fun hi9 => ?_) (fun hi9 => ?_) (rfl) (rfl) (by omega) (by omega)
        · have e9 : i = n * n := by omega
          subst e9
          have hsA : scC cs2 (sA cs2 16 (zr (cs2.2 16) (n * n))) := scC.a (Or.inr (Or.inr (Or.inl rfl)))
          iterate 2 refine hP _ _ _ _ ?_
          refine x_p4 (P := P) (cells 0 (by omega) (sA cs2 16 (zr (cs2.2 16) (n * n))) (hsc.tr hsA) hz (fun c hc => by show zr (cs2.2 16) (n * n) c = _; unfold zr; rw [if_pos hc, show lfB cb n w h s 0 c = false by unfold lfB; simp]; show (0 : Int32) = nI (mv false false false); decide) rfl) ?_ rfl ?_ <;> try (first | rfl | (rw [nI_succ]; rfl))
        · have ihz := ihz hi9
          repeat refine hP _ _ _ _ ?_
          refine And.intro (vp_in_nI hi9 (by omega)) ?_
          rw [zr_st (v := Int32.ofInt 0) (by omega) rfl] at ihz
          iterate 2 refine hP _ _ _ _ ?_
          refine x_p4 (P := P) (ihz) ?_ rfl ?_ <;> try (first | rfl | (rw [nI_succ]; rfl))
      iterate 2 refine hP _ _ _ _ ?_
      refine x_p4 (P := P) (zero 0 (by omega)) ?_ rfl ?_
      · rfl
      · rw [zr_0]; rfl
  iterate 2 refine hP _ _ _ _ ?_
  refine x_p4 (P := P) (loop 0 (by omega) cs (scC.rf cs) hZ rfl none) ?_ rfl ?_ <;> try (first | rfl | (rw [nI_succ]; rfl))
end KC
