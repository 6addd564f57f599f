/-! ===== the model: step fish ===== -/
def fisLk (cb : Nat → Nat) (n w h fr s i : Nat) : List Nat := ((List.range i).map (fr + ·)).filter fun g => decide (2 ≤ pcN (plB cb n w h g s n))
def fisL (cb : Nat → Nat) (n w h fr s : Nat) : List Nat := fisLk cb n w h fr s n
theorem fisLk_s (cb : Nat → Nat) (n w h fr s i : Nat) : fisLk cb n w h fr s (i + 1) = fisLk cb n w h fr s i ++ (if decide (2 ≤ pcN (plB cb n w h (fr + i) s n)) then [fr + i] else []) := by
  unfold fisLk
  rw [List.range_succ, List.map_append, List.filter_append]
  congr 1
  simp only [List.map_cons, List.map_nil, List.filter_cons, List.filter_nil]
/-- e is met in the lines before, or among the first j places of line fr + a; lines by pk -/
def fsX (n w h fr all : Nat) (pk : Nat → Bool) (a j e : Nat) : Bool := ((List.range a).any fun t => pk (fr + t) && (List.range n).any fun i => atN n w h (fr + t) i == e && all.testBit i) || (pk (fr + a) && (List.range j).any fun i => atN n w h (fr + a) i == e && all.testBit i)
theorem fsX_n (n w h fr all : Nat) (pk : Nat → Bool) (a e : Nat) : fsX n w h fr all pk (a + 1) 0 e = fsX n w h fr all pk a n e := by
  unfold fsX
  rw [any_s]
  simp
theorem fsX_s (n w h fr all : Nat) (pk : Nat → Bool) (a j e : Nat) : fsX n w h fr all pk a (j + 1) e = (fsX n w h fr all pk a j e || (pk (fr + a) && (atN n w h (fr + a) j == e && all.testBit j))) := by
  unfold fsX
  rw [any_s, Bool.or_assoc, ← Bool.and_or_distrib_left]
def fpk (k : Nat) (u : Nat → Nat) (g : Nat) : Bool := (List.range k).any fun i => u i == g
def fisR (cb : Nat → Nat) (n w h fr s all k : Nat) (u : Nat → Nat) (a j : Nat) : Nat → Bool := fun e => (cb e).testBit s && fsX n w h fr all (fpk k u) a j e
def fisG (cb : Nat → Nat) (n w h fr s all k : Nat) (u : Nat → Nat) (a j : Nat) : Nat → Nat := fun e => if (cb e).testBit s && fsX n w h fr all (fun g => !fpk k u g) a j e then cb e &&& 2 ^ s else 0
def fisE (cb : Nat → Nat) (n w h fr s k : Nat) (u : Nat → Nat) : Option rS := if pcN (orA (fun i => plB cb n w h (u i) s n) k) = k then rOf (fisG cb n w h fr s (orA (fun i => plB cb n w h (u i) s n) k) k u n 0) (fisR cb n w h fr s (orA (fun i => plB cb n w h (u i) s n) k) k u n 0) else none
def fisH (cb : Nat → Nat) (n w h fr k s : Nat) : Option rS := ((CC k (fisL cb n w h fr s).length).drop 0).findSome? fun c => fisE cb n w h fr s k (fun i => pF (fisL cb n w h fr s) (pF c i))
def fisS (cb : Nat → Nat) (n w h fr k : Nat) : Option rS := ff (fisH cb n w h fr k) n 0
section FI
variable {sc : Nat × (Nat → Int32)} {f : Nat → x_C} {ms : x_S} {tl : List x_C} {bb : Nat × Nat} {n w h d : Nat} {Q : x_O → x_H → Prop} {cb : Nat → Nat}
theorem r_fish (hG : gM ms n w h) (hC : cM ms n cb) {k fr : Nat} (hk2 : 2 ≤ k) (hk5 : k < 5) (hfr : fr + n ≤ 2 * n) (hT : ∀ ms' r, scr ms ms' → fisS cb n w h fr k = some r → resM ms' n r → Q (.inl (some (.int (bI true)))) (w_M f ms' tl bb)) (hF : ∀ ms', scr ms ms' → fisS cb n w h fr k = none → Q (.inl (some (.int (bI false)))) (w_M f ms' tl bb)) : x_run sc x_MM x_EX (d + 3) k_X8_fish [.ref 26, .int (nI k), .int (nI fr)] (w_M f ms tl bb) Q := by
  obtain ⟨g1, g2, g3, g4, g5, g6, g7, g8⟩ := hG.2.2.2.le
  refine x_in (M := m_X8_fish) rfl rfl (Nat.le_of_ble_eq_true rfl) ⟨rfl, rfl, rfl, trivial⟩ ?_
  intro P hP
  have loop : ∀ s, s ≤ n → ∀ m2, scr ms m2 → fisS cb n w h fr k = ff (fisH cb n w h fr k) (n - s) s → ∀ x4 x5 x6 x7 : Option Value, P 2 [some (.ref 26), some (.int (nI k)), some (.int (nI fr)), some (.int (nI s)), x4, x5, x6, x7] [] (w_M f m2 tl bb) := by
    refine x_lp n (fun s hs ih m2 hm hf x4 x5 x6 x7 => ?_)
    have hG2 := hm.g hG
    repeat refine hP _ _ _ _ ?_
    refine b_ge (s) (n) (fun hs9 => ?_) (fun hs9 => ?_) (rfl) (hG2.1) (by omega) (by omega)
    · repeat refine hP _ _ _ _ ?_
      exact And.intro rfl (hF m2 hm (by rw [hf, show n - s = 0 by omega]; rfl))
    · have ih := ih hs9
      have hff : n - s = n - (s + 1) + 1 := by omega
      rw [hff] at hf
      have hlm : (fisL cb n w h fr s).length ≤ n := fl_le _ _ (by simp)
      generalize hl : fisL cb n w h fr s = l at hlm
      have hm9 : l.length < 10 := by omega
      have hev : fisH cb n w h fr k s = ((CC k l.length).drop 0).findSome? fun c => fisE cb n w h fr s k (fun i => pF l (pF c i)) := by unfold fisH; rw [hl]
      have whl : ∀ t, t ≤ (CC k l.length).length → ∀ m4, scr ms m4 → lsM m4 l (3 * n) → (∀ c, (CC k l.length)[t]? = some c → ∀ i, i < k → m4.2 34 i = nI (pF c i)) → fisH cb n w h fr k s = ((CC k l.length).drop t).findSome? (fun c => fisE cb n w h fr s k (fun i => pF l (pF c i))) → ∀ x5 x6 x7 : Option Value, P 93 [some (.ref 26), some (.int (nI k)), some (.int (nI fr)), some (.int (nI s)), some (.int (bI (decide (t < (CC k l.length).length)))), x5, x6, x7] [] (w_M f m4 tl bb) := by
        refine x_lp _ (fun t ht ih2 m4 hm4 hl4 hp hfs x5 x6 x7 => ?_)
        repeat refine hP _ _ _ _ ?_
        refine b_ifeq (fun hq => ?_) (fun hq => ?_) (rfl)
        · have hq := of_decide_eq_false hq
          iterate 2 refine hP _ _ _ _ ?_
          refine x_p4 (P := P) (ih m4 hm4 (hf.trans (ff_n (hfs.trans (fs_e (by omega))))) (some (.int (bI (decide (t < (CC k l.length).length))))) x5 x6 x7) ?_ rfl ?_ <;> try (first | rfl | (rw [nI_succ]; rfl))
        · have hq := of_decide_eq_true hq
          have ih2 := ih2 hq
          obtain ⟨c, hc⟩ : ∃ c, (CC k l.length)[t]? = some c := ⟨_, List.getElem?_eq_getElem hq⟩
          obtain ⟨c1, c2, c3⟩ := nx_at hk5 hk2 hm9 hc
          have hp := hp c hc
          have hpk : ∀ m5 : x_S, lsM m5 l (3 * n) → (∀ i, i < k → m5.2 34 i = nI (pF c i)) → pkM m5 k l.length (pF c) (pF l) := fun m5 e1 e2 => ⟨e1.1, fun i hi => ⟨e2 i hi, c1 i hi⟩, fun j hj => ⟨(e1.2 j hj).1, by have := (e1.2 j hj).2; omega⟩⟩
          have hcell : ∀ i, i < k → pF l (pF c i) < 3 * n := fun i hi => (hl4.2 _ (c1 i hi)).2
          generalize hu : (fun i => pF l (pF c i)) = u
          have hue : ∀ i, u i = pF l (pF c i) := fun i => by rw [← hu]
          generalize hall : orA (fun i => plB cb n w h (u i) s n) k = all
          have hall9 : all < 512 := by rw [← hall]; exact orA_lt (Nat.le_refl k) (fun j hj => plB_9 cb w h _ s g2)
          have hEv : fisE cb n w h fr s k (fun i => pF l (pF c i)) = if pcN all = k then rOf (fisG cb n w h fr s all k u n 0) (fisR cb n w h fr s all k u n 0) else none := by rw [hu]; unfold fisE; rw [hall]
          have tk : ∀ m5 go rs, scr ms m5 → lsM m5 l (3 * n) → (∀ i, i < k → m5.2 34 i = nI (pF c i)) → m5.1 11 = -1 → m5.1 12 = -1 → oM m5 go → rM m5 rs → fisE cb n w h fr s k (fun i => pF l (pF c i)) = rOf go rs → ∀ x6 x7 : Option Value, P 260 [some (.ref 26), some (.int (nI k)), some (.int (nI fr)), some (.int (nI s)), some (.int (bI true)), some (.int (nI all)), x6, x7] [] (w_M f m5 tl bb) := by
            intro m5 go rs hm5 hl5 hp5 h11 h12 hO hR he x6 x7
            repeat refine hP _ _ _ _ ?_
            refine r_takesN hO ?_
            repeat refine hP _ _ _ _ ?_
            refine b_ifeq (fun ha => ?_) (fun ha => ?_) (rfl)
            · have he : fisE cb n w h fr s k (fun i => pF l (pF c i)) = none := he.trans (by unfold rOf; rw [ha]; rfl)
              have hfs9 := hfs.trans (fs_n hc he)
              repeat refine hP _ _ _ _ ?_
              refine r_next (k := k) (m := l.length) (by omega) ?_ (by omega) (hpk m5 hl5 hp5) (fun i gg hn hgg => ?_) (fun hn => ?_)
              · rcases Nat.lt_or_ge l.length k with h9 | h9
                · rw [(CC_0 k hk5 hk2 _ hm9).2 h9] at hq; exact absurd hq (Nat.not_lt_zero _)
                · exact h9
              · obtain ⟨c', d1, d2⟩ := c3 i hn
                iterate 2 refine hP _ _ _ _ ?_
                refine x_p4 (P := P) (ih2 (sA m5 34 gg) (hm5.tr (scr.a (by decide))) hl5 (fun c9 h9 i9 hi9 => by rw [d1] at h9; cases h9; rw [d2 i9 hi9]; exact hgg i9 hi9) hfs9 (some (.int (nI all))) x6 x7) ?_ rfl ?_
                · rw [b_len (List.getElem?_eq_some_iff.mp d1).1]; rfl
                · rfl
              · have h9 := c2 hn
                iterate 2 refine hP _ _ _ _ ?_
                refine x_p4 (P := P) (ih2 m5 hm5 hl5 (fun c9 h9 => by rw [List.getElem?_eq_none (by omega)] at h9; cases h9) hfs9 (some (.int (nI all))) x6 x7) ?_ rfl ?_
                · rw [b_nle (by omega)]; rfl
                · rfl
            · repeat refine hP _ _ _ _ ?_
              refine And.intro rfl (hT m5 (none, go, rs) hm5 ?_ ⟨⟨h11, h12⟩, hO, hR⟩)
              exact hf.trans (ff_s (hfs.trans (fs_s hc (he.trans (by unfold rOf; rw [ha]; rfl)))))
          have hm5 : scr ms (noneM m4) := hm4.tr (noneM_scr m4)
          have hC5 := hm5.c hC
          have hG5 := hm5.g hG
          have hcl5 := noneM_cl m4
          rw [b_len hq]
          have mid : P 145 [some (.ref 26), some (.int (nI k)), some (.int (nI fr)), some (.int (nI s)), some (.int (bI true)), some (.int (nI all)), some (.int (nI fr)), x7] [] (w_M f (noneM m4) tl bb) := by
            by_cases hpc : pcN all = k
            · rw [if_pos hpc] at hEv
              have lp3 : ∀ a, a ≤ n → ∀ m6, scr ms m6 → lsM m6 l (3 * n) → (∀ i, i < k → m6.2 34 i = nI (pF c i)) → m6.1 11 = -1 → m6.1 12 = -1 → oM m6 (fisG cb n w h fr s all k u a 0) → rM m6 (fisR cb n w h fr s all k u a 0) → ∀ x7 : Option Value, P 145 [some (.ref 26), some (.int (nI k)), some (.int (nI fr)), some (.int (nI s)), some (.int (bI true)), some (.int (nI all)), some (.int (nI (fr + a))), x7] [] (w_M f m6 tl bb) := by
                refine x_lp n (fun a ha ih3 m6 hm6 hl6 hp6 h11 h12 hO hR x7 => ?_)
                have hG6 := hm6.g hG
                repeat refine hP _ _ _ _ ?_
                refine b_ge (fr + a) (fr + n) (fun ha9 => ?_) (fun ha9 => ?_) (rfl) (by show nI fr + m6.1 1 = _; rw [hG6.1, nI_add]) (by omega) (by omega)
                · have hin : a = n := by omega
                  subst hin
                  refine x_p4 (P := P) (tk m6 _ _ hm6 hl6 hp6 h11 h12 hO hR hEv (some (.int (nI (fr + a)))) x7) ?_ rfl ?_ <;> try (first | rfl | (rw [nI_succ]; rfl))
                · have ha9 : a < n := by omega
                  have ih3 := ih3 ha9
                  have hga : fr + a < 3 * n := by omega
                  have lp4 : ∀ j, j ≤ n → ∀ m7, scr ms m7 → lsM m7 l (3 * n) → (∀ i, i < k → m7.2 34 i = nI (pF c i)) → m7.1 11 = -1 → m7.1 12 = -1 → oM m7 (fisG cb n w h fr s all k u a j) → rM m7 (fisR cb n w h fr s all k u a j) → P 168 [some (.ref 26), some (.int (nI k)), some (.int (nI fr)), some (.int (nI s)), some (.int (bI true)), some (.int (nI all)), some (.int (nI (fr + a))), some (.int (nI j))] [] (w_M f m7 tl bb) := by
                    refine x_lp n (fun j hj ih4 m7 hm7 hl7 hp7 h11 h12 hO hR => ?_)
                    have hG7 := hm7.g hG
                    have hC7 := hm7.c hC
                    repeat refine hP _ _ _ _ ?_
                    refine b_ge (j) (n) (fun hj9 => ?_) (fun hj9 => ?_) (rfl) (hG7.1) (by omega) (by omega)
                    · have hjn : j = n := by omega
                      subst hjn
                      iterate 2 refine hP _ _ _ _ ?_
                      refine x_p4 (P := P) (ih3 m7 hm7 hl7 hp7 h11 h12 (oM_congr hO (fun e he => by unfold fisG; rw [fsX_n])) (fun e he => by rw [hR e he]; unfold fisR; rw [fsX_n]) (some (.int (nI j)))) ?_ rfl ?_
                      · rw [show nI (fr + (a + 1)) = nI (fr + a) + 1 from nI_succ _]; rfl
                      · rfl
                    · have hat := atN_lt (w := w) (h := h) hG.2.2.2 hga hj9
                      have ih4 := ih4 hj9
                      have h29 := hC.lt g2 hat
                      have skip : ((cb (atN n w h (fr + a) j)).testBit s && all.testBit j) = false → P 248 [some (.ref 26), some (.int (nI k)), some (.int (nI fr)), some (.int (nI s)), some (.int (bI true)), some (.int (nI all)), some (.int (nI (fr + a))), some (.int (nI j))] [] (w_M f m7 tl bb) := by
                        intro hno
                        have key : ∀ (pk : Nat → Bool) e, ((cb e).testBit s && fsX n w h fr all pk a (j + 1) e) = ((cb e).testBit s && fsX n w h fr all pk a j e) := by
                          intro pk e
                          rw [fsX_s]
                          by_cases hea : atN n w h (fr + a) j = e
                          · subst hea
                            cases h8 : (cb (atN n w h (fr + a) j)).testBit s with
                            | false => rfl
                            | true =>
                              rw [h8, Bool.true_and] at hno
                              rw [hno, Bool.and_false, Bool.and_false, Bool.or_false]
                          · rw [beq_eq_false_iff_ne.mpr hea, Bool.false_and, Bool.and_false, Bool.or_false]
                        iterate 2 refine hP _ _ _ _ ?_
                        refine x_p4 (P := P) (ih4 m7 hm7 hl7 hp7 h11 h12 (oM_congr hO (fun e he => by unfold fisG; rw [key])) (fun e he => by rw [hR e he]; unfold fisR; rw [key])) ?_ rfl ?_ <;> try (first | rfl | (rw [nI_succ]; rfl))
                      repeat refine hP _ _ _ _ ?_
                      refine b_ifeq (fun hb => ?_) (fun hb => ?_) (bit1 hall9 (by omega))
                      · exact skip (by rw [hb, Bool.and_false])
                      · repeat refine hP _ _ _ _ ?_
                        refine r_at hG7 hga hj9 ?_
                        repeat refine hP _ _ _ _ ?_
                        refine r_has (b := cb (atN n w h (fr + a) j)) (by omega) (by omega) (hC7 _ hat).1 h29 ?_
                        repeat refine hP _ _ _ _ ?_
                        refine b_ifne (fun hh => ?_) (fun hh => ?_) (rfl)
                        · repeat refine hP _ _ _ _ ?_
                          refine r_isPicked (k := k) (m := l.length) (by omega) (by omega) (by omega) (hpk m7 hl7 hp7) ?_
                          have hpe : ((List.range k).any fun i => pF l (pF c i) == fr + a) = fpk k u (fr + a) := by rw [← hu]; rfl
                          rw [hpe]
                          repeat refine hP _ _ _ _ ?_
                          refine b_ifeq (fun h7 => ?_) (fun h7 => ?_) (rfl)
                          · repeat refine hP _ _ _ _ ?_
                            refine r_at hG7 hga hj9 ?_
                            repeat refine hP _ _ _ _ ?_
                            refine r_leavesN hC7 g2 hO hat (by omega) (sh1 (by omega)) (fun gg hgg => ?_)
                            iterate 2 refine hP _ _ _ _ ?_
                            refine x_p4 (P := P) (ih4 (sA m7 32 gg) (hm7.tr (scr.a (by decide))) hl7 hp7 h11 h12 (oM_congr hgg ?_) ?_) ?_ rfl ?_ <;> try (first | rfl | (rw [nI_succ]; rfl))
                            · intro e he
                              by_cases hea : e = atN n w h (fr + a) j
                              · subst hea
                                simp only [if_true]
                                unfold fisG
                                rw [fsX_s, h7, hh, hb]
                                simp only [Bool.not_false, Bool.true_and, Bool.and_true, beq_self_eq_true, Bool.or_true, if_true]
                                split
                                · rw [Nat.or_self]
                                · rw [Nat.zero_or]
                              · simp only [hea, if_false]
                                unfold fisG
                                rw [fsX_s, beq_eq_false_iff_ne.mpr (fun h => hea h.symm), Bool.false_and, Bool.and_false, Bool.or_false]
                            · intro e he
                              show m7.2 31 e = _
                              rw [hR e he]
                              unfold fisR
                              rw [fsX_s, h7, Bool.false_and, Bool.or_false]
                          · repeat refine hP _ _ _ _ ?_
                            refine r_at hG7 hga hj9 ?_
                            repeat refine hP _ _ _ _ ?_
                            refine And.intro (vp_in_nI (by omega) (by omega)) ?_
                            iterate 3 refine hP _ _ _ _ ?_
                            refine x_p4 (P := P) (ih4 (sA m7 31 (upd (m7.2 31) (nI (atN n w h (fr + a) j)).toNatClampNeg (vp_nar .boolean (Int32.ofInt 1)))) (hm7.tr (scr.a (by decide))) hl7 hp7 h11 h12 (oM_congr (show oM _ (fisG cb n w h fr s all k u a j) from hO) ?_) ?_) ?_ rfl ?_ <;> try (first | rfl | (rw [nI_succ]; rfl))
                            · intro e he
                              unfold fisG
                              rw [fsX_s, h7, Bool.not_true, Bool.false_and, Bool.or_false]
                            · intro e he
                              show upd (m7.2 31) (nI (atN n w h (fr + a) j)).toNatClampNeg (vp_nar .boolean (Int32.ofInt 1)) e = _
                              rw [upv (by omega)]
                              unfold fisR
                              rw [fsX_s, h7]
                              by_cases hea : e = atN n w h (fr + a) j
                              · subst hea
                                rw [pk_us, hh, hb, beq_self_eq_true, Bool.true_and, Bool.true_and, Bool.true_and, Bool.or_true]
                                rfl
                              · rw [pk_un hea, hR e he, beq_eq_false_iff_ne.mpr (fun h => hea h.symm), Bool.false_and, Bool.and_false, Bool.or_false]
                                rfl
                        · refine hP _ _ _ _ ?_
                          refine x_p4 (P := P) (skip (by rw [hh, Bool.false_and])) ?_ rfl ?_ <;> try (first | rfl | (rw [nI_succ]; rfl))
                  repeat refine hP _ _ _ _ ?_
                  refine r_countOf hall9 ?_
                  repeat refine hP _ _ _ _ ?_
                  refine b_ne ((pcN all)) (k) (fun h8 => ?_) (fun h8 => ?_) (rfl) (rfl) (by omega) (by omega)
                  · exact absurd hpc h8
                  · iterate 2 refine hP _ _ _ _ ?_
                    refine x_p4 (P := P) (lp4 0 (by omega) m6 hm6 hl6 hp6 h11 h12 hO hR) ?_ rfl ?_ <;> try (first | rfl | (rw [nI_succ]; rfl))
              have h0 : ∀ e : Nat, fisG cb n w h fr s all k u 0 0 e = 0 := fun e => by unfold fisG fsX; simp
              have h1 : ∀ e : Nat, fisR cb n w h fr s all k u 0 0 e = false := fun e => by unfold fisR fsX; simp
              exact lp3 0 (by omega) (noneM m4) hm5 hl4 hp hcl5.1 hcl5.2.1 (fun e he => ⟨by rw [h0, (hcl5.2.2 e he).2]; rfl, by rw [h0]; decide⟩) (fun e he => by rw [h1, (hcl5.2.2 e he).1]; rfl) x7
            · rw [if_neg hpc] at hEv
              repeat refine hP _ _ _ _ ?_
              refine b_ge fr (fr + n) (fun h0 => by omega) (fun _ => ?_) rfl (by show nI fr + (noneM m4).1 1 = _; rw [hG5.1, nI_add]) (by omega) (by omega)
              repeat refine hP _ _ _ _ ?_
              refine r_countOf hall9 ?_
              have hpl : pcN all ≤ 9 := pcA_le _ _
              repeat refine hP _ _ _ _ ?_
              refine b_ne ((pcN all)) (k) (fun h8 => ?_) (fun h8 => ?_) (rfl) (rfl) (by omega) (by omega)
              · refine x_p4 (P := P) (tk (noneM m4) (fun _ => 0) (fun _ => false) hm5 hl4 hp hcl5.1 hcl5.2.1 (fun e he => ⟨(hcl5.2.2 e he).2, show 0 < 512 by decide⟩) (fun e he => (hcl5.2.2 e he).1) (hEv.trans rfl) (some (.int (nI fr))) x7) ?_ rfl ?_ <;> try (first | rfl | (rw [nI_succ]; rfl))
              · exact absurd h8 hpc
          have orl : ∀ i, i ≤ k → P 108 [some (.ref 26), some (.int (nI k)), some (.int (nI fr)), some (.int (nI s)), some (.int (bI true)), some (.int (nI (orA (fun i => plB cb n w h (u i) s n) i))), some (.int (nI i)), x7] [] (w_M f (noneM m4) tl bb) := by
            refine x_lp k (fun i hi ih3 => ?_)
            repeat refine hP _ _ _ _ ?_
            refine b_ge (i) (k) (fun hi9 => ?_) (fun hi9 => ?_) (rfl) (rfl) (by omega) (by omega)
            · have hik : i = k := by omega
              subst hik
              rw [hall]
              iterate 2 refine hP _ _ _ _ ?_
              refine x_p4 (P := P) (mid) ?_ rfl ?_ <;> try (first | rfl | (rw [nI_succ]; rfl))
            · have e1 := c1 i hi9
              have e2 := hcell i hi9
              repeat refine hP _ _ _ _ ?_
              refine And.intro (vp_in_nI (by omega) (by omega)) ?_
              rw [ldv (f := (noneM m4).2 34) (hp i hi9) (by omega)]
              repeat refine hP _ _ _ _ ?_
              refine And.intro (vp_in_nI (by omega) (by omega)) ?_
              rw [ldv (f := (noneM m4).2 33) (hl4.2 _ e1).1 (by omega)]
              repeat refine hP _ _ _ _ ?_
              refine r_places hG5 hC5 e2 hs9 ?_
              iterate 4 refine hP _ _ _ _ ?_
              refine x_p4 (P := P) (ih3 hi9) ?_ rfl ?_
              · rw [show orA (fun i => plB cb n w h (u i) s n) (i + 1) = orA (fun i => plB cb n w h (u i) s n) i ||| plB cb n w h (pF l (pF c i)) s n by rw [← hue]; rfl, ← nx_or, nI_succ]; rfl
              · rfl
          repeat refine hP _ _ _ _ ?_
          refine r_none ?_
          iterate 4 refine hP _ _ _ _ ?_
          refine x_p4 (P := P) (orl 0 (by omega)) ?_ rfl ?_ <;> try (first | rfl | (rw [nI_succ]; rfl))
      have fin : ∀ m3, scr ms m3 → lsM m3 l (3 * n) → P 73 [some (.ref 26), some (.int (nI k)), some (.int (nI fr)), some (.int (nI s)), some (.int (nI (fr + n))), x5, x6, x7] [] (w_M f m3 tl bb) := by
        intro m3 hm3 hl3
        have go : ∀ x : Int32, x = bI (decide (0 < (CC k l.length).length)) → P 86 [some (.ref 26), some (.int (nI k)), some (.int (nI fr)), some (.int (nI s)), some (.int (nI (fr + n))), x5, x6, x7] [.int x] (w_M f m3 tl bb) := by
          intro x hx
          subst hx
          repeat refine hP _ _ _ _ ?_
          refine r_first (by omega) (fun gg hgg => ?_)
          refine x_p4 (P := P) (whl 0 (by omega) (sA m3 34 gg) (hm3.tr (scr.a (by decide))) hl3 (fun c hc i hi => ?_) hev x5 x6 x7) ?_ rfl ?_ <;> try (first | rfl | (rw [nI_succ]; rfl))
          show gg i = _
          rw [hgg i hi]
          rcases Nat.lt_or_ge l.length k with h9 | h9
          · rw [(CC_0 k hk5 hk2 _ hm9).2 h9] at hc; cases hc
          · rw [(CC_0 k hk5 hk2 _ hm9).1 h9] at hc
            cases hc
            unfold pF
            simp [List.getD, hi]
        repeat refine hP _ _ _ _ ?_
        refine b_lt (l.length) (k) (fun h9 => ?_) (fun h9 => ?_) (hl3.1) (rfl) (by omega) (by omega)
        · refine hP _ _ _ _ ?_
          refine x_p4 (P := P) (go (bI false) ?_) ?_ rfl ?_
          · rw [(CC_0 k hk5 hk2 _ hm9).2 h9]; rfl
          · rfl
          · rfl
        · iterate 2 refine hP _ _ _ _ ?_
          refine x_p4 (P := P) (go (bI true) ?_) ?_ rfl ?_
          · rw [b_len]
            exact (List.getElem?_eq_some_iff.mp ((CC_0 k hk5 hk2 _ hm9).1 h9)).1
          · rfl
          · rfl
      have lst : ∀ i, i ≤ n → ∀ m3, scr ms m3 → lsM m3 (fisLk cb n w h fr s i) (3 * n) → P 18 [some (.ref 26), some (.int (nI k)), some (.int (nI fr)), some (.int (nI s)), some (.int (nI (fr + i))), x5, x6, x7] [] (w_M f m3 tl bb) := by
        refine x_lp n (fun i hi ih2 m3 hm3 hl3 => ?_)
        have hG3 := hm3.g hG
        have hC3 := hm3.c hC
        repeat refine hP _ _ _ _ ?_
        refine b_ge (fr + i) (fr + n) (fun hi9 => ?_) (fun hi9 => ?_) (rfl) (by show nI fr + m3.1 1 = _; rw [hG3.1, nI_add]) (by omega) (by omega)
        · have hin : i = n := by omega
          subst hin
          refine x_p4 (P := P) (fin m3 hm3 (hl ▸ hl3)) ?_ rfl ?_ <;> try (first | rfl | (rw [nI_succ]; rfl))
        · have hi9 : i < n := by omega
          have hlk : (fisLk cb n w h fr s i).length ≤ i := fl_le _ _ (by simp)
          have ih2 := ih2 hi9
          rw [fisLk_s] at ih2
          have hpl : pcN (plB cb n w h (fr + i) s n) ≤ 9 := pcA_le _ _
          repeat refine hP _ _ _ _ ?_
          refine r_places hG3 hC3 (by omega) hs9 ?_
          repeat refine hP _ _ _ _ ?_
          refine r_countOf (plB_9 cb w h _ s g2) ?_
          repeat refine hP _ _ _ _ ?_
          refine b_ge ((pcN (plB cb n w h (fr + i) s n))) (2) (fun hv => ?_) (fun hv => ?_) (rfl) (rfl) (by omega) (by omega)
          · rw [decide_eq_true hv] at ih2
            repeat refine hP _ _ _ _ ?_
            rw [hl3.1]
            refine And.intro (vp_in_nI (by omega) (by omega)) ?_
            iterate 8 refine hP _ _ _ _ ?_
            refine x_p4 (P := P) (ih2 (sF (sA m3 33 (upd (m3.2 33) (fisLk cb n w h fr s i).length (nI (fr + i)))) 13 (nI ((fisLk cb n w h fr s i).length + 1))) (hm3.tr ((scr.a (by decide)).tr (scr.f (by decide)))) (lsM_p hl3 (by omega))) ?_ rfl ?_
            · rw [show nI (fr + (i + 1)) = nI (fr + i) + 1 from nI_succ _]; rfl
            · rw [← upv (i := (fisLk cb n w h fr s i).length) (by omega), nI_succ, ← hl3.1]; rfl
          · rw [decide_eq_false (by omega)] at ih2
            iterate 3 refine hP _ _ _ _ ?_
            refine x_p4 (P := P) (ih2 m3 hm3 (by rw [if_neg (by decide), List.append_nil]; exact hl3)) ?_ rfl ?_
            · rw [show nI (fr + (i + 1)) = nI (fr + i) + 1 from nI_succ _]; rfl
            · rfl
      iterate 5 refine hP _ _ _ _ ?_
      refine x_p4 (P := P) (lst 0 (by omega) (sF m2 13 0) (hm.tr (scr.f (by decide))) (lsM_0 m2 _)) ?_ rfl ?_ <;> try (first | rfl | (rw [nI_succ]; rfl))
  iterate 2 refine hP _ _ _ _ ?_
  refine x_p4 (P := P) (loop 0 (by omega) ms (scr.rf ms) rfl none none none none) ?_ rfl ?_ <;> try (first | rfl | (rw [nI_succ]; rfl))
end FI
