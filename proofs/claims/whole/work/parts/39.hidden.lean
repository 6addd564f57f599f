/-! ===== the model: step hidden ===== -/
def opB (vb : Nat → Option Nat) (n w h g s : Nat) : Bool := (List.range n).all fun i => vb (atN n w h g i) != some s
theorem opB_t {vb : Nat → Option Nat} {n w h g s : Nat} : opB vb n w h g s = true ↔ opN vb n w h g s := by
  unfold opB opN
  simp only [List.all_eq_true, List.mem_range, bne_iff_ne, ne_eq]
def hidLk (vb : Nat → Option Nat) (n w h g i : Nat) : List Nat := (List.range i).filter (opB vb n w h g)
def hidL (vb : Nat → Option Nat) (n w h g : Nat) : List Nat := hidLk vb n w h g n
theorem hidLk_s (vb : Nat → Option Nat) (n w h g i : Nat) : hidLk vb n w h g (i + 1) = hidLk vb n w h g i ++ (if opB vb n w h g i then [i] else []) := by
  unfold hidLk
  rw [List.range_succ, List.filter_append]
  congr 1
  simp only [List.filter_cons, List.filter_nil]
def hidR (n w h g all : Nat) (j : Nat) : Nat → Bool := fun e => (List.range j).any fun i => atN n w h g i == e && all.testBit i
def hidG (cb : Nat → Nat) (n w h g all sy : Nat) (j : Nat) : Nat → Nat := fun e => if hidR n w h g all j e then clr (cb e) sy else 0
def hidE (cb : Nat → Nat) (n w h g k : Nat) (u : Nat → Nat) : Option rS := if pcN (orA (fun i => plB cb n w h g (u i) n) k) = k then rOf (hidG cb n w h g (orA (fun i => plB cb n w h g (u i) n) k) (orA (fun i => 2 ^ u i) k) n) (hidR n w h g (orA (fun i => plB cb n w h g (u i) n) k) n) else none
def hidH (cb : Nat → Nat) (vb : Nat → Option Nat) (n w h k g : Nat) : Option rS := ((CC k (hidL vb n w h g).length).drop 0).findSome? fun c => hidE cb n w h g k (fun i => pF (hidL vb n w h g) (pF c i))
def hidS (cb : Nat → Nat) (vb : Nat → Option Nat) (n w h k : Nat) : Option rS := ff (hidH cb vb n w h k) (3 * n) 0
section HD
variable {sc : Nat × (Nat → Int32)} {f : Nat → x_C} {ms : x_S} {tl : List x_C} {bb : Nat × Nat} {n w h d : Nat} {Q : x_O → x_H → Prop} {cb : Nat → Nat} {vb : Nat → Option Nat}
theorem r_leavesC {go : Nat → Nat} (hC : cM ms n cb) (hn : n ≤ 9) (hO : oM ms go) {c m : Nat} (hc : c < n * n) (hc9 : c < 81) {x : Int32} (hx : x = nI m ^^^ (-1)) (hQ : ∀ g : Nat → Int32, oM (sA ms 32 g) (fun e => if e = c then go c ||| clr (cb c) m else go e) → Q (.inl none) (w_M f (sA ms 32 g) tl bb)) : x_run sc x_MM x_EX (d + 1) k_X8_leaves [.ref 26, .int (nI c), .int x] (w_M f ms tl bb) Q := by
  subst hx
  refine r_leaves hc9 (hQ _ ?_)
  intro e he
  show upd (ms.2 32) c (ms.2 32 c ||| (ms.2 27 c &&& (nI m ^^^ (-1)))) e = _ ∧ _
  by_cases hec : e = c
  · subst hec
    rw [pk_us, (hO e he).1, (hC e hc).1, nx_not, nx_or]
    simp only [if_true]
    refine ⟨trivial, Nat.or_lt_two_pow (n := 9) (hO e he).2 (Nat.lt_of_le_of_lt (clr_le _ _) (Nat.lt_of_lt_of_le (hC e hc).2 (Nat.pow_le_pow_right (by omega) hn)))⟩
  · rw [pk_un hec]
    simp only [hec, if_false]
    exact hO e he
theorem plB_9 (cb : Nat → Nat) {n : Nat} (w h g s : Nat) (hn : n ≤ 9) : plB cb n w h g s n < 512 := Nat.lt_of_lt_of_le (plB_lt cb n w h g s n) (Nat.pow_le_pow_right (by omega) hn)
theorem r_hidden (hG : gM ms n w h) (hC : cM ms n cb) (hV : vM ms n vb) {k : Nat} (hk2 : 2 ≤ k) (hk5 : k < 5) (hT : ∀ ms' r, scr ms ms' → hidS cb vb n w h k = some r → resM ms' n r → Q (.inl (some (.int (bI true)))) (w_M f ms' tl bb)) (hF : ∀ ms', scr ms ms' → hidS cb vb n w h k = none → Q (.inl (some (.int (bI false)))) (w_M f ms' tl bb)) : x_run sc x_MM x_EX (d + 3) k_X8_hidden [.ref 26, .int (nI k)] (w_M f ms tl bb) Q := by
  obtain ⟨g1, g2, g3, g4, g5, g6, g7, g8⟩ := hG.2.2.2.le
  refine x_in (M := m_X8_hidden) rfl rfl (Nat.le_of_ble_eq_true rfl) ⟨rfl, rfl, trivial⟩ ?_
  intro P hP
  have loop : ∀ g, g ≤ 3 * n → ∀ m2, scr ms m2 → hidS cb vb n w h k = ff (hidH cb vb n w h k) (3 * n - g) g → ∀ x3 x4 x5 x6 : Option Value, P 2 [some (.ref 26), some (.int (nI k)), some (.int (nI g)), x3, x4, x5, x6] [] (w_M f m2 tl bb) := by
    refine x_lp (3 * n) (fun g hg ih m2 hm hf x3 x4 x5 x6 => ?_)
    have hG2 := hm.g hG
    repeat refine hP _ _ _ _ ?_
    refine b_ge (g) (3 * n) (fun hg9 => ?_) (fun hg9 => ?_) (rfl) (by show Int32.ofInt 3 * m2.1 1 = _; rw [oi3, hG2.1, pk_mul]) (by omega) (by omega)
    · repeat refine hP _ _ _ _ ?_
      exact And.intro rfl (hF m2 hm (by rw [hf, show 3 * n - g = 0 by omega]; rfl))
    · have ih := ih hg9
      have hff : 3 * n - g = 3 * n - (g + 1) + 1 := by omega
      rw [hff] at hf
      have hlm : (hidL vb n w h g).length ≤ n := fl_le _ _ (by simp)
      generalize hl : hidL vb n w h g = l at hlm
      have hm9 : l.length < 10 := by omega
      have hev : hidH cb vb n w h k g = ((CC k l.length).drop 0).findSome? fun c => hidE cb n w h g k (fun i => pF l (pF c i)) := by unfold hidH; rw [hl]
      have whl : ∀ t, t ≤ (CC k l.length).length → ∀ m4, scr ms m4 → lsM m4 l n → (∀ c, (CC k l.length)[t]? = some c → ∀ i, i < k → m4.2 34 i = nI (pF c i)) → hidH cb vb n w h k g = ((CC k l.length).drop t).findSome? (fun c => hidE cb n w h g k (fun i => pF l (pF c i))) → ∀ x4 x5 x6 : Option Value, P 84 [some (.ref 26), some (.int (nI k)), some (.int (nI g)), some (.int (bI (decide (t < (CC k l.length).length)))), x4, x5, x6] [] (w_M f m4 tl bb) := by
        refine x_lp _ (fun t ht ih2 m4 hm4 hl4 hp hfs x4 x5 x6 => ?_)
        repeat refine hP _ _ _ _ ?_
        refine b_ifeq (fun hq => ?_) (fun hq => ?_) (rfl)
        · have hq := of_decide_eq_false hq
          iterate 2 refine hP _ _ _ _ ?_
          refine x_p4 (P := P) (ih m4 hm4 (hf.trans (ff_n (hfs.trans (fs_e (by omega))))) (some (.int (bI (decide (t < (CC k l.length).length))))) x4 x5 x6) ?_ rfl ?_ <;> try (first | rfl | (rw [nI_succ]; rfl))
        · have hq := of_decide_eq_true hq
          have ih2 := ih2 hq
          obtain ⟨c, hc⟩ : ∃ c, (CC k l.length)[t]? = some c := ⟨_, List.getElem?_eq_getElem hq⟩
          obtain ⟨c1, c2, c3⟩ := nx_at hk5 hk2 hm9 hc
          have hp := hp c hc
          have hpk : ∀ m5 : x_S, lsM m5 l n → (∀ i, i < k → m5.2 34 i = nI (pF c i)) → pkM m5 k l.length (pF c) (pF l) := fun m5 e1 e2 => ⟨e1.1, fun i hi => ⟨e2 i hi, c1 i hi⟩, fun j hj => ⟨(e1.2 j hj).1, by have := (e1.2 j hj).2; omega⟩⟩
          have hcell : ∀ i, i < k → pF l (pF c i) < n := fun i hi => (hl4.2 _ (c1 i hi)).2
          generalize hu : (fun i => pF l (pF c i)) = u
          have hue : ∀ i, u i = pF l (pF c i) := fun i => by rw [← hu]
          generalize hall : orA (fun i => plB cb n w h g (u i) n) k = all
          generalize hsy : orA (fun i => 2 ^ u i) k = sy
          have hall9 : all < 512 := by rw [← hall]; exact orA_lt (Nat.le_refl k) (fun j hj => plB_9 cb w h g _ g2)
          have hEv : hidE cb n w h g k (fun i => pF l (pF c i)) = if pcN all = k then rOf (hidG cb n w h g all sy n) (hidR n w h g all n) else none := by rw [hu]; unfold hidE; rw [hall, hsy]
          have tk : ∀ m5 go rs, scr ms m5 → lsM m5 l n → (∀ i, i < k → m5.2 34 i = nI (pF c i)) → m5.1 11 = -1 → m5.1 12 = -1 → oM m5 go → rM m5 rs → hidE cb n w h g k (fun i => pF l (pF c i)) = rOf go rs → ∀ x6 : Option Value, P 222 [some (.ref 26), some (.int (nI k)), some (.int (nI g)), some (.int (bI true)), some (.int (nI all)), some (.int (nI sy)), x6] [] (w_M f m5 tl bb) := by
            intro m5 go rs hm5 hl5 hp5 h11 h12 hO hR he x6
            repeat refine hP _ _ _ _ ?_
            refine r_takesN hO ?_
            repeat refine hP _ _ _ _ ?_
            refine b_ifeq (fun ha => ?_) (fun ha => ?_) (rfl)
            · have he : hidE cb n w h g k (fun i => pF l (pF c i)) = none := he.trans (by unfold rOf; rw [ha]; rfl)
              have hfs9 := hfs.trans (fs_n hc he)
              repeat refine hP _ _ _ _ ?_
              refine r_next (k := k) (m := l.length) (by omega) ?_ (by omega) (hpk m5 hl5 hp5) (fun i gg hn hgg => ?_) (fun hn => ?_)
              · rcases Nat.lt_or_ge l.length k with h9 | h9
                · rw [(CC_0 k hk5 hk2 _ hm9).2 h9] at hq; exact absurd hq (Nat.not_lt_zero _)
                · exact h9
              · obtain ⟨c', d1, d2⟩ := c3 i hn
                iterate 2 refine hP _ _ _ _ ?_
                refine x_p4 (P := P) (ih2 (sA m5 34 gg) (hm5.tr (scr.a (by decide))) hl5 (fun c9 h9 i9 hi9 => by rw [d1] at h9; cases h9; rw [d2 i9 hi9]; exact hgg i9 hi9) hfs9 (some (.int (nI all))) (some (.int (nI sy))) x6) ?_ rfl ?_
                · rw [b_len (List.getElem?_eq_some_iff.mp d1).1]; rfl
                · rfl
              · have h9 := c2 hn
                iterate 2 refine hP _ _ _ _ ?_
                refine x_p4 (P := P) (ih2 m5 hm5 hl5 (fun c9 h9 => by rw [List.getElem?_eq_none (by omega)] at h9; cases h9) hfs9 (some (.int (nI all))) (some (.int (nI sy))) x6) ?_ rfl ?_
                · rw [b_nle (by omega)]; rfl
                · rfl
            · repeat refine hP _ _ _ _ ?_
              refine And.intro rfl (hT m5 (none, go, rs) hm5 ?_ ⟨⟨h11, h12⟩, hO, hR⟩)
              exact hf.trans (ff_s (hfs.trans (fs_s hc (he.trans (by unfold rOf; rw [ha]; rfl)))))
          have hm5 : scr ms (noneM m4) := hm4.tr (noneM_scr m4)
          have hC5 := hm5.c hC
          have hG5 := hm5.g hG
          have hcl5 := noneM_cl m4
          rw [b_len hq]
          have mid : P 157 [some (.ref 26), some (.int (nI k)), some (.int (nI g)), some (.int (bI true)), some (.int (nI all)), some (.int (nI sy)), some (.int (nI 0))] [] (w_M f (noneM m4) tl bb) := by
            by_cases hpc : pcN all = k
            · rw [if_pos hpc] at hEv
              have lp3 : ∀ i, i ≤ n → ∀ m6, scr ms m6 → lsM m6 l n → (∀ i, i < k → m6.2 34 i = nI (pF c i)) → m6.1 11 = -1 → m6.1 12 = -1 → oM m6 (hidG cb n w h g all sy i) → rM m6 (hidR n w h g all i) → P 157 [some (.ref 26), some (.int (nI k)), some (.int (nI g)), some (.int (bI true)), some (.int (nI all)), some (.int (nI sy)), some (.int (nI i))] [] (w_M f m6 tl bb) := by
                refine x_lp n (fun i hi ih3 m6 hm6 hl6 hp6 h11 h12 hO hR => ?_)
                have hG6 := hm6.g hG
                have hC6 := hm6.c hC
                repeat refine hP _ _ _ _ ?_
                refine b_ge (i) (n) (fun hi9 => ?_) (fun hi9 => ?_) (rfl) (hG6.1) (by omega) (by omega)
                · have hin : i = n := by omega
                  subst hin
                  refine x_p4 (P := P) (tk m6 _ _ hm6 hl6 hp6 h11 h12 hO hR hEv (some (.int (nI i)))) ?_ rfl ?_ <;> try (first | rfl | (rw [nI_succ]; rfl))
                · have hat := atN_lt (w := w) (h := h) hG.2.2.2 hg9 hi9
                  have ih3 := ih3 hi9
                  repeat refine hP _ _ _ _ ?_
                  refine r_countOf hall9 ?_
                  repeat refine hP _ _ _ _ ?_
                  refine b_ne ((pcN all)) (k) (fun h8 => ?_) (fun h8 => ?_) (rfl) (rfl) (by omega) (by omega)
                  · exact absurd hpc h8
                  · repeat refine hP _ _ _ _ ?_
                    refine b_ifne (fun h7 => ?_) (fun h7 => ?_) (bit1 hall9 (by omega))
                    · repeat refine hP _ _ _ _ ?_
                      refine r_at hG6 hg9 hi9 ?_
                      repeat refine hP _ _ _ _ ?_
                      refine And.intro (vp_in_nI (by omega) (by omega)) ?_
                      repeat refine hP _ _ _ _ ?_
                      refine r_at (ms := sA m6 31 (upd (m6.2 31) (nI (atN n w h g i)).toNatClampNeg (vp_nar .boolean (Int32.ofInt 1)))) hG6 hg9 hi9 ?_
                      repeat refine hP _ _ _ _ ?_
                      refine r_leavesC (ms := sA m6 31 (upd (m6.2 31) (nI (atN n w h g i)).toNatClampNeg (vp_nar .boolean (Int32.ofInt 1)))) hC6 g2 hO hat (by omega) rfl (fun gg hgg => ?_)
                      iterate 2 refine hP _ _ _ _ ?_
                      refine x_p4 (P := P) (ih3 (sA (sA m6 31 (upd (m6.2 31) (nI (atN n w h g i)).toNatClampNeg (vp_nar .boolean (Int32.ofInt 1)))) 32 gg) (hm6.tr ((scr.a (by decide)).tr (scr.a (by decide)))) hl6 hp6 h11 h12 (oM_congr hgg ?_) ?_) ?_ rfl ?_ <;> try (first | rfl | (rw [nI_succ]; rfl))
                      · intro e he
                        by_cases hea : e = atN n w h g i
                        · subst hea
                          simp only [if_true]
                          unfold hidG hidR
                          rw [any_s, h7]
                          simp only [Bool.and_true, beq_self_eq_true, Bool.or_true, if_true]
                          split
                          · rw [Nat.or_self]
                          · rw [Nat.zero_or]
                        · simp only [hea, if_false]
                          unfold hidG hidR
                          rw [any_s, beq_eq_false_iff_ne.mpr (fun h => hea h.symm), Bool.false_and, Bool.or_false]
                      · intro e he
                        show upd (m6.2 31) (nI (atN n w h g i)).toNatClampNeg (vp_nar .boolean (Int32.ofInt 1)) e = _
                        rw [upv (by omega)]
                        unfold hidR
                        rw [any_s]
                        by_cases hea : e = atN n w h g i
                        · subst hea
                          rw [pk_us, h7, beq_self_eq_true, Bool.and_true, Bool.or_true]
                          rfl
                        · rw [pk_un hea, hR e he, beq_eq_false_iff_ne.mpr (fun h => hea h.symm), Bool.false_and, Bool.or_false]
                          rfl
                    · iterate 3 refine hP _ _ _ _ ?_
                      refine x_p4 (P := P) (ih3 m6 hm6 hl6 hp6 h11 h12 (oM_congr hO ?_) ?_) ?_ rfl ?_ <;> try (first | rfl | (rw [nI_succ]; rfl))
                      · intro e he
                        unfold hidG hidR
                        rw [any_s, h7, Bool.and_false, Bool.or_false]
                      · intro e he
                        rw [hR e he]
                        unfold hidR
                        rw [any_s, h7, Bool.and_false, Bool.or_false]
              exact lp3 0 (by omega) (noneM m4) hm5 hl4 hp hcl5.1 hcl5.2.1 (fun e he => ⟨(hcl5.2.2 e he).2, by unfold hidG hidR; simp⟩) (fun e he => (hcl5.2.2 e he).1)
            · rw [if_neg hpc] at hEv
              repeat refine hP _ _ _ _ ?_
              refine b_ge 0 n (fun h0 => by omega) (fun _ => ?_) rfl hG5.1 (by omega) (by omega)
              repeat refine hP _ _ _ _ ?_
              refine r_countOf hall9 ?_
              have hpl : pcN all ≤ 9 := pcA_le _ _
              repeat refine hP _ _ _ _ ?_
              refine b_ne ((pcN all)) (k) (fun h8 => ?_) (fun h8 => ?_) (rfl) (rfl) (by omega) (by omega)
              · refine x_p4 (P := P) (tk (noneM m4) (fun _ => 0) (fun _ => false) hm5 hl4 hp hcl5.1 hcl5.2.1 (fun e he => ⟨(hcl5.2.2 e he).2, show 0 < 512 by decide⟩) (fun e he => (hcl5.2.2 e he).1) (hEv.trans rfl) (some (.int (nI 0)))) ?_ rfl ?_ <;> try (first | rfl | (rw [nI_succ]; rfl))
              · exact absurd h8 hpc
          have orl : ∀ i, i ≤ k → P 101 [some (.ref 26), some (.int (nI k)), some (.int (nI g)), some (.int (bI true)), some (.int (nI (orA (fun i => plB cb n w h g (u i) n) i))), some (.int (nI (orA (fun i => 2 ^ u i) i))), some (.int (nI i))] [] (w_M f (noneM m4) tl bb) := by
            refine x_lp k (fun i hi ih3 => ?_)
            repeat refine hP _ _ _ _ ?_
            refine b_ge (i) (k) (fun hi9 => ?_) (fun hi9 => ?_) (rfl) (rfl) (by omega) (by omega)
            · have hik : i = k := by omega
              subst hik
              rw [hall, hsy]
              iterate 2 refine hP _ _ _ _ ?_
              refine x_p4 (P := P) (mid) ?_ rfl ?_ <;> try (first | rfl | (rw [nI_succ]; rfl))
            · have e1 := c1 i hi9
              have e2 := hcell i hi9
              repeat refine hP _ _ _ _ ?_
              refine And.intro (vp_in_nI (by omega) (by omega)) ?_
              rw [ldv (f := (noneM m4).2 34) (hp i hi9) (by omega)]
              repeat refine hP _ _ _ _ ?_
              refine And.intro (vp_in_nI (by omega) (by omega)) ?_
              rw [ldv (f := (noneM m4).2 33) (hl4.2 _ e1).1 (by omega)]
              repeat refine hP _ _ _ _ ?_
              refine r_places hG5 hC5 hg9 e2 ?_
              repeat refine hP _ _ _ _ ?_
              refine And.intro (vp_in_nI (by omega) (by omega)) ?_
              rw [ldv (f := (noneM m4).2 34) (hp i hi9) (by omega)]
              repeat refine hP _ _ _ _ ?_
              refine And.intro (vp_in_nI (by omega) (by omega)) ?_
              rw [ldv (f := (noneM m4).2 33) (hl4.2 _ e1).1 (by omega)]
              iterate 5 refine hP _ _ _ _ ?_
              refine x_p4 (P := P) (ih3 hi9) ?_ rfl ?_
              · rw [show orA (fun i => plB cb n w h g (u i) n) (i + 1) = orA (fun i => plB cb n w h g (u i) n) i ||| plB cb n w h g (pF l (pF c i)) n by rw [← hue]; rfl, show orA (fun i => 2 ^ u i) (i + 1) = orA (fun i => 2 ^ u i) i ||| 2 ^ (pF l (pF c i)) by rw [← hue]; rfl, ← nx_or, ← nx_or, ← sh1 (by omega), nI_succ]; rfl
              · rfl
          repeat refine hP _ _ _ _ ?_
          refine r_none ?_
          iterate 6 refine hP _ _ _ _ ?_
          refine x_p4 (P := P) (orl 0 (by omega)) ?_ rfl ?_ <;> try (first | rfl | (rw [nI_succ]; rfl))
      have fin : ∀ m3, scr ms m3 → lsM m3 l n → P 65 [some (.ref 26), some (.int (nI k)), some (.int (nI g)), some (.int (nI n)), x4, x5, x6] [] (w_M f m3 tl bb) := by
        intro m3 hm3 hl3
        have go : ∀ x : Int32, x = bI (decide (0 < (CC k l.length).length)) → P 78 [some (.ref 26), some (.int (nI k)), some (.int (nI g)), some (.int (nI n)), x4, x5, x6] [.int x] (w_M f m3 tl bb) := by
          intro x hx
          subst hx
          repeat refine hP _ _ _ _ ?_
          refine r_first (by omega) (fun gg hgg => ?_)
          refine x_p4 (P := P) (whl 0 (by omega) (sA m3 34 gg) (hm3.tr (scr.a (by decide))) hl3 (fun c hc i hi => ?_) hev x4 x5 x6) ?_ rfl ?_ <;> try (first | rfl | (rw [nI_succ]; rfl))
          show gg i = _
          rw [hgg i hi]
          rcases Nat.lt_or_ge l.length k with h9 | h9
          · rw [(CC_0 k hk5 hk2 _ hm9).2 h9] at hc; cases hc
          · rw [(CC_0 k hk5 hk2 _ hm9).1 h9] at hc
            cases hc
            unfold pF
            simp [List.getD, hi]
        repeat refine hP _ _ _ _ ?_
        refine b_lt (l.length) (k) (fun h9 => ?_) (fun h9 => ?_) (hl3.1) (rfl) (by omega) (by omega)
        · refine hP _ _ _ _ ?_
          refine x_p4 (P := P) (go (bI false) ?_) ?_ rfl ?_
          · rw [(CC_0 k hk5 hk2 _ hm9).2 h9]; rfl
          · rfl
          · rfl
        · iterate 2 refine hP _ _ _ _ ?_
          refine x_p4 (P := P) (go (bI true) ?_) ?_ rfl ?_
          · rw [b_len]
            exact (List.getElem?_eq_some_iff.mp ((CC_0 k hk5 hk2 _ hm9).1 h9)).1
          · rfl
          · rfl
      have lst : ∀ i, i ≤ n → ∀ m3, scr ms m3 → lsM m3 (hidLk vb n w h g i) n → P 19 [some (.ref 26), some (.int (nI k)), some (.int (nI g)), some (.int (nI i)), x4, x5, x6] [] (w_M f m3 tl bb) := by
        refine x_lp n (fun i hi ih2 m3 hm3 hl3 => ?_)
        have hG3 := hm3.g hG
        have hV3 := hm3.v hV
        repeat refine hP _ _ _ _ ?_
        refine b_ge (i) (n) (fun hi9 => ?_) (fun hi9 => ?_) (rfl) (hG3.1) (by omega) (by omega)
        · have hin : i = n := by omega
          subst hin
          refine x_p4 (P := P) (fin m3 hm3 (hl ▸ hl3)) ?_ rfl ?_ <;> try (first | rfl | (rw [nI_succ]; rfl))
        · have hlk : (hidLk vb n w h g i).length ≤ i := fl_le _ _ (by simp)
          have ih2 := ih2 hi9
          rw [hidLk_s] at ih2
          have hpush : opB vb n w h g i = true → P 39 [some (.ref 26), some (.int (nI k)), some (.int (nI g)), some (.int (nI i)), x4, x5, x6] [] (w_M f m3 tl bb) := by
            intro hv
            rw [hv] at ih2
            repeat refine hP _ _ _ _ ?_
            rw [hl3.1]
            refine And.intro (vp_in_nI (by omega) (by omega)) ?_
            iterate 8 refine hP _ _ _ _ ?_
            refine x_p4 (P := P) (ih2 (sF (sA m3 33 (upd (m3.2 33) (hidLk vb n w h g i).length (nI i))) 13 (nI ((hidLk vb n w h g i).length + 1))) (hm3.tr ((scr.a (by decide)).tr (scr.f (by decide)))) (lsM_p hl3 hi9)) ?_ rfl ?_
            · rw [nI_succ]; rfl
            · rw [← upv (i := (hidLk vb n w h g i).length) (by omega), nI_succ, ← hl3.1]; rfl
          repeat refine hP _ _ _ _ ?_
          refine r_isOpenIn hG3 hV3 hg9 hi9 (fun ho => ?_) (fun ho => ?_)
          · repeat refine hP _ _ _ _ ?_
            refine And.intro (fun _ => ?_) (fun h => absurd (show bI true ≠ 0 by decide) h)
            exact hpush (opB_t.mpr ho)
          · have hv : opB vb n w h g i = false := by cases h8 : opB vb n w h g i with
              | true => exact absurd (opB_t.mp h8) ho
              | false => rfl
            rw [hv] at ih2
            repeat refine hP _ _ _ _ ?_
            refine And.intro (fun h => absurd (show bI false = 0 by decide) h) (fun _ => ?_)
            iterate 3 refine hP _ _ _ _ ?_
            refine x_p4 (P := P) (ih2 m3 hm3 (by rw [if_neg (by decide), List.append_nil]; exact hl3)) ?_ rfl ?_ <;> try (first | rfl | (rw [nI_succ]; rfl))
      iterate 5 refine hP _ _ _ _ ?_
      refine x_p4 (P := P) (lst 0 (by omega) (sF m2 13 0) (hm.tr (scr.f (by decide))) (lsM_0 m2 _)) ?_ rfl ?_ <;> try (first | rfl | (rw [nI_succ]; rfl))
  iterate 2 refine hP _ _ _ _ ?_
  refine x_p4 (P := P) (loop 0 (by omega) ms (scr.rf ms) rfl none none none none) ?_ rfl ?_ <;> try (first | rfl | (rw [nI_succ]; rfl))
end HD
