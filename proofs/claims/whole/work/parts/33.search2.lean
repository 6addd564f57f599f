/-! ===== the model: steps 0 to 3 ===== -/
def lastE (cb : Nat → Nat) (vb : Nat → Option Nat) (n w h c : Nat) : Option rS := if vb c = none ∧ pcN (cb c) = 1 then some (some (c, lowN (cb c)), setG cb n w h c (lowN (cb c)), fun e => e == c) else none
def lastS (cb : Nat → Nat) (vb : Nat → Option Nat) (n w h : Nat) : Option rS := ff (lastE cb vb n w h) (n * n) 0
/-- the cells of house g -/
def hsN (n w h g : Nat) (e : Nat) : Bool := (List.range n).any fun i => atN n w h g i == e
def onlyE (cb : Nat → Nat) (vb : Nat → Option Nat) (n w h g s : Nat) : Option rS := if pcN (plB cb n w h g s n) = 1 ∧ vb (atN n w h g (lowN (plB cb n w h g s n))) = none then some (some (atN n w h g (lowN (plB cb n w h g s n)), s), setG cb n w h (atN n w h g (lowN (plB cb n w h g s n))) s, hsN n w h g) else none
def onlyS (cb : Nat → Nat) (vb : Nat → Option Nat) (n w h fr : Nat) : Option rS := ff (fun g => ff (onlyE cb vb n w h g) n 0) n fr
theorem bI_1 (b : Bool) : bI b = bI true ↔ b = true := by cases b <;> decide
section S2
variable {sc : Nat × (Nat → Int32)} {f : Nat → x_C} {ms : x_S} {tl : List x_C} {bb : Nat × Nat} {n w h d : Nat} {Q : x_O → x_H → Prop} {cb : Nat → Nat} {vb : Nat → Option Nat}
theorem setG_o {ms : x_S} {g : Nat → Int32} {c s : Nat} (hC : cM ms n cb) (hn : n ≤ 9) (hc : c < n * n) (hg : ∀ e, e < 81 → g e = nI (setG cb n w h c s e)) : ∀ e, e < 81 → g e = nI (setG cb n w h c s e) ∧ setG cb n w h c s e < 512 := by
  intro e he
  refine ⟨hg e he, ?_⟩
  have h5 : ∀ k, k < n * n → cb k < 512 := fun k hk => Nat.lt_of_lt_of_le (hC k hk).2 (Nat.pow_le_pow_right (by omega) hn)
  unfold setG setGk
  split
  · exact Nat.lt_of_le_of_lt (clr_le _ _) (h5 c hc)
  · split
    · rename_i h9
      exact Nat.lt_of_le_of_lt Nat.and_le_left (h5 e h9.1)
    · decide
theorem r_last (hG : gM ms n w h) (hC : cM ms n cb) (hV : vM ms n vb) (hZ : clM ms) (hT : ∀ ms' r, scr ms ms' → lastS cb vb n w h = some r → resM ms' n r → Q (.inl (some (.int (bI true)))) (w_M f ms' tl bb)) (hF : lastS cb vb n w h = none → Q (.inl (some (.int (bI false)))) (w_M f ms tl bb)) : x_run sc x_MM x_EX (d + 4) k_X8_last [.ref 26] (w_M f ms tl bb) Q := by
  obtain ⟨g1, g2, g3, g4, g5, g6, g7, g8⟩ := hG.2.2.2.le
  refine x_in (M := m_X8_last) rfl rfl (Nat.le_of_ble_eq_true rfl) ⟨rfl, trivial⟩ ?_
  intro P hP
  have loop : ∀ j k, k + j = n * n → lastS cb vb n w h = ff (lastE cb vb n w h) j k → P 2 [some (.ref 26), some (.int (nI k))] [] (w_M f ms tl bb) := by
    intro j
    induction j with
    | zero =>
      intro k hk hf
      have hk : k = n * n := hk
      subst hk
      iterate 2 refine hP _ _ _ _ ?_
      refine hP _ _ _ _ (r_cells hG ?_)
      refine hP _ _ _ _ (And.intro (fun _ => ?_) (fun h => absurd (nI_le (Nat.le_refl _) (by omega)) h))
      refine hP _ _ _ _ ?_
      exact hP _ _ _ _ (And.intro rfl (hF hf))
    | succ j ih =>
      intro k hk hf
      have hk9 : k < n * n := by omega
      have hcl : (nI k).toNatClampNeg = k := nI_clamp (by omega)
      have hin : vp_in (nI k) 81 := vp_in_nI (by omega) (by omega)
      have h29 : cb k < 512 := Nat.lt_of_lt_of_le (hC k hk9).2 (Nat.pow_le_pow_right (by omega) g2)
      have hcb : ms.2 27 (nI k).toNatClampNeg = nI (cb k) := by rw [hcl]; exact (hC k hk9).1
      have go : lastE cb vb n w h k = none → P 57 [some (.ref 26), some (.int (nI k))] [] (w_M f ms tl bb) := by
        intro he
        refine hP _ _ _ _ ?_
        refine hP _ _ _ _ (x_p4 (P := P) (ih (k + 1) (by omega) (hf.trans (ff_n he))) ?_ rfl rfl)
        rw [nI_succ]; rfl
      iterate 2 refine hP _ _ _ _ ?_
      refine hP _ _ _ _ (r_cells hG ?_)
      refine hP _ _ _ _ (And.intro (fun h => absurd (show nI (n * n) ≤ nI k from h) (nI_ge (by omega) (by omega))) (fun _ => ?_))
      iterate 3 refine hP _ _ _ _ ?_
      refine hP _ _ _ _ (And.intro hin ?_)
      have hvn := vI_neg (o := vb k) (fun t ht => by have := (hV k hk9).2 t ht; omega)
      refine hP _ _ _ _ (And.intro (fun hv => ?_) (fun hv => ?_))
      · have hv : 0 ≤ ms.2 28 (nI k).toNatClampNeg := hv
        rw [hcl, (hV k hk9).1, hvn] at hv
        exact go (by unfold lastE; rw [if_neg (fun h => hv h.1)])
      · have hv : ¬ 0 ≤ ms.2 28 (nI k).toNatClampNeg := hv
        rw [hcl, (hV k hk9).1, hvn] at hv
        have hv : vb k = none := Decidable.of_not_not hv
        iterate 3 refine hP _ _ _ _ ?_
        refine hP _ _ _ _ (And.intro hin ?_)
        rw [hcb]
        refine hP _ _ _ _ (r_countOf h29 ?_)
        refine hP _ _ _ _ ?_
        have hpc : pcN (cb k) ≤ 9 := pcA_le _ _
        refine hP _ _ _ _ (And.intro (fun hq => ?_) (fun hq => ?_))
        · have hq : nI (pcN (cb k)) = nI 1 := hq
          rw [nI_eq (by omega) (by omega)] at hq
          have hne : cb k ≠ 0 := fun e => by rw [e, pcN_0] at hq; omega
          obtain ⟨l1, l2, l3⟩ := lowN_ok _ h29 hne
          have ln : lowN (cb k) < n := tb_lt l2 (hC k hk9).2
          iterate 4 refine hP _ _ _ _ ?_
          refine hP _ _ _ _ (And.intro hin ?_)
          iterate 5 refine hP _ _ _ _ ?_
          refine hP _ _ _ _ (And.intro hin ?_)
          rw [hcb]
          refine hP _ _ _ _ (r_lowest h29 l1 l2 l3 ?_)
          have hU : upd (ms.2 31) (nI k).toNatClampNeg (vp_nar .boolean (Int32.ofInt 1)) = upd (ms.2 31) k 1 := by rw [hcl]; rfl
          rw [hU]
          refine hP _ _ _ _ (r_sets (ms := sA ms 31 (upd (ms.2 31) k 1)) hG hC hk9 ln (fun e he => (hZ.2.2 e he).2) (fun g hg => ?_))
          have hs : lastS cb vb n w h = some (some (k, lowN (cb k)), setG cb n w h k (lowN (cb k)), fun e => e == k) := hf.trans (ff_s (by unfold lastE; rw [if_pos ⟨hv, hq⟩]))
          refine hP _ _ _ _ (And.intro rfl (hT _ _ ?_ hs ⟨⟨rfl, rfl, hk9, ln⟩, setG_o hC g2 hk9 hg, fun e he => ?_⟩))
          · exact (((scr.a (Or.inl rfl)).tr (scr.f (Or.inl rfl))).tr (scr.f (Or.inr (Or.inl rfl)))).tr (scr.a (Or.inr (Or.inl rfl)))
          · show upd (ms.2 31) k 1 e = bI (e == k)
            by_cases hek : e = k
            · subst hek
              rw [pk_us]
              simp [bI]
            · rw [pk_un hek, (hZ.2.2 e he).1]
              simp [bI, hek]
        · have hq : ¬ nI (pcN (cb k)) = nI 1 := hq
          rw [nI_eq (by omega) (by omega)] at hq
          refine hP _ _ _ _ ?_
          exact go (by unfold lastE; rw [if_neg (fun h => hq h.2)])
  iterate 2 refine hP _ _ _ _ ?_
  exact loop (n * n) 0 (by omega) rfl
theorem hsN_t {n w h g e : Nat} : hsN n w h g e = true ↔ ∃ i, i < n ∧ atN n w h g i = e := by
  unfold hsN
  simp only [List.any_eq_true, List.mem_range, beq_iff_eq]
theorem r_only (hG : gM ms n w h) (hC : cM ms n cb) (hV : vM ms n vb) (hZ : clM ms) {fr : Nat} (hfr : fr + n ≤ 3 * n) (hT : ∀ ms' r, scr ms ms' → onlyS cb vb n w h fr = some r → resM ms' n r → Q (.inl (some (.int (bI true)))) (w_M f ms' tl bb)) (hF : onlyS cb vb n w h fr = none → Q (.inl (some (.int (bI false)))) (w_M f ms tl bb)) : x_run sc x_MM x_EX (d + 4) k_X8_only [.ref 26, .int (nI fr)] (w_M f ms tl bb) Q := by
  obtain ⟨g1, g2, g3, g4, g5, g6, g7, g8⟩ := hG.2.2.2.le
  refine x_in (M := m_X8_only) rfl rfl (Nat.le_of_ble_eq_true rfl) ⟨rfl, rfl, trivial⟩ ?_
  intro P hP
  have loop : ∀ j g, g + j = fr + n → onlyS cb vb n w h fr = ff (fun g => ff (onlyE cb vb n w h g) n 0) j g → ∀ x3 x4 x5 : Option Value, P 2 [some (.ref 26), some (.int (nI fr)), some (.int (nI g)), x3, x4, x5] [] (w_M f ms tl bb) := by
    intro j
    induction j with
    | zero =>
      intro g hg hf x3 x4 x5
      have hg : g = fr + n := hg
      iterate 5 refine hP _ _ _ _ ?_
      refine hP _ _ _ _ (And.intro (fun _ => ?_) (fun h => absurd (show nI fr + ms.1 1 ≤ nI g by rw [hG.1, nI_add]; exact nI_le (by omega) (by omega)) h))
      refine hP _ _ _ _ ?_
      exact hP _ _ _ _ (And.intro rfl (hF hf))
    | succ j ih =>
      intro g hg hf x3 x4 x5
      have hg9 : g < 3 * n := by omega
      iterate 5 refine hP _ _ _ _ ?_
      refine hP _ _ _ _ (And.intro (fun h => absurd (show nI fr + ms.1 1 ≤ nI g from h) (by rw [hG.1, nI_add]; exact nI_ge (by omega) (by omega))) (fun _ => ?_))
      have loop2 : ∀ i s, s + i = n → ff (onlyE cb vb n w h g) n 0 = ff (onlyE cb vb n w h g) i s → ∀ x4 x5 : Option Value, P 14 [some (.ref 26), some (.int (nI fr)), some (.int (nI g)), some (.int (nI s)), x4, x5] [] (w_M f ms tl bb) := by
        intro i
        induction i with
        | zero =>
          intro s hs hfs x4 x5
          have hs : s = n := hs
          subst hs
          iterate 3 refine hP _ _ _ _ ?_
          refine hP _ _ _ _ (And.intro (fun _ => ?_) (fun h => absurd (show ms.1 1 ≤ nI s by rw [hG.1]; exact nI_le (Nat.le_refl _) (by omega)) h))
          refine hP _ _ _ _ ?_
          refine hP _ _ _ _ (x_p4 (P := P) (ih (g + 1) (by omega) (hf.trans (ff_n hfs)) (some (.int (nI s))) x4 x5) ?_ rfl rfl)
          rw [nI_succ]; rfl
        | succ i ih2 =>
          intro s hs hfs x4 x5
          have hs9 : s < n := by omega
          have hpl := plB_lt cb n w h g s n
          have h29 : plB cb n w h g s n < 512 := Nat.lt_of_lt_of_le hpl (Nat.pow_le_pow_right (by omega) g2)
          have go : onlyE cb vb n w h g s = none → ∀ x5 : Option Value, P 107 [some (.ref 26), some (.int (nI fr)), some (.int (nI g)), some (.int (nI s)), some (.int (nI (plB cb n w h g s n))), x5] [] (w_M f ms tl bb) := by
            intro he x5
            refine hP _ _ _ _ ?_
            refine hP _ _ _ _ (x_p4 (P := P) (ih2 (s + 1) (by omega) (hfs.trans (ff_n he)) (some (.int (nI (plB cb n w h g s n)))) x5) ?_ rfl rfl)
            rw [nI_succ]; rfl
          iterate 3 refine hP _ _ _ _ ?_
          refine hP _ _ _ _ (And.intro (fun h => absurd (show ms.1 1 ≤ nI s from h) (by rw [hG.1]; exact nI_ge (by omega) (by omega))) (fun _ => ?_))
          iterate 3 refine hP _ _ _ _ ?_
          refine hP _ _ _ _ (r_places hG hC hg9 hs9 ?_)
          iterate 2 refine hP _ _ _ _ ?_
          refine hP _ _ _ _ (r_countOf h29 ?_)
          refine hP _ _ _ _ ?_
          have hpc : pcN (plB cb n w h g s n) ≤ 9 := pcA_le _ _
          refine hP _ _ _ _ (And.intro (fun hq => ?_) (fun hq => ?_))
          · have hq : ¬ nI (pcN (plB cb n w h g s n)) = nI 1 := hq
            rw [nI_eq (by omega) (by omega)] at hq
            exact go (by unfold onlyE; rw [if_neg (fun h => hq h.1)]) x5
          · have hq : nI (pcN (plB cb n w h g s n)) = nI 1 := Decidable.of_not_not hq
            rw [nI_eq (by omega) (by omega)] at hq
            have hne : plB cb n w h g s n ≠ 0 := fun e => by rw [e, pcN_0] at hq; omega
            obtain ⟨l1, l2, l3⟩ := lowN_ok _ h29 hne
            have ln : lowN (plB cb n w h g s n) < n := tb_lt l2 hpl
            have hat := atN_lt (w := w) (h := h) hG.2.2.2 hg9 ln
            have hcl : (nI (atN n w h g (lowN (plB cb n w h g s n)))).toNatClampNeg = atN n w h g (lowN (plB cb n w h g s n)) := nI_clamp (by omega)
            iterate 5 refine hP _ _ _ _ ?_
            refine hP _ _ _ _ (r_lowest h29 l1 l2 l3 ?_)
            refine hP _ _ _ _ (r_at hG hg9 ln ?_)
            refine hP _ _ _ _ (And.intro (vp_in_nI (by omega) (by omega)) ?_)
            have hvn := vI_neg (o := vb (atN n w h g (lowN (plB cb n w h g s n)))) (fun t ht => by have := (hV _ hat).2 t ht; omega)
            have h0 : (0 ≤ ms.2 28 (nI (atN n w h g (lowN (plB cb n w h g s n)))).toNatClampNeg) ↔ vb (atN n w h g (lowN (plB cb n w h g s n))) ≠ none := by rw [hcl, (hV _ hat).1]; exact hvn
            have hlt0 : ∀ x : Int32, x < 0 ↔ ¬ 0 ≤ x := fun x => by rw [Int32.not_le]
            refine hP _ _ _ _ (And.intro (fun hv => ?_) (fun hv => ?_))
            · have hv : ms.2 28 (nI (atN n w h g (lowN (plB cb n w h g s n)))).toNatClampNeg < 0 := hv
              rw [hlt0, h0] at hv
              have hv : vb (atN n w h g (lowN (plB cb n w h g s n))) = none := Decidable.of_not_not hv
              have hs : onlyS cb vb n w h fr = some (some (atN n w h g (lowN (plB cb n w h g s n)), s), setG cb n w h (atN n w h g (lowN (plB cb n w h g s n))) s, hsN n w h g) := hf.trans (ff_s (hfs.trans (ff_s (by unfold onlyE; rw [if_pos ⟨hq, hv⟩]))))
              have loop3 : ∀ j2 k2 (m2 : Nat → Int32), k2 + j2 = n → (∀ e, e < 81 → m2 e = bI (decide (∃ i, i < k2 ∧ atN n w h g i = e))) → P 63 [some (.ref 26), some (.int (nI fr)), some (.int (nI g)), some (.int (nI s)), some (.int (nI (plB cb n w h g s n))), some (.int (nI k2))] [] (w_M f (sA ms 31 m2) tl bb) := by
                intro j2
                induction j2 with
                | zero =>
                  intro k2 m2 hk2 hm2
                  have hk2 : k2 = n := hk2
                  subst hk2
                  iterate 3 refine hP _ _ _ _ ?_
                  refine hP _ _ _ _ (And.intro (fun _ => ?_) (fun h => absurd (show ms.1 1 ≤ nI k2 by rw [hG.1]; exact nI_le (Nat.le_refl _) (by omega)) h))
                  iterate 4 refine hP _ _ _ _ ?_
                  refine hP _ _ _ _ (r_lowest h29 l1 l2 l3 ?_)
                  refine hP _ _ _ _ (r_at (ms := sA ms 31 m2) hG hg9 ln ?_)
                  refine hP _ _ _ _ ?_
                  refine hP _ _ _ _ (r_sets (ms := sA ms 31 m2) hG hC hat hs9 (fun e he => (hZ.2.2 e he).2) (fun gg hgg => ?_))
                  refine hP _ _ _ _ (And.intro rfl (hT _ _ ?_ hs ⟨⟨rfl, rfl, hat, hs9⟩, setG_o hC g2 hat hgg, fun e he => ?_⟩))
                  · exact (((scr.a (Or.inl rfl)).tr (scr.f (Or.inl rfl))).tr (scr.f (Or.inr (Or.inl rfl)))).tr (scr.a (Or.inr (Or.inl rfl)))
                  · show m2 e = bI (hsN k2 w h g e)
                    rw [hm2 e he]
                    congr 1
                    rw [Bool.eq_iff_iff, decide_eq_true_eq, hsN_t]
                | succ j2 ih3 =>
                  intro k2 m2 hk2 hm2
                  have hat2 := atN_lt (w := w) (h := h) hG.2.2.2 hg9 (show k2 < n by omega)
                  have hcl2 : (nI (atN n w h g k2)).toNatClampNeg = atN n w h g k2 := nI_clamp (by omega)
                  iterate 3 refine hP _ _ _ _ ?_
                  refine hP _ _ _ _ (And.intro (fun h => absurd (show ms.1 1 ≤ nI k2 from h) (by rw [hG.1]; exact nI_ge (by omega) (by omega))) (fun _ => ?_))
                  iterate 5 refine hP _ _ _ _ ?_
                  refine hP _ _ _ _ (r_at (ms := sA ms 31 m2) hG hg9 (by omega) ?_)
                  refine hP _ _ _ _ ?_
                  refine hP _ _ _ _ (And.intro (vp_in_nI (by omega) (by omega)) ?_)
                  refine hP _ _ _ _ ?_
                  refine hP _ _ _ _ (x_p4 (P := P) (ih3 (k2 + 1) (upd m2 (nI (atN n w h g k2)).toNatClampNeg (vp_nar .boolean (Int32.ofInt 1))) (by omega) ?_) ?_ rfl rfl)
                  · intro e he
                    rw [hcl2]
                    by_cases hea : e = atN n w h g k2
                    · subst hea
                      rw [pk_us, decide_eq_true ⟨k2, by omega, rfl⟩]
                      rfl
                    · rw [pk_un hea, hm2 e he]
                      congr 2
                      apply propext
                      constructor
                      · rintro ⟨i9, h8, h9⟩
                        exact ⟨i9, by omega, h9⟩
                      · rintro ⟨i9, h8, h9⟩
                        refine ⟨i9, ?_, h9⟩
                        by_cases hik : i9 = k2
                        · rw [hik] at h9; exact absurd h9.symm hea
                        · omega
                  · rw [nI_succ]; rfl
              refine hP _ _ _ _ ?_
              refine hP _ _ _ _ (x_p4 (P := P) (loop3 n 0 (ms.2 31) (by omega) ?_) rfl rfl ?_)
              · intro e he
                rw [(hZ.2.2 e he).1, decide_eq_false (by rintro ⟨i9, h8, -⟩; omega)]
                rfl
              · rfl
            · have hv : ¬ ms.2 28 (nI (atN n w h g (lowN (plB cb n w h g s n)))).toNatClampNeg < 0 := hv
              rw [hlt0, h0, Decidable.not_not] at hv
              refine hP _ _ _ _ ?_
              exact go (by unfold onlyE; rw [if_neg (fun h => hv h.2)]) x5
      iterate 2 refine hP _ _ _ _ ?_
      exact loop2 n 0 (by omega) rfl x4 x5
  iterate 2 refine hP _ _ _ _ ?_
  exact loop n fr rfl rfl none none none
end S2
