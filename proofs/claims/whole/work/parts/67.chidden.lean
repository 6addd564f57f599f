/-! ===== the class: hidden sets ===== -/
theorem unL_p2 : ∀ c : List Nat, unL (fun i => 2 ^ i) c = mkB c
  | [] => rfl
  | i :: c => by
    show 2 ^ i ||| unL (fun i => 2 ^ i) c = 2 ^ i ||| mkB c
    rw [unL_p2 c]
def hdL (cb : Nat → Nat) (n w h g k : Nat) (L : List Nat) : Option rS := if pcN (unL (fun s => plB cb n w h g s n) L) = k then rOf (fun e => if hidR n w h g (unL (fun s => plB cb n w h g s n) L) n e then clr (cb e) (mkB L) else 0) (hidR n w h g (unL (fun s => plB cb n w h g s n) L) n) else none
theorem hid_cc (cb : Nat → Nat) (vb : Nat → Option Nat) (n w h k g : Nat) : hidH cb vb n w h k g = (CC k n).findSome? fun c => if c.all (opB vb n w h g) then hdL cb n w h g k c else none := by
  have h0 := cc_all (k := k) (n := n) (l := hidL vb n w h g) (good := opB vb n w h g) (f := fun i => i) (F := hdL cb n w h g k) (G := fun u => hidE cb n w h g k u) (by unfold hidL hidLk; rw [List.map_id']) (fun c hc u hu => by
    show hidE cb n w h g k u = hdL cb n w h g k c
    unfold hidE hdL
    rw [orA_un (v := fun s => plB cb n w h g s n) hc hu, orA_un (v := fun s => 2 ^ s) hc hu, unL_p2]
    rfl)
  unfold hidH
  rw [h0]
  simp only [List.map_id']
theorem see_in {n w h g i j : Nat} (k : KD n w h) (hg : g < 3 * n) (hi : i < n) (hj : j < n) (hij : i ≠ j) : seeN n w h (atN n w h g i) (atN n w h g j) = true := by
  have h1 := gat k hg hi
  have h2 := gat k hg hj
  have hne : (atN n w h g i != atN n w h g j) = true := by rw [bne_iff_ne]; exact fun e => hij (at_inj k hg hi hj e)
  rw [seeN_ho, hne, Bool.true_and]
  have e : hoN n w h (atN n w h g i) (g / n) = hoN n w h (atN n w h g j) (g / n) := h1.1.trans h2.1.symm
  have h3 := h1.2.2
  generalize g / n = e3 at e h3
  rcases (show e3 = 0 ∨ e3 = 1 ∨ e3 = 2 by omega) with h9 | h9 | h9 <;> rw [h9] at e <;> rw [e] <;> simp
theorem op_eq {cb : Nat → Nat} {vb : Nat → Option Nat} {n w h g s : Nat} (k : KD n w h) (hst : stOK n w h cb vb) (hnb : ¬ brk cb n w h) (hg : g < 3 * n) (hs : s < n) : opB vb n w h g s = (decide (1 < pcN (plB cb n w h g s n)) || (plB cb n w h g s n != 0 && (vb (atN n w h g (lowN (plB cb n w h g s n)))).isNone)) := by
  obtain ⟨g1, g2, g3, g4, g5, g6, g7, g8⟩ := k.le
  have hne : plB cb n w h g s n ≠ 0 := fun e => hnb (Or.inr ⟨g, s, hg, hs, e⟩)
  obtain ⟨l1, l2⟩ := plB_low k hne
  have l3 := (lowN_ok _ (plB_9 cb w h g s g2) hne).2.1
  rw [bne_iff_ne.mpr hne, Bool.true_and]
  cases ho : opB vb n w h g s with
  | false =>
    have ho2 : ¬ opN vb n w h g s := fun e => by rw [opB_t.mpr e] at ho; cases ho
    obtain ⟨i, hi⟩ := Classical.not_forall.mp ho2
    obtain ⟨hi, hv⟩ := Classical.not_imp.mp hi
    have hv : vb (atN n w h g i) = some s := Decidable.of_not_not hv
    have hst2 := hst _ s (atN_lt k hg hi) hv
    have only : ∀ j, (plB cb n w h g s n).testBit j = true → j = i := by
      intro j hj
      have hjn := tb_lt hj (plB_lt cb n w h g s n)
      rw [plB_bit, Bool.and_eq_true] at hj
      refine Decidable.of_not_not fun hji => ?_
      have := hst2.2 _ (atN_lt k hg hjn) (see_in k hg hi hjn (fun e => hji e.symm))
      rw [hj.2] at this
      cases this
    have h1 : ¬ 1 < pcN (plB cb n w h g s n) := fun h9 => by
      obtain ⟨a, b, hab, ha, hb⟩ := two_bits (plB_9 cb w h g s g2) h9
      exact hab ((only a ha).trans (only b hb).symm)
    rw [decide_eq_false h1, Bool.false_or, only _ l3, hv]
    rfl
  | true =>
    have ho2 := opB_t.mp ho
    by_cases h1 : 1 < pcN (plB cb n w h g s n)
    · rw [decide_eq_true h1, Bool.true_or]
    · rw [decide_eq_false h1, Bool.false_or]
      cases hv : vb (atN n w h g (lowN (plB cb n w h g s n))) with
      | none => rfl
      | some t =>
        exfalso
        have hts : s ≠ t := fun e => ho2 _ l1 (by rw [hv, e])
        have := (hst _ t (atN_lt k hg l1) hv).1 s hts
        rw [l2] at this
        cases this
section K5
variable {sc : Nat × (Nat → Int32)} {cs : x_S} {tl : List x_C} {bb : Nat × Nat} {n w h d : Nat} {Q : x_O → x_H → Prop} {cb : Nat → Nat} {vb : Nat → Option Nat}
theorem c_hiddenSet (hB : bC cs n w h cb vb) (hZ : zC cs n) (hst : stOK n w h cb vb) (hnb : ¬ brk cb n w h) {k : Nat} (hk5 : k < 5) (hk2 : 2 ≤ k) {x : Int32} (hx : x = nI k) (hT : ∀ cs' r, scC cs cs' → hidS cb vb n w h k = some r → rsC cs' n r → Q (.inl (some (.int (bI true)))) (w_C n cs' tl bb)) (hF : ∀ cs', scC cs cs' → hidS cb vb n w h k = none → zC cs' n → Q (.inl (some (.int (bI false)))) (w_C n cs' tl bb)) : x_run sc x_MM x_EX (d + 4) k_X5_hiddenSet [.ref 1, .int x] (w_C n cs tl bb) Q := by
  subst hx
  have hk := hB.1.1
  obtain ⟨g1, g2, g3, g4, g5, g6, g7, g8⟩ := hk.le
  refine x_in (M := m_X5_hiddenSet) rfl rfl (Nat.le_of_ble_eq_true rfl) ⟨rfl, rfl, trivial⟩ ?_
  intro P hP
  have loop : ∀ g, g ≤ 3 * n → ∀ cs2 : x_S, scC cs cs2 → zC cs2 n → hidS cb vb n w h k = ff (hidH cb vb n w h k) (3 * n - g) g → ∀ x3 x4 x5, P 2 [some (.ref 1), some (.int (nI k)), some (.int (nI g)), x3, x4, x5] [] (w_C n cs2 tl bb) := by
    refine x_lp (3 * n) (fun g hg3 ih cs2 hsc hz hf x3 x4 x5 => ?_)
    repeat refine hP _ _ _ _ ?_
    refine b_ge (g) (3 * n) (fun hg => ?_) (fun hg => ?_) (rfl) (rfl) (by omega) (by omega)
    · repeat refine hP _ _ _ _ ?_
      exact And.intro rfl (hF cs2 hsc (hf.trans (ff_e hg)) hz)
    · have ih := ih hg
      have hcc := hid_cc cb vb n w h k g
      generalize hgood : opB vb n w h g = good at hcc
      have hv : ∀ i, i < n → good i = true → plB cb n w h g i n ≠ 0 := fun i hi _ e => hnb (Or.inr ⟨g, i, hg, hi, e⟩)
      have next : ∀ cs5 : x_S, scC cs cs5 → zC cs5 n → hidH cb vb n w h k g = none → ∀ y3 y4 y5, P 160 [some (.ref 1), some (.int (nI k)), some (.int (nI g)), y3, y4, y5] [] (w_C n cs5 tl bb) := by
        intro cs5 h5 hz5 hn y3 y4 y5
        iterate 2 refine hP _ _ _ _ ?_
        refine x_p4 (P := P) (ih cs5 h5 hz5 (hf.trans (ff_n' hg hn)) y3 y4 y5) ?_ rfl ?_ <;> try (first | rfl | (rw [nI_succ]; rfl))
      have fill : ∀ i, i ≤ n → ∀ A : Nat → Int32, (∀ j, j < i → A j = nI (if good j then plB cb n w h g j n else 0)) → ∀ x4 x5, P 15 [some (.ref 1), some (.int (nI k)), some (.int (nI g)), some (.int (nI i)), x4, x5] [] (w_C n (sA cs2 18 A) tl bb) := by
        refine x_lp n (fun i hi ihf A hA x4 x5 => ?_)
        have hsA : scC cs2 (sA cs2 18 A) := scC.a (Or.inr (Or.inr (Or.inr (Or.inr rfl))))
        have hB3 := (hsc.tr hsA).b hB
        obtain ⟨hG3, hC3, hV3, hP3, hE3⟩ := (hsc.tr hsA).b hB
        repeat refine hP _ _ _ _ ?_
        refine b_ge (i) (n) (fun hi9 => ?_) (fun hi9 => ?_) (rfl) (rfl) (by omega) (by omega)
        · have e9 : i = n := by omega
          subst e9
          generalize hmk : (fun j => if good j then plB cb i w h g j i else 0) = mk at *
          have hm : ∀ j, j < i → mk j = if good j then plB cb i w h g j i else 0 := fun j _ => by rw [← hmk]
          have hM : mC (sA cs2 18 A) i mk := by
            intro j hj
            refine ⟨by show A j = _; rw [hA j hj, ← hmk], ?_⟩
            rw [hm j hj]
            split
            · exact plB_9 cb w h g j g2
            · decide
          have hz3 : zC (sA cs2 18 A) i := hz
          have hft := ftB_lt mk k i
          have hft9 : ftB mk k i < 512 := Nat.lt_of_lt_of_le hft (Nat.pow_le_pow_right (by omega) g2)
          have hpf : pcN (ftB mk k i) ≤ 9 := pcA_le _ 9
          repeat refine hP _ _ _ _ ?_
          refine c_fitItems hk hM hk5 rfl ?_
          repeat refine hP _ _ _ _ ?_
          refine c_bitCount hft9 rfl ?_
          repeat refine hP _ _ _ _ ?_
          refine b_ge (pcN (ftB mk k i)) (k) (fun hfew => ?_) (fun hfew => ?_) (rfl) (rfl) (by omega) (by omega)
          · have sets : ∀ t, t ≤ (CC k i).length → ∀ cs5 : x_S, frS (sA cs2 18 A) cs5 → zC cs5 i → hidH cb vb i w h k g = ((CC k i).drop t).findSome? (fun c => if c.all good then hdL cb i w h g k c else none) → ∀ y5, P 84 [some (.ref 1), some (.int (nI k)), some (.int (nI g)), some (.int (nI (ftB mk k i))), some (.int (nI (stN i k + t))), y5] [] (w_C i cs5 tl bb) := by
              refine x_lp (CC k i).length (fun t ht iht cs5 hf5 hz5 hfs y5 => ?_)
              have hM5 : mC cs5 i mk := fun j hj => by rw [hf5.2 18 (by decide)]; exact hM j hj
              have hB5 := hf5.sc.b hB3
              have hst := stN_s i hk5 hk2
              have hs5 := stN_le hk
              have hs6 := stN_mo i (show k + 1 ≤ 5 by omega)
              obtain ⟨b1, b2, b3, b4, b5, b6, b7⟩ := hk.b3
              repeat refine hP _ _ _ _ ?_
              refine c_end hB5.2.2.2.2 hk5 hk2 ?_
              repeat refine hP _ _ _ _ ?_
              refine b_ge (stN i k + t) (stN i (k + 1)) (fun ht9 => ?_) (fun ht9 => ?_) (rfl) (rfl) (by omega) (by omega)
              · exact next cs5 ((hsc.tr hsA).tr hf5.sc) hz5 (hfs.trans (fs_e (by omega))) _ _ _
              · have ht9 : t < (CC k i).length := by omega
                have iht := iht ht9
                have hct := List.getElem?_eq_getElem ht9
                generalize (CC k i)[t] = c at hct
                have hcm := List.mem_of_getElem? hct
                obtain ⟨c1, c2, c3⟩ := CC_at hk5 hk2 (by omega) hcm
                obtain ⟨v1, v2⟩ := cov_ok hk5 hk2 (by omega) hcm hm hv
                have hun := unS_un (mk := mk) c1
                have hunl := unS_lt (mk := mk) (S := mkB c) (fun j hj => (hM j hj).2) i (Nat.le_refl _)
                repeat refine hP _ _ _ _ ?_
                refine c_get hk hB5.2.2.2.2 hk5 hk2 hct ?_
                repeat refine hP _ _ _ _ ?_
                refine c_isCovered hk hM5 hk5 c3 rfl rfl rfl ?_
                rw [hun, v1]
                repeat refine hP _ _ _ _ ?_
                refine b_ifeq (fun hcov => ?_) (fun hcov => ?_) (rfl)
                · have hno : (if c.all good then hdL cb i w h g k c else none) = none := by
                    cases hca : c.all good with
                    | false => rfl
                    | true =>
                      rw [hca, Bool.true_and, beq_eq_false_iff_ne] at hcov
                      show hdL cb i w h g k c = none
                      unfold hdL
                      rw [if_neg hcov]
                  iterate 2 refine hP _ _ _ _ ?_
                  refine x_p4 (P := P) (iht cs5 hf5 hz5 (hfs.trans (fs_n hct hno)) (some (.int (nI (mkB c))))) ?_ rfl ?_ <;> try (first | rfl | (rw [← Nat.add_assoc, nI_succ]; rfl))
                · rw [Bool.and_eq_true, beq_iff_eq] at hcov
                  have hue := (hun.trans (v2 hcov.1))
                  rw [hue] at hunl
                  have hyes : (if c.all good then hdL cb i w h g k c else none) = rOf (fun e => if hidR i w h g (unL (fun s => plB cb i w h g s i) c) i e then clr (cb e) (mkB c) else 0) (hidR i w h g (unL (fun s => plB cb i w h g s i) c) i) := by
                    rw [hcov.1]
                    show hdL cb i w h g k c = _
                    unfold hdL
                    rw [if_pos hcov.2]
                  repeat refine hP _ _ _ _ ?_
                  refine c_unionOf hk hM5 c3 rfl ?_
                  rw [hue]
                  repeat refine hP _ _ _ _ ?_
                  refine c_strikePlaces hB5 hz5.2.2.1 hg (pb := (unL (fun s => plB cb i w h g s i) c).testBit) (sm := fun e => clr (cb e) (mkB c)) rfl (fun j hj => bit1 hunl (by omega)) (fun e he => ⟨by rw [oim, nx_not], Nat.lt_of_le_of_lt (clr_le _ _) (hC3.lt g2 he)⟩) (fun cs6 hf6 ho6 => ?_)
                  have ho6 : oC cs6 i (fun e => if hidR i w h g (unL (fun s => plB cb i w h g s i) c) i e then clr (cb e) (mkB c) else 0) := oC_congr ho6 (fun e _ => by unfold spG hidR; rw [Nat.zero_or])
                  repeat refine hP _ _ _ _ ?_
                  refine c_takesSome hk ho6 (fun e he => ?_) ?_
                  · show (if hidR i w h g (unL (fun s => plB cb i w h g s i) c) i e then clr (cb e) (mkB c) else 0) = 0
                    rw [hidR_lt hk hg he]
                    rfl
                  repeat refine hP _ _ _ _ ?_
                  refine b_ifeq (fun ha => ?_) (fun ha => ?_) (rfl)
                  · iterate 2 refine hP _ _ _ _ ?_
                    refine x_p4 (P := P) (iht cs6 (hf5.tr hf6) ⟨(hf6.1 1 (by decide)).trans hz5.1, (hf6.1 2 (by decide)).trans hz5.2.1, oC_0 g7 ho6 ha, hf6.r hz5.2.2.2⟩ (hfs.trans (fs_n hct (by rw [hyes]; unfold rOf; rw [ha]; rfl))) (some (.int (nI (mkB c))))) ?_ rfl ?_ <;> try (first | rfl | (rw [← Nat.add_assoc, nI_succ]; rfl))
                  · have hM6 : mC cs6 i mk := fun j hj => by rw [hf6.2 18 (by decide)]; exact hM5 j hj
                    repeat refine hP _ _ _ _ ?_
                    refine c_unionOf hk hM6 c3 rfl ?_
                    rw [hue]
                    repeat refine hP _ _ _ _ ?_
                    refine c_becauseOf (hf6.sc.b hB5) (hf6.r hz5.2.2.2) hg (pb := (unL (fun s => plB cb i w h g s i) c).testBit) rfl (fun j hj => bit1 hunl (by omega)) (fun cs7 hf7 hr7 => ?_)
                    repeat refine hP _ _ _ _ ?_
                    exact And.intro rfl (hT cs7 _ ((((hsc.tr hsA).tr hf5.sc).tr hf6.sc).tr hf7.sc) (hf.trans (ff_s' hg (hfs.trans (fs_s hct (hyes.trans (if_pos ha)))))) ⟨⟨(hf7.1 1 (by decide)).trans ((hf6.1 1 (by decide)).trans hz5.1), (hf7.1 2 (by decide)).trans ((hf6.1 2 (by decide)).trans hz5.2.1)⟩, hf7.o ho6, rC_congr hr7 (fun e _ => by unfold boR hidR; rw [Bool.false_or])⟩)
            repeat refine hP _ _ _ _ ?_
            refine c_start hE3 hk5 hk2 ?_
            refine hP _ _ _ _ ?_
            refine x_p4 (P := P) (sets 0 (by omega) (sA cs2 18 A) (frS.rf _) hz3 hcc x5) ?_ rfl ?_ <;> try (first | rfl | (rw [nI_succ]; rfl))
          · have hnone : hidH cb vb i w h k g = none := by
              rw [hcc, List.findSome?_eq_none_iff]
              intro c hcm
              have hf9 := few_ok hk5 hk2 (by omega) hm hv hfew hcm
              cases hca : c.all good with
              | false => rfl
              | true =>
                rw [hca, Bool.true_and, beq_eq_false_iff_ne] at hf9
                show hdL cb i w h g k c = none
                unfold hdL
                rw [if_neg hf9]
            refine hP _ _ _ _ ?_
            exact next (sA cs2 18 A) (hsc.tr hsA) hz3 hnone _ _ _
        · have ihf := ihf hi9
          have h512 := plB_9 cb w h g i g2
          repeat refine hP _ _ _ _ ?_
          refine c_isOpenIn hB3 hg hi9 ?_
          rw [← op_eq hk hst hnb hg hi9, hgood]
          repeat refine hP _ _ _ _ ?_
          refine b_ifeq (fun ho => ?_) (fun ho => ?_) (rfl)
          · repeat refine hP _ _ _ _ ?_
            refine And.intro (vp_in_nI hi9 (by omega)) ?_
            rw [upv (f := (sA cs2 18 A).2 18) (by omega)]
            iterate 2 refine hP _ _ _ _ ?_
            refine x_p4 (P := P) (ihf (upd A i (Int32.ofInt 0)) (fun j hj => by rcases Nat.lt_or_eq_of_le (Nat.le_of_lt_succ hj) with h9 | h9; (rw [pk_un (by omega)]; exact hA j h9); (subst h9; rw [pk_us, ho]; rfl)) x4 x5) ?_ rfl ?_ <;> try (first | rfl | (rw [nI_succ]; rfl))
          · repeat refine hP _ _ _ _ ?_
            refine c_places hG3 hP3 hg hi9 rfl rfl ?_
            repeat refine hP _ _ _ _ ?_
            refine And.intro (vp_in_nI hi9 (by omega)) ?_
            rw [upv (f := (sA cs2 18 A).2 18) (by omega)]
            iterate 2 refine hP _ _ _ _ ?_
            refine x_p4 (P := P) (ihf (upd A i (nI (plB cb n w h g i n))) (fun j hj => by rcases Nat.lt_or_eq_of_le (Nat.le_of_lt_succ hj) with h9 | h9; (rw [pk_un (by omega)]; exact hA j h9); (subst h9; rw [pk_us, ho]; rfl)) x4 x5) ?_ rfl ?_ <;> try (first | rfl | (rw [nI_succ]; rfl))
      iterate 2 refine hP _ _ _ _ ?_
      refine x_p4 (P := P) (fill 0 (by omega) (cs2.2 18) (fun j hj => absurd hj (Nat.not_lt_zero j)) x4 x5) ?_ rfl ?_
      · rfl
      · rfl
  iterate 2 refine hP _ _ _ _ ?_
  refine x_p4 (P := P) (loop 0 (by omega) cs (scC.rf cs) hZ rfl none none none) ?_ rfl ?_ <;> try (first | rfl | (rw [nI_succ]; rfl))
end K5
