/-! ===== the class: naked sets ===== -/
def nkL (cb : Nat → Nat) (n w h g k : Nat) (L : List Nat) : Option rS := if pcN (unL cb L) = k then rOf (fun e => if ((List.range n).any fun i => atN n w h g i == e) && !(L.any fun i => i == e) then cb e &&& unL cb L else 0) (fun e => ((List.range n).any fun i => atN n w h g i == e) && (L.any fun i => i == e)) else none
theorem nak_cc (cb : Nat → Nat) (vb : Nat → Option Nat) (n w h k g : Nat) : nakH cb vb n w h k g = (CC k n).findSome? fun c => if c.all (fun i => (vb (atN n w h g i)).isNone) then nkL cb n w h g k (c.map (atN n w h g)) else none := by
  unfold nakH
  refine cc_all (k := k) (n := n) (l := openL vb n w h g) (good := fun i => (vb (atN n w h g i)).isNone) (f := atN n w h g) (F := nkL cb n w h g k) (G := fun u => nakE cb n w h g k u) ?_ (fun c hc u hu => ?_)
  · unfold openL openLk
    rw [List.filter_map]
    rfl
  · show nakE cb n w h g k u = nkL cb n w h g k c
    unfold nakE nkL nakG nakR
    rw [orA_un (v := cb) hc hu]
    have e : ∀ e, ((List.range k).any fun i => u i == e) = c.any fun i => i == e := fun e => any_pF (q := fun i => i == e) hc hu
    simp only [e]
theorem not_bit : ∀ S, S < 512 → ∀ i, i < 9 → ((nI S ^^^ Int32.ofInt (-1)) >>> (nI i &&& 31)) &&& Int32.ofInt 1 = bI (!S.testBit i) := by decide +kernel
theorem at_inj {n w h g i j : Nat} (k : KD n w h) (hg : g < 3 * n) (hi : i < n) (hj : j < n) (e : atN n w h g i = atN n w h g j) : i = j := by
  have h1 := (gat k hg hi).2.1
  have h2 := (gat k hg hj).2.1
  rw [e, h2] at h1
  exact h1.symm
theorem nk_go {cb : Nat → Nat} {n w h g U : Nat} {c : List Nat} (k : KD n w h) (hg : g < 3 * n) (hc : ∀ i, i ∈ c → i < n) (e : Nat) : spG (fun _ => 0) (fun e => cb e &&& U) (fun i => !(mkB c).testBit i) n w h g n e = if ((List.range n).any fun i => atN n w h g i == e) && !((c.map (atN n w h g)).any fun i => i == e) then cb e &&& U else 0 := by
  unfold spG
  have e1 : ((List.range n).any fun i => atN n w h g i == e && !(mkB c).testBit i) = (((List.range n).any fun i => atN n w h g i == e) && !((c.map (atN n w h g)).any fun i => i == e)) := by
    rw [Bool.eq_iff_iff, List.any_eq_true, Bool.and_eq_true, List.any_eq_true, Bool.not_eq_true', List.any_eq_false]
    constructor
    · rintro ⟨i, hi, h1⟩
      rw [Bool.and_eq_true, beq_iff_eq, Bool.not_eq_true'] at h1
      refine ⟨⟨i, hi, by rw [h1.1]; simp⟩, fun x hx hxe => ?_⟩
      obtain ⟨j, hj, e2⟩ := List.mem_map.mp hx
      rw [beq_iff_eq] at hxe
      have hij : i = j := at_inj k hg (List.mem_range.mp hi) (hc j hj) (by rw [h1.1, e2, hxe])
      subst hij
      have : (mkB c).testBit i = true := by rw [mkB_bit, List.any_eq_true]; exact ⟨i, hj, by simp⟩
      rw [h1.2] at this
      cases this
    · rintro ⟨⟨i, hi, h1⟩, h2⟩
      refine ⟨i, hi, ?_⟩
      rw [Bool.and_eq_true, Bool.not_eq_true']
      refine ⟨h1, ?_⟩
      cases hb : (mkB c).testBit i with
      | false => rfl
      | true =>
        rw [mkB_bit, List.any_eq_true] at hb
        obtain ⟨j, hj, e2⟩ := hb
        rw [beq_iff_eq] at e2
        subst e2
        exact absurd h1 (h2 (atN n w h g j) (List.mem_map.mpr ⟨j, hj, rfl⟩))
  rw [e1, Nat.zero_or]
theorem nk_rs {n w h g : Nat} {c : List Nat} (hc : ∀ i, i ∈ c → i < n) (e : Nat) : boR (fun _ => false) (mkB c).testBit n w h g n e = (((List.range n).any fun i => atN n w h g i == e) && ((c.map (atN n w h g)).any fun i => i == e)) := by
  unfold boR
  rw [Bool.false_or, Bool.eq_iff_iff, List.any_eq_true, Bool.and_eq_true, List.any_eq_true, List.any_eq_true]
  constructor
  · rintro ⟨i, hi, h1⟩
    rw [Bool.and_eq_true, mkB_bit, List.any_eq_true] at h1
    obtain ⟨h2, j, hj, e2⟩ := h1
    rw [beq_iff_eq] at e2
    subst e2
    exact ⟨⟨j, hi, h2⟩, _, List.mem_map.mpr ⟨j, hj, rfl⟩, h2⟩
  · rintro ⟨_, x, hx, h2⟩
    obtain ⟨j, hj, e2⟩ := List.mem_map.mp hx
    subst e2
    refine ⟨j, List.mem_range.mpr (hc j hj), ?_⟩
    rw [Bool.and_eq_true, mkB_bit, List.any_eq_true]
    exact ⟨h2, j, hj, by simp⟩
section K4
variable {sc : Nat × (Nat → Int32)} {cs : x_S} {tl : List x_C} {bb : Nat × Nat} {n w h d : Nat} {Q : x_O → x_H → Prop} {cb : Nat → Nat} {vb : Nat → Option Nat}
theorem c_nakedSet (hB : bC cs n w h cb vb) (hZ : zC cs n) (hnb : ¬ brk cb n w h) {k : Nat} (hk5 : k < 5) (hk2 : 2 ≤ k) {x : Int32} (hx : x = nI k) (hT : ∀ cs' r, scC cs cs' → nakS cb vb n w h k = some r → rsC cs' n r → Q (.inl (some (.int (bI true)))) (w_C n cs' tl bb)) (hF : ∀ cs', scC cs cs' → nakS cb vb n w h k = none → zC cs' n → Q (.inl (some (.int (bI false)))) (w_C n cs' tl bb)) : x_run sc x_MM x_EX (d + 4) k_X5_nakedSet [.ref 1, .int x] (w_C n cs tl bb) Q := by
  subst hx
  have hk := hB.1.1
  obtain ⟨g1, g2, g3, g4, g5, g6, g7, g8⟩ := hk.le
  refine x_in (M := m_X5_nakedSet) rfl rfl (Nat.le_of_ble_eq_true rfl) ⟨rfl, rfl, trivial⟩ ?_
  intro P hP
  have loop : ∀ g, g ≤ 3 * n → ∀ cs2 : x_S, scC cs cs2 → zC cs2 n → nakS cb vb n w h k = ff (nakH cb vb n w h k) (3 * n - g) g → ∀ x3 x4 x5, P 2 [some (.ref 1), some (.int (nI k)), some (.int (nI g)), x3, x4, x5] [] (w_C n cs2 tl bb) := by
    refine x_lp (3 * n) (fun g hg3 ih cs2 hsc hz hf x3 x4 x5 => ?_)
    repeat refine hP _ _ _ _ ?_
    refine b_ge (g) (3 * n) (fun hg => ?_) (fun hg => ?_) (rfl) (rfl) (by omega) (by omega)
    · repeat refine hP _ _ _ _ ?_
      exact And.intro rfl (hF cs2 hsc (hf.trans (ff_e hg)) hz)
    · have ih := ih hg
      have hcc := nak_cc cb vb n w h k g
      generalize hgood : (fun i => (vb (atN n w h g i)).isNone) = good at hcc
      have hv : ∀ i, i < n → good i = true → cb (atN n w h g i) ≠ 0 := fun i hi _ e => hnb (Or.inl ⟨_, atN_lt hk hg hi, e⟩)
      have next : ∀ cs5 : x_S, scC cs cs5 → zC cs5 n → nakH cb vb n w h k g = none → ∀ y3 y4 y5, P 171 [some (.ref 1), some (.int (nI k)), some (.int (nI g)), y3, y4, y5] [] (w_C n cs5 tl bb) := by
        intro cs5 h5 hz5 hn y3 y4 y5
        iterate 2 refine hP _ _ _ _ ?_
        refine x_p4 (P := P) (ih cs5 h5 hz5 (hf.trans (ff_n' hg hn)) y3 y4 y5) ?_ rfl ?_ <;> try (first | rfl | (rw [nI_succ]; rfl))
      have fill : ∀ i, i ≤ n → ∀ A : Nat → Int32, (∀ j, j < i → A j = nI (if good j then cb (atN n w h g j) else 0)) → ∀ x4 x5, P 15 [some (.ref 1), some (.int (nI k)), some (.int (nI g)), some (.int (nI i)), x4, x5] [] (w_C n (sA cs2 18 A) tl bb) := by
        refine x_lp n (fun i hi ihf A hA x4 x5 => ?_)
        have hsA : scC cs2 (sA cs2 18 A) := scC.a (Or.inr (Or.inr (Or.inr (Or.inr rfl))))
        have hB3 := (hsc.tr hsA).b hB
        obtain ⟨hG3, hC3, hV3, hP3, hE3⟩ := (hsc.tr hsA).b hB
        repeat refine hP _ _ _ _ ?_
        refine b_ge (i) (n) (fun hi9 => ?_) (fun hi9 => ?_) (rfl) (rfl) (by omega) (by omega)
        · have e9 : i = n := by omega
          subst e9
          generalize hmk : (fun j => if good j then cb (atN i w h g j) else 0) = mk at *
          have hm : ∀ j, j < i → mk j = if good j then cb (atN i w h g j) else 0 := fun j _ => by rw [← hmk]
          have hM : mC (sA cs2 18 A) i mk := by
            intro j hj
            refine ⟨by show A j = _; rw [hA j hj, ← hmk], ?_⟩
            rw [hm j hj]
            split
            · exact hC3.lt g2 (atN_lt hk hg hj)
            · decide
          have hz3 : zC (sA cs2 18 A) i := hz
          have hft := ftB_lt mk k i
          have hft9 : ftB mk k i < 512 := Nat.lt_of_lt_of_le hft (Nat.pow_le_pow_right (by omega) g2)
          have hpf : pcN (ftB mk k i) ≤ 9 := pcA_le _ 9
          repeat refine hP _ _ _ _ ?_
          refine c_fitItems hk hM hk5 rfl ?_
          repeat refine hP _ _ _ _ ?_
          refine c_bitCount hft9 rfl ?_
          repeat refine hP _ _ _ _ ?_
          refine b_ge (pcN (ftB mk k i)) (k) (fun hfew => ?_) (fun hfew => ?_) (rfl) (rfl) (by omega) (by omega)
          · have sets : ∀ t, t ≤ (CC k i).length → ∀ cs5 : x_S, frS (sA cs2 18 A) cs5 → zC cs5 i → nakH cb vb i w h k g = ((CC k i).drop t).findSome? (fun c => if c.all good then nkL cb i w h g k (c.map (atN i w h g)) else none) → ∀ y5, P 99 [some (.ref 1), some (.int (nI k)), some (.int (nI g)), some (.int (nI (ftB mk k i))), some (.int (nI (stN i k + t))), y5] [] (w_C i cs5 tl bb) := by
              refine x_lp (CC k i).length (fun t ht iht cs5 hf5 hz5 hfs y5 => ?_)
              have hM5 : mC cs5 i mk := fun j hj => by rw [hf5.2 18 (by decide)]; exact hM j hj
              have hB5 := hf5.sc.b hB3
              have hst := stN_s i hk5 hk2
              have hs5 := stN_le hk
              have hs6 := stN_mo i (show k + 1 ≤ 5 by omega)
              obtain ⟨b1, b2, b3, b4, b5, b6, b7⟩ := hk.b3
              repeat refine hP _ _ _ _ ?_
              refine c_end hB5.2.2.2.2 hk5 hk2 ?_
              repeat refine hP _ _ _ _ ?_
              refine b_ge (stN i k + t) (stN i (k + 1)) (fun ht9 => ?_) (fun ht9 => ?_) (rfl) (rfl) (by omega) (by omega)
              · exact next cs5 ((hsc.tr hsA).tr hf5.sc) hz5 (hfs.trans (fs_e (by omega))) _ _ _
              · have ht9 : t < (CC k i).length := by omega
                have iht := iht ht9
                have hct := List.getElem?_eq_getElem ht9
                generalize (CC k i)[t] = c at hct
                have hcm := List.mem_of_getElem? hct
                obtain ⟨c1, c2, c3⟩ := CC_at hk5 hk2 (by omega) hcm
                obtain ⟨v1, v2⟩ := cov_ok hk5 hk2 (by omega) hcm hm hv
                have hun := unS_un (mk := mk) c1
                have hunl := unS_lt (mk := mk) (S := mkB c) (fun j hj => (hM j hj).2) i (Nat.le_refl _)
                repeat refine hP _ _ _ _ ?_
                refine c_get hk hB5.2.2.2.2 hk5 hk2 hct ?_
                repeat refine hP _ _ _ _ ?_
                refine c_isCovered hk hM5 hk5 c3 rfl rfl rfl ?_
                rw [hun, v1]
                repeat refine hP _ _ _ _ ?_
                refine b_ifeq (fun hcov => ?_) (fun hcov => ?_) (rfl)
                · have hno : (if c.all good then nkL cb i w h g k (c.map (atN i w h g)) else none) = none := by
                    cases hca : c.all good with
                    | false => rfl
                    | true =>
                      rw [hca, Bool.true_and, beq_eq_false_iff_ne] at hcov
                      show nkL cb i w h g k (c.map (atN i w h g)) = none
                      unfold nkL
                      rw [unL_map, if_neg hcov]
                  iterate 2 refine hP _ _ _ _ ?_
                  refine x_p4 (P := P) (iht cs5 hf5 hz5 (hfs.trans (fs_n hct hno)) (some (.int (nI (mkB c))))) ?_ rfl ?_ <;> try (first | rfl | (rw [← Nat.add_assoc, nI_succ]; rfl))
                · rw [Bool.and_eq_true, beq_iff_eq] at hcov
                  have hue := (hun.trans (v2 hcov.1))
                  rw [hue] at hunl
                  have hyes : (if c.all good then nkL cb i w h g k (c.map (atN i w h g)) else none) = rOf (fun e => if ((List.range i).any fun j => atN i w h g j == e) && !((c.map (atN i w h g)).any fun j => j == e) then cb e &&& unL (fun j => cb (atN i w h g j)) c else 0) (fun e => ((List.range i).any fun j => atN i w h g j == e) && ((c.map (atN i w h g)).any fun j => j == e)) := by
                    rw [hcov.1]
                    show nkL cb i w h g k (c.map (atN i w h g)) = _
                    unfold nkL
                    rw [unL_map, if_pos hcov.2]
                  repeat refine hP _ _ _ _ ?_
                  refine c_unionOf hk hM5 c3 rfl ?_
                  rw [hue]
                  repeat refine hP _ _ _ _ ?_
                  refine c_strikePlaces hB5 hz5.2.2.1 hg (pb := fun j => !(mkB c).testBit j) (sm := fun e => cb e &&& unL (fun j => cb (atN i w h g j)) c) rfl (fun j hj => not_bit _ c3 j (by omega)) (fun e he => ⟨nx_and _ _, and_lt9 (hC3.lt g2 he)⟩) (fun cs6 hf6 ho6 => ?_)
                  have ho6 := oC_congr ho6 (fun e _ => nk_go hk hg c1 e)
                  repeat refine hP _ _ _ _ ?_
                  refine c_takesSome hk ho6 (fun e he => ?_) ?_
                  · cases hh : ((List.range i).any fun j => atN i w h g j == e) with
                    | false => rfl
                    | true => exact absurd (an_lt hk hg (Nat.le_refl _) hh) (by omega)
                  repeat refine hP _ _ _ _ ?_
                  refine b_ifeq (fun ha => ?_) (fun ha => ?_) (rfl)
                  · iterate 2 refine hP _ _ _ _ ?_
                    refine x_p4 (P := P) (iht cs6 (hf5.tr hf6) ⟨(hf6.1 1 (by decide)).trans hz5.1, (hf6.1 2 (by decide)).trans hz5.2.1, oC_0 g7 ho6 ha, hf6.r hz5.2.2.2⟩ (hfs.trans (fs_n hct (by rw [hyes]; unfold rOf; rw [ha]; rfl))) (some (.int (nI (mkB c))))) ?_ rfl ?_ <;> try (first | rfl | (rw [← Nat.add_assoc, nI_succ]; rfl))
                  · repeat refine hP _ _ _ _ ?_
                    refine c_becauseOf (hf6.sc.b hB5) (hf6.r hz5.2.2.2) hg (pb := (mkB c).testBit) rfl (fun j hj => bit1 c3 (by omega)) (fun cs7 hf7 hr7 => ?_)
                    repeat refine hP _ _ _ _ ?_
                    exact And.intro rfl (hT cs7 _ ((((hsc.tr hsA).tr hf5.sc).tr hf6.sc).tr hf7.sc) (hf.trans (ff_s' hg (hfs.trans (fs_s hct (hyes.trans (if_pos ha)))))) ⟨⟨(hf7.1 1 (by decide)).trans ((hf6.1 1 (by decide)).trans hz5.1), (hf7.1 2 (by decide)).trans ((hf6.1 2 (by decide)).trans hz5.2.1)⟩, hf7.o ho6, rC_congr hr7 (fun e _ => nk_rs c1 e)⟩)
            repeat refine hP _ _ _ _ ?_
            refine c_start hE3 hk5 hk2 ?_
            refine hP _ _ _ _ ?_
            refine x_p4 (P := P) (sets 0 (by omega) (sA cs2 18 A) (frS.rf _) hz3 hcc x5) ?_ rfl ?_ <;> try (first | rfl | (rw [nI_succ]; rfl))
          · have hnone : nakH cb vb i w h k g = none := by
              rw [hcc, List.findSome?_eq_none_iff]
              intro c hcm
              have hf9 := few_ok hk5 hk2 (by omega) hm hv hfew hcm
              cases hca : c.all good with
              | false => rfl
              | true =>
                rw [hca, Bool.true_and, beq_eq_false_iff_ne] at hf9
                show nkL cb i w h g k (c.map (atN i w h g)) = none
                unfold nkL
                rw [unL_map, if_neg hf9]
            refine hP _ _ _ _ ?_
            exact next (sA cs2 18 A) (hsc.tr hsA) hz3 hnone _ _ _
        · have ihf := ihf hi9
          have hat := atN_lt hk hg hi9
          repeat refine hP _ _ _ _ ?_
          refine c_cell hG3 hg hi9 rfl rfl ?_
          repeat refine hP _ _ _ _ ?_
          refine c_isOpen hk hV3 hat rfl ?_
          repeat refine hP _ _ _ _ ?_
          refine b_ifeq (fun ho => ?_) (fun ho => ?_) (rfl)
          · repeat refine hP _ _ _ _ ?_
            refine And.intro (vp_in_nI hi9 (by omega)) ?_
            rw [upv (f := (sA cs2 18 A).2 18) (by omega)]
            iterate 2 refine hP _ _ _ _ ?_
            refine x_p4 (P := P) (ihf (upd A i (Int32.ofInt 0)) (fun j hj => by rcases Nat.lt_or_eq_of_le (Nat.le_of_lt_succ hj) with h9 | h9; (rw [pk_un (by omega)]; exact hA j h9); (subst h9; rw [pk_us, ← hgood]; simp only [ho]; rfl)) (some (.int (nI (atN n w h g i)))) x5) ?_ rfl ?_ <;> try (first | rfl | (rw [nI_succ]; rfl))
          · repeat refine hP _ _ _ _ ?_
            refine And.intro (vp_in_nI hat (by omega)) ?_
            rw [ldv (f := (sA cs2 18 A).2 3) (hC3 _ hat).1 (by omega)]
            repeat refine hP _ _ _ _ ?_
            refine And.intro (vp_in_nI hi9 (by omega)) ?_
            rw [upv (f := (sA cs2 18 A).2 18) (by omega)]
            iterate 2 refine hP _ _ _ _ ?_
            refine x_p4 (P := P) (ihf (upd A i (nI (cb (atN n w h g i)))) (fun j hj => by rcases Nat.lt_or_eq_of_le (Nat.le_of_lt_succ hj) with h9 | h9; (rw [pk_un (by omega)]; exact hA j h9); (subst h9; rw [pk_us, ← hgood]; simp only [ho]; rfl)) (some (.int (nI (atN n w h g i)))) x5) ?_ rfl ?_ <;> try (first | rfl | (rw [nI_succ]; rfl))
      iterate 2 refine hP _ _ _ _ ?_
      refine x_p4 (P := P) (fill 0 (by omega) (cs2.2 18) (fun j hj => absurd hj (Nat.not_lt_zero j)) x4 x5) ?_ rfl ?_
      · rfl
      · rfl
  iterate 2 refine hP _ _ _ _ ?_
  refine x_p4 (P := P) (loop 0 (by omega) cs (scC.rf cs) hZ rfl none none none) ?_ rfl ?_ <;> try (first | rfl | (rw [nI_succ]; rfl))
end K4
