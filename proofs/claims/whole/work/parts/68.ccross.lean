/-! ===== the class: crossings ===== -/
def fsL (cb : Nat → Nat) (n w h fr s k : Nat) (L : List Nat) : Option rS := if pcN (unL (fun g => plB cb n w h g s n) L) = k then rOf (fun e => if (cb e).testBit s && fsX n w h fr (unL (fun g => plB cb n w h g s n) L) (fun g => !L.any fun i => i == g) n 0 e then cb e &&& 2 ^ s else 0) (fun e => (cb e).testBit s && fsX n w h fr (unL (fun g => plB cb n w h g s n) L) (fun g => L.any fun i => i == g) n 0 e) else none
theorem fis_cc (cb : Nat → Nat) (n w h fr k s : Nat) : fisH cb n w h fr k s = (CC k n).findSome? fun c => if c.all (fun a => decide (2 ≤ pcN (plB cb n w h (fr + a) s n))) then fsL cb n w h fr s k (c.map (fr + ·)) else none := by
  unfold fisH
  refine cc_all (k := k) (n := n) (l := fisL cb n w h fr s) (good := fun a => decide (2 ≤ pcN (plB cb n w h (fr + a) s n))) (f := (fr + ·)) (F := fsL cb n w h fr s k) (G := fun u => fisE cb n w h fr s k u) ?_ (fun c hc u hu => ?_)
  · unfold fisL fisLk
    rw [List.filter_map]
    rfl
  · show fisE cb n w h fr s k u = fsL cb n w h fr s k c
    have e : fpk k u = fun g => c.any fun i => i == g := by
      funext g
      exact any_pF (q := fun i => i == g) hc hu
    unfold fisE fsL fisG fisR
    rw [orA_un (v := fun g => plB cb n w h g s n) hc hu, e]
theorem fsX_all (n w h fr all : Nat) (pk : Nat → Bool) (e : Nat) : fsX n w h fr all pk n 0 e = (List.range n).any fun t => pk (fr + t) && (List.range n).any fun i => atN n w h (fr + t) i == e && all.testBit i := by
  unfold fsX
  simp
theorem mk_any (fr : Nat) (c : List Nat) (t : Nat) : ((c.map (fr + ·)).any fun i => i == fr + t) = (mkB c).testBit t := by
  rw [mkB_bit, List.any_map]
  congr 1
  funext i
  show (fr + i == fr + t) = (i == t)
  rw [Bool.eq_iff_iff, beq_iff_eq, beq_iff_eq]
  omega
def crA (cb : Nat → Nat) (n w h fr s U S k : Nat) : Nat → Nat := fun e => if (List.range k).any fun t => !S.testBit t && (List.range n).any fun i => atN n w h (fr + t) i == e && U.testBit i then cb e &&& 2 ^ s else 0
theorem crA_no {cb : Nat → Nat} {n w h fr s U S k : Nat} (hb : S.testBit k = true) : crA cb n w h fr s U S (k + 1) = crA cb n w h fr s U S k := by
  funext e
  unfold crA
  rw [any_s, hb]
  simp
theorem crA_yes {cb : Nat → Nat} {n w h fr s U S k : Nat} (hb : S.testBit k = false) (e : Nat) : spG (crA cb n w h fr s U S k) (fun e => cb e &&& 2 ^ s) U.testBit n w h (fr + k) n e = crA cb n w h fr s U S (k + 1) e := by
  unfold spG crA
  rw [any_s, hb, Bool.not_false, Bool.true_and]
  cases h1 : (List.range n).any fun i => atN n w h (fr + k) i == e && U.testBit i with
  | true =>
    rw [if_pos rfl, Bool.or_true, if_pos rfl]
    split
    · exact Nat.or_self _
    · exact Nat.zero_or _
  | false =>
    rw [Bool.or_false, if_neg (by decide)]
theorem crA_fs {cb : Nat → Nat} {n w h fr s U : Nat} {c : List Nat} (e : Nat) : crA cb n w h fr s U (mkB c) n e = if (cb e).testBit s && fsX n w h fr U (fun g => !(c.map (fr + ·)).any fun i => i == g) n 0 e then cb e &&& 2 ^ s else 0 := by
  rw [fsX_all]
  unfold crA
  simp only [mk_any]
  cases hb : (cb e).testBit s with
  | true => rw [Bool.true_and]
  | false =>
    have h0 : cb e &&& 2 ^ s = 0 := by
      apply Nat.eq_of_testBit_eq
      intro t
      rw [Nat.testBit_and, Nat.testBit_two_pow, Nat.zero_testBit]
      by_cases hst : s = t
      · subst hst; rw [hb]; rfl
      · rw [decide_eq_false hst, Bool.and_false]
    rw [h0]
    simp
def brA (cb : Nat → Nat) (n w h fr s S k : Nat) : Nat → Bool := fun e => (List.range k).any fun t => S.testBit t && (List.range n).any fun i => atN n w h (fr + t) i == e && (plB cb n w h (fr + t) s n).testBit i
theorem brA_no {cb : Nat → Nat} {n w h fr s S k : Nat} (hb : S.testBit k = false) : brA cb n w h fr s S (k + 1) = brA cb n w h fr s S k := by
  funext e
  unfold brA
  rw [any_s, hb]
  simp
theorem brA_yes {cb : Nat → Nat} {n w h fr s S k : Nat} (hb : S.testBit k = true) (e : Nat) : boR (brA cb n w h fr s S k) (plB cb n w h (fr + k) s n).testBit n w h (fr + k) n e = brA cb n w h fr s S (k + 1) e := by
  unfold boR brA
  rw [any_s, hb, Bool.true_and]
theorem brA_fs {cb : Nat → Nat} {n w h fr s : Nat} {c : List Nat} (hc : ∀ i, i ∈ c → i < n) (e : Nat) : brA cb n w h fr s (mkB c) n e = ((cb e).testBit s && fsX n w h fr (unL (fun a => plB cb n w h (fr + a) s n) c) (fun g => (c.map (fr + ·)).any fun i => i == g) n 0 e) := by
  rw [fsX_all]
  unfold brA
  simp only [mk_any]
  rw [Bool.eq_iff_iff, Bool.and_eq_true, List.any_eq_true, List.any_eq_true]
  constructor
  · rintro ⟨t, ht, h1⟩
    rw [Bool.and_eq_true, List.any_eq_true] at h1
    obtain ⟨h2, i, hi, h3⟩ := h1
    rw [Bool.and_eq_true] at h3
    have h4 := h3.2
    rw [plB_bit, Bool.and_eq_true, beq_iff_eq.mp h3.1] at h4
    refine ⟨h4.2, t, ht, ?_⟩
    rw [Bool.and_eq_true, List.any_eq_true]
    refine ⟨h2, i, hi, ?_⟩
    rw [Bool.and_eq_true, unL_bit, List.any_eq_true]
    rw [mkB_bit, List.any_eq_true] at h2
    obtain ⟨j, hj, e2⟩ := h2
    rw [beq_iff_eq] at e2
    subst e2
    exact ⟨h3.1, j, hj, h3.2⟩
  · rintro ⟨hb, t, ht, h1⟩
    rw [Bool.and_eq_true, List.any_eq_true] at h1
    obtain ⟨h2, i, hi, h3⟩ := h1
    rw [Bool.and_eq_true] at h3
    refine ⟨t, ht, ?_⟩
    rw [Bool.and_eq_true, List.any_eq_true]
    refine ⟨h2, i, hi, ?_⟩
    rw [Bool.and_eq_true, plB_bit, Bool.and_eq_true, decide_eq_true_eq, beq_iff_eq.mp h3.1]
    exact ⟨by simp, List.mem_range.mp hi, hb⟩
section K6
variable {sc : Nat × (Nat → Int32)} {cs : x_S} {tl : List x_C} {bb : Nat × Nat} {n w h d : Nat} {Q : x_O → x_H → Prop} {cb : Nat → Nat} {vb : Nat → Option Nat} {mk : Nat → Nat}
theorem c_crossingAt (hB : bC cs n w h cb vb) (hZ : zC cs n) (hM : mC cs n mk) {fr s : Nat} (hfr : fr + n ≤ 3 * n) (hs : s < n) {c : List Nat} (hc : ∀ i, i ∈ c → i < n) (hc9 : mkB c < 512) (hU : unS mk (mkB c) n = unL (fun a => plB cb n w h (fr + a) s n) c)
    (hT : ∀ cs', scC cs cs' → anyG (fun e => if (cb e).testBit s && fsX n w h fr (unL (fun a => plB cb n w h (fr + a) s n) c) (fun g => !(c.map (fr + ·)).any fun i => i == g) n 0 e then cb e &&& 2 ^ s else 0) = true → rsC cs' n (none, (fun e => if (cb e).testBit s && fsX n w h fr (unL (fun a => plB cb n w h (fr + a) s n) c) (fun g => !(c.map (fr + ·)).any fun i => i == g) n 0 e then cb e &&& 2 ^ s else 0), fun e => (cb e).testBit s && fsX n w h fr (unL (fun a => plB cb n w h (fr + a) s n) c) (fun g => (c.map (fr + ·)).any fun i => i == g) n 0 e) → Q (.inl (some (.int (bI true)))) (w_C n cs' tl bb))
    (hF : ∀ cs', frS cs cs' → anyG (fun e => if (cb e).testBit s && fsX n w h fr (unL (fun a => plB cb n w h (fr + a) s n) c) (fun g => !(c.map (fr + ·)).any fun i => i == g) n 0 e then cb e &&& 2 ^ s else 0) = false → zC cs' n → Q (.inl (some (.int (bI false)))) (w_C n cs' tl bb)) : x_run sc x_MM x_EX (d + 4) k_X5_crossingAt [.ref 1, .int (nI fr), .int (nI (mkB c)), .int (nI s)] (w_C n cs tl bb) Q := by
  have hB0 := hB
  obtain ⟨hG, hC, hV, hP9, hE⟩ := hB
  have hk := hG.1
  obtain ⟨g1, g2, g3, g4, g5, g6, g7, g8⟩ := hk.le
  obtain ⟨z1, z2, z3, z4⟩ := hZ
  have hUl := unS_lt (mk := mk) (S := mkB c) (fun j hj => (hM j hj).2) n (Nat.le_refl _)
  rw [hU] at hUl
  generalize hUU : unL (fun a => plB cb n w h (fr + a) s n) c = U at *
  refine x_in (M := m_X5_crossingAt) rfl rfl (Nat.le_of_ble_eq_true rfl) ⟨rfl, rfl, rfl, rfl, trivial⟩ ?_
  intro P hP
  repeat refine hP _ _ _ _ ?_
  refine c_unionOf hk hM hc9 rfl ?_
  rw [hU]
  have fin : ∀ cs2 : x_S, scC cs cs2 → cs2.1 1 = -1 → cs2.1 2 = -1 → oC cs2 n (fun e => if (cb e).testBit s && fsX n w h fr U (fun g => !(c.map (fr + ·)).any fun i => i == g) n 0 e then cb e &&& 2 ^ s else 0) → anyG (fun e => if (cb e).testBit s && fsX n w h fr U (fun g => !(c.map (fr + ·)).any fun i => i == g) n 0 e then cb e &&& 2 ^ s else 0) = true → ∀ a, a ≤ n → ∀ cs3 : x_S, frB cs2 cs3 → rC cs3 n (brA cb n w h fr s (mkB c) a) → P 59 [some (.ref 1), some (.int (nI fr)), some (.int (nI (mkB c))), some (.int (nI s)), some (.int (nI U)), some (.int (nI a))] [] (w_C n cs3 tl bb) := by
    intro cs2 hsc2 e1 e2 ho2 ha2
    refine x_lp n (fun a ha ih cs3 hf3 hr3 => ?_)
    obtain ⟨hG3, hC3, hV3, hP3, hE3⟩ := (hsc2.tr hf3.sc).b hB0
    have hB3 := (hsc2.tr hf3.sc).b hB0
    repeat refine hP _ _ _ _ ?_
    refine b_ge (a) (n) (fun ha9 => ?_) (fun ha9 => ?_) (rfl) (rfl) (by omega) (by omega)
    · have e9 : a = n := by omega
      subst e9
      repeat refine hP _ _ _ _ ?_
      refine And.intro rfl (hT cs3 (hsc2.tr hf3.sc) ha2 ⟨⟨(hf3.1 1 (by decide)).trans e1, (hf3.1 2 (by decide)).trans e2⟩, hf3.o ho2, rC_congr hr3 (fun e _ => ?_)⟩)
      rw [← hUU]
      exact brA_fs hc e
    · have ih := ih ha9
      repeat refine hP _ _ _ _ ?_
      refine b_ifeq (fun hb => ?_) (fun hb => ?_) (bit1 hc9 (by omega))
      · rw [brA_no hb] at ih
        iterate 2 refine hP _ _ _ _ ?_
        refine x_p4 (P := P) (ih cs3 hf3 hr3) ?_ rfl ?_ <;> try (first | rfl | (rw [nI_succ]; rfl))
      · repeat refine hP _ _ _ _ ?_
        refine c_places hG3 hP3 (show fr + a < 3 * n by omega) hs (by rw [nI_add]) rfl ?_
        repeat refine hP _ _ _ _ ?_
        refine c_becauseOf hB3 hr3 (show fr + a < 3 * n by omega) (pb := (plB cb n w h (fr + a) s n).testBit) (by rw [nI_add]) (fun j hj => bit1 (plB_9 cb w h _ s g2) (by omega)) (fun cs4 hf4 hr4 => ?_)
        iterate 2 refine hP _ _ _ _ ?_
        refine x_p4 (P := P) (ih cs4 (hf3.tr hf4) (rC_congr hr4 (fun e _ => brA_yes hb e))) ?_ rfl ?_ <;> try (first | rfl | (rw [nI_succ]; rfl))
  have loop : ∀ a, a ≤ n → ∀ cs2 : x_S, frS cs cs2 → oC cs2 n (crA cb n w h fr s U (mkB c) a) → P 10 [some (.ref 1), some (.int (nI fr)), some (.int (nI (mkB c))), some (.int (nI s)), some (.int (nI U)), some (.int (nI a))] [] (w_C n cs2 tl bb) := by
    refine x_lp n (fun a ha ih cs2 hf ho => ?_)
    have hB2 := hf.sc.b hB0
    repeat refine hP _ _ _ _ ?_
    refine b_ge (a) (n) (fun ha9 => ?_) (fun ha9 => ?_) (rfl) (rfl) (by omega) (by omega)
    · have e9 : a = n := by omega
      subst e9
      have ho := oC_congr ho (fun e _ => crA_fs e)
      repeat refine hP _ _ _ _ ?_
      refine c_takesSome hk ho (fun e he => ?_) ?_
      · show (if (cb e).testBit s && fsX a w h fr U _ a 0 e then cb e &&& 2 ^ s else 0) = 0
        rw [fsX_lt hk hfr he, Bool.and_false]
        rfl
      repeat refine hP _ _ _ _ ?_
      refine b_ifne (fun ha => ?_) (fun ha => ?_) (rfl)
      · iterate 2 refine hP _ _ _ _ ?_
        refine x_p4 (P := P) (fin cs2 hf.sc ((hf.1 1 (by decide)).trans z1) ((hf.1 2 (by decide)).trans z2) ho ha 0 (by omega) cs2 (frB.rf cs2) (hf.r z4)) ?_ rfl ?_ <;> try (first | rfl | (rw [nI_succ]; rfl))
      · repeat refine hP _ _ _ _ ?_
        exact And.intro rfl (hF cs2 hf ha ⟨(hf.1 1 (by decide)).trans z1, (hf.1 2 (by decide)).trans z2, oC_0 g7 ho ha, hf.r z4⟩)
    · have ih := ih ha9
      repeat refine hP _ _ _ _ ?_
      refine b_ifne (fun hb => ?_) (fun hb => ?_) (bit1 hc9 (by omega))
      · rw [crA_no hb] at ih
        iterate 2 refine hP _ _ _ _ ?_
        refine x_p4 (P := P) (ih cs2 hf ho) ?_ rfl ?_ <;> try (first | rfl | (rw [nI_succ]; rfl))
      · repeat refine hP _ _ _ _ ?_
        refine c_strikePlaces hB2 ho (show fr + a < 3 * n by omega) (pb := U.testBit) (sm := fun e => cb e &&& 2 ^ s) (by rw [nI_add]) (fun j hj => bit1 hUl (by omega)) (fun e he => ⟨by rw [sh1 (show s < 10 by omega), nx_and], and_lt9 (hC.lt g2 he)⟩) (fun cs4 hf4 ho4 => ?_)
        iterate 2 refine hP _ _ _ _ ?_
        refine x_p4 (P := P) (ih cs4 (hf.tr hf4) (oC_congr ho4 (fun e _ => crA_yes hb e))) ?_ rfl ?_ <;> try (first | rfl | (rw [nI_succ]; rfl))
  iterate 3 refine hP _ _ _ _ ?_
  refine x_p4 (P := P) (loop 0 (by omega) cs (frS.rf cs) z3) ?_ rfl ?_ <;> try (first | rfl | (rw [nI_succ]; rfl))
theorem c_crossing (hB : bC cs n w h cb vb) (hZ : zC cs n) {k fr : Nat} (hfr : fr + n ≤ 3 * n) (hk5 : k < 5) (hk2 : 2 ≤ k) {x y : Int32} (hx : x = nI fr) (hy : y = nI k) (hT : ∀ cs' r, scC cs cs' → fisS cb n w h fr k = some r → rsC cs' n r → Q (.inl (some (.int (bI true)))) (w_C n cs' tl bb)) (hF : ∀ cs', scC cs cs' → fisS cb n w h fr k = none → zC cs' n → Q (.inl (some (.int (bI false)))) (w_C n cs' tl bb)) : x_run sc x_MM x_EX (d + 5) k_X5_crossing [.ref 1, .int x, .int y] (w_C n cs tl bb) Q := by
  subst hx; subst hy
  have hk := hB.1.1
  obtain ⟨g1, g2, g3, g4, g5, g6, g7, g8⟩ := hk.le
  refine x_in (M := m_X5_crossing) rfl rfl (Nat.le_of_ble_eq_true rfl) ⟨rfl, rfl, rfl, trivial⟩ ?_
  intro P hP
  have loop : ∀ g, g ≤ n → ∀ cs2 : x_S, scC cs cs2 → zC cs2 n → fisS cb n w h fr k = ff (fisH cb n w h fr k) (n - g) g → ∀ x3 x4 x5, P 2 [some (.ref 1), some (.int (nI fr)), some (.int (nI k)), some (.int (nI g)), x3, x4, x5] [] (w_C n cs2 tl bb) := by
    refine x_lp n (fun g hg3 ih cs2 hsc hz hf x3 x4 x5 => ?_)
    repeat refine hP _ _ _ _ ?_
    refine b_ge (g) (n) (fun hg => ?_) (fun hg => ?_) (rfl) (rfl) (by omega) (by omega)
    · repeat refine hP _ _ _ _ ?_
      exact And.intro rfl (hF cs2 hsc (hf.trans (ff_e hg)) hz)
    · have ih := ih hg
      have hcc := fis_cc cb n w h fr k g
      generalize hgood : (fun a => decide (2 ≤ pcN (plB cb n w h (fr + a) g n))) = good at hcc
      have hv : ∀ i, i < n → good i = true → plB cb n w h (fr + i) g n ≠ 0 := fun i hi hg9 e => by
        rw [← hgood] at hg9
        have := of_decide_eq_true hg9
        rw [e, pcN_0] at this
        omega
      have next : ∀ cs5 : x_S, scC cs cs5 → zC cs5 n → fisH cb n w h fr k g = none → ∀ y3 y4 y5, P 148 [some (.ref 1), some (.int (nI fr)), some (.int (nI k)), some (.int (nI g)), y3, y4, y5] [] (w_C n cs5 tl bb) := by
        intro cs5 h5 hz5 hn y3 y4 y5
        iterate 2 refine hP _ _ _ _ ?_
        refine x_p4 (P := P) (ih cs5 h5 hz5 (hf.trans (ff_n' hg hn)) y3 y4 y5) ?_ rfl ?_ <;> try (first | rfl | (rw [nI_succ]; rfl))
      have fill : ∀ i, i ≤ n → ∀ A : Nat → Int32, (∀ j, j < i → A j = nI (if good j then plB cb n w h (fr + j) g n else 0)) → ∀ x4 x5, P 13 [some (.ref 1), some (.int (nI fr)), some (.int (nI k)), some (.int (nI g)), some (.int (nI i)), x4, x5] [] (w_C n (sA cs2 18 A) tl bb) := by
        refine x_lp n (fun i hi ihf A hA x4 x5 => ?_)
        have hsA : scC cs2 (sA cs2 18 A) := scC.a (Or.inr (Or.inr (Or.inr (Or.inr rfl))))
        have hB3 := (hsc.tr hsA).b hB
        obtain ⟨hG3, hC3, hV3, hP3, hE3⟩ := (hsc.tr hsA).b hB
        repeat refine hP _ _ _ _ ?_
        refine b_ge (i) (n) (fun hi9 => ?_) (fun hi9 => ?_) (rfl) (rfl) (by omega) (by omega)
        · have e9 : i = n := by omega
          subst e9
          generalize hmk : (fun j => if good j then plB cb i w h (fr + j) g i else 0) = mk at *
          have hm : ∀ j, j < i → mk j = if good j then plB cb i w h (fr + j) g i else 0 := fun j _ => by rw [← hmk]
          have hM : mC (sA cs2 18 A) i mk := by
            intro j hj
            refine ⟨by show A j = _; rw [hA j hj, ← hmk], ?_⟩
            rw [hm j hj]
            split
            · exact plB_9 cb w h _ g g2
            · decide
          have hz3 : zC (sA cs2 18 A) i := hz
          have hft := ftB_lt mk k i
          have hft9 : ftB mk k i < 512 := Nat.lt_of_lt_of_le hft (Nat.pow_le_pow_right (by omega) g2)
          have hpf : pcN (ftB mk k i) ≤ 9 := pcA_le _ 9
          repeat refine hP _ _ _ _ ?_
          refine c_fitItems hk hM hk5 rfl ?_
          repeat refine hP _ _ _ _ ?_
          refine c_bitCount hft9 rfl ?_
          repeat refine hP _ _ _ _ ?_
          refine b_ge (pcN (ftB mk k i)) (k) (fun hfew => ?_) (fun hfew => ?_) (rfl) (rfl) (by omega) (by omega)
          · have sets : ∀ t, t ≤ (CC k i).length → ∀ cs5 : x_S, frS (sA cs2 18 A) cs5 → zC cs5 i → fisH cb i w h fr k g = ((CC k i).drop t).findSome? (fun c => if c.all good then fsL cb i w h fr g k (c.map (fr + ·)) else none) → ∀ y5, P 93 [some (.ref 1), some (.int (nI fr)), some (.int (nI k)), some (.int (nI g)), some (.int (nI (ftB mk k i))), some (.int (nI (stN i k + t))), y5] [] (w_C i cs5 tl bb) := by
              refine x_lp (CC k i).length (fun t ht iht cs5 hf5 hz5 hfs y5 => ?_)
              have hM5 : mC cs5 i mk := fun j hj => by rw [hf5.2 18 (by decide)]; exact hM j hj
              have hB5 := hf5.sc.b hB3
              have hst := stN_s i hk5 hk2
              have hs5 := stN_le hk
              have hs6 := stN_mo i (show k + 1 ≤ 5 by omega)
              obtain ⟨b1, b2, b3, b4, b5, b6, b7⟩ := hk.b3
              repeat refine hP _ _ _ _ ?_
              refine c_end hB5.2.2.2.2 hk5 hk2 ?_
              repeat refine hP _ _ _ _ ?_
              refine b_ge (stN i k + t) (stN i (k + 1)) (fun ht9 => ?_) (fun ht9 => ?_) (rfl) (rfl) (by omega) (by omega)
              · exact next cs5 ((hsc.tr hsA).tr hf5.sc) hz5 (hfs.trans (fs_e (by omega))) _ _ _
              · have ht9 : t < (CC k i).length := by omega
                have iht := iht ht9
                have hct := List.getElem?_eq_getElem ht9
                generalize (CC k i)[t] = c at hct
                have hcm := List.mem_of_getElem? hct
                obtain ⟨c1, c2, c3⟩ := CC_at hk5 hk2 (by omega) hcm
                obtain ⟨v1, v2⟩ := cov_ok hk5 hk2 (by omega) hcm hm hv
                have hun := unS_un (mk := mk) c1
                have hunl := unS_lt (mk := mk) (S := mkB c) (fun j hj => (hM j hj).2) i (Nat.le_refl _)
                repeat refine hP _ _ _ _ ?_
                refine c_get hk hB5.2.2.2.2 hk5 hk2 hct ?_
                repeat refine hP _ _ _ _ ?_
                refine c_isCovered hk hM5 hk5 c3 rfl rfl rfl ?_
                rw [hun, v1]
                repeat refine hP _ _ _ _ ?_
                refine b_ifeq (fun hcov => ?_) (fun hcov => ?_) (rfl)
                · have hno : (if c.all good then fsL cb i w h fr g k (c.map (fr + ·)) else none) = none := by
                    cases hca : c.all good with
                    | false => rfl
                    | true =>
                      rw [hca, Bool.true_and, beq_eq_false_iff_ne] at hcov
                      show fsL cb i w h fr g k (c.map (fr + ·)) = none
                      unfold fsL
                      rw [unL_map, if_neg hcov]
                  iterate 2 refine hP _ _ _ _ ?_
                  refine x_p4 (P := P) (iht cs5 hf5 hz5 (hfs.trans (fs_n hct hno)) (some (.int (nI (mkB c))))) ?_ rfl ?_ <;> try (first | rfl | (rw [← Nat.add_assoc, nI_succ]; rfl))
                · rw [Bool.and_eq_true, beq_iff_eq] at hcov
                  have hue := (hun.trans (v2 hcov.1))
                  have hyes : (if c.all good then fsL cb i w h fr g k (c.map (fr + ·)) else none) = rOf (fun e => if (cb e).testBit g && fsX i w h fr (unL (fun a => plB cb i w h (fr + a) g i) c) (fun q => !(c.map (fr + ·)).any fun j => j == q) i 0 e then cb e &&& 2 ^ g else 0) (fun e => (cb e).testBit g && fsX i w h fr (unL (fun a => plB cb i w h (fr + a) g i) c) (fun q => (c.map (fr + ·)).any fun j => j == q) i 0 e) := by
                    rw [hcov.1]
                    show fsL cb i w h fr g k (c.map (fr + ·)) = _
                    unfold fsL
                    rw [unL_map, if_pos hcov.2]
                  repeat refine hP _ _ _ _ ?_
                  refine c_crossingAt hB5 hz5 hM5 hfr hg c1 c3 hue (fun cs6 hs6 ha hr6 => ?_) (fun cs6 hf6 ha hz6 => ?_)
                  · repeat refine hP _ _ _ _ ?_
                    refine b_ifeq (fun h6 => ?_) (fun h6 => ?_) (rfl)
                    · cases h6
                    · repeat refine hP _ _ _ _ ?_
                      exact And.intro rfl (hT cs6 _ (((hsc.tr hsA).tr hf5.sc).tr hs6) (hf.trans (ff_s' hg (hfs.trans (fs_s hct (hyes.trans (if_pos ha)))))) hr6)
                  · repeat refine hP _ _ _ _ ?_
                    refine b_ifeq (fun h6 => ?_) (fun h6 => ?_) (rfl)
                    · iterate 2 refine hP _ _ _ _ ?_
                      refine x_p4 (P := P) (iht cs6 (hf5.tr hf6) hz6 (hfs.trans (fs_n hct (by rw [hyes]; unfold rOf; rw [ha]; rfl))) (some (.int (nI (mkB c))))) ?_ rfl ?_ <;> try (first | rfl | (rw [← Nat.add_assoc, nI_succ]; rfl))
                    · cases h6
            repeat refine hP _ _ _ _ ?_
            refine c_start hE3 hk5 hk2 ?_
            refine hP _ _ _ _ ?_
            refine x_p4 (P := P) (sets 0 (by omega) (sA cs2 18 A) (frS.rf _) hz3 hcc x5) ?_ rfl ?_ <;> try (first | rfl | (rw [nI_succ]; rfl))
          · have hnone : fisH cb i w h fr k g = none := by
              rw [hcc, List.findSome?_eq_none_iff]
              intro c hcm
              have hf9 := few_ok hk5 hk2 (by omega) hm hv hfew hcm
              cases hca : c.all good with
              | false => rfl
              | true =>
                rw [hca, Bool.true_and, beq_eq_false_iff_ne] at hf9
                show fsL cb i w h fr g k (c.map (fr + ·)) = none
                unfold fsL
                rw [unL_map, if_neg hf9]
            refine hP _ _ _ _ ?_
            exact next (sA cs2 18 A) (hsc.tr hsA) hz3 hnone _ _ _
        · have ihf := ihf hi9
          have hgi : good i = decide (2 ≤ pcN (plB cb n w h (fr + i) g n)) := by rw [← hgood]
          have h512 := plB_9 cb w h (fr + i) g g2
          have hp9 : pcN (plB cb n w h (fr + i) g n) ≤ 9 := pcA_le _ 9
          repeat refine hP _ _ _ _ ?_
          refine c_places hG3 hP3 (show fr + i < 3 * n by omega) hg (by rw [nI_add]) rfl ?_
          repeat refine hP _ _ _ _ ?_
          refine c_bitCount h512 rfl ?_
          repeat refine hP _ _ _ _ ?_
          refine b_lt (pcN (plB cb n w h (fr + i) g n)) (2) (fun ho => ?_) (fun ho => ?_) (rfl) (oi2) (by omega) (by omega)
          · rw [decide_eq_false (by omega)] at hgi
            repeat refine hP _ _ _ _ ?_
            refine And.intro (vp_in_nI hi9 (by omega)) ?_
            rw [upv (f := (sA cs2 18 A).2 18) (by omega)]
            iterate 2 refine hP _ _ _ _ ?_
            refine x_p4 (P := P) (ihf (upd A i (Int32.ofInt 0)) (fun j hj => by rcases Nat.lt_or_eq_of_le (Nat.le_of_lt_succ hj) with h9 | h9; (rw [pk_un (by omega)]; exact hA j h9); (subst h9; rw [pk_us, hgi]; rfl)) (some (.int (nI (plB cb n w h (fr + i) g n)))) x5) ?_ rfl ?_ <;> try (first | rfl | (rw [nI_succ]; rfl))
          · rw [decide_eq_true (by omega)] at hgi
            repeat refine hP _ _ _ _ ?_
            refine And.intro (vp_in_nI hi9 (by omega)) ?_
            rw [upv (f := (sA cs2 18 A).2 18) (by omega)]
            iterate 2 refine hP _ _ _ _ ?_
            refine x_p4 (P := P) (ihf (upd A i (nI (plB cb n w h (fr + i) g n))) (fun j hj => by rcases Nat.lt_or_eq_of_le (Nat.le_of_lt_succ hj) with h9 | h9; (rw [pk_un (by omega)]; exact hA j h9); (subst h9; rw [pk_us, hgi]; rfl)) (some (.int (nI (plB cb n w h (fr + i) g n)))) x5) ?_ rfl ?_ <;> try (first | rfl | (rw [nI_succ]; rfl))
      iterate 2 refine hP _ _ _ _ ?_
      refine x_p4 (P := P) (fill 0 (by omega) (cs2.2 18) (fun j hj => absurd hj (Nat.not_lt_zero j)) x4 x5) ?_ rfl ?_
      · rfl
      · rfl
  iterate 2 refine hP _ _ _ _ ?_
  refine x_p4 (P := P) (loop 0 (by omega) cs (scC.rf cs) hZ rfl none none none) ?_ rfl ?_ <;> try (first | rfl | (rw [nI_succ]; rfl))
end K6
