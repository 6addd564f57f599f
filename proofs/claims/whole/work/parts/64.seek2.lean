/-! ===== the class: confined, pointing, claiming ===== -/
theorem ff_no {R : Type} {ev : Nat → Option R} : ∀ {j i : Nat}, ff ev j i = none → ∀ k, i ≤ k → k < i + j → ev k = none
  | 0, i, _, k, h1, h2 => by omega
  | j + 1, i, h, k, h1, h2 => by
    cases he : ev i with
    | some r => rw [ff_s he] at h; cases h
    | none =>
      rw [ff_n he] at h
      by_cases hk : k = i
      · rw [hk]; exact he
      · exact ff_no h k (by omega) (by omega)
theorem inN_kd {n w h kd q c : Nat} (k : KD n w h) (hkd : kd < 3) (hq1 : kd * n ≤ q) (hq2 : q < kd * n + n) (hc : c < n * n) : inN n w h q c = (hoN n w h c kd == q) := by
  obtain ⟨g1, g2, g3, g4, g5, g6, g7, g8⟩ := k.le
  have hqn : q < 3 * n := by
    have : (kd + 1) * n ≤ 3 * n := Nat.mul_le_mul_right n (by omega)
    rw [Nat.succ_mul] at this
    omega
  have hqd : q / n = kd := by
    rw [Nat.div_eq_iff (by omega)]
    omega
  have hno : ∀ e, e < 3 → e ≠ kd → (hoN n w h c e == q) = false := fun e he hne => beq_eq_false_iff_ne.mpr fun e9 => by
    have := (geo k hc he).1
    rw [e9, hqd] at this
    exact hne this.symm
  rw [inN_ho k hqn hc]
  rcases (show kd = 0 ∨ kd = 1 ∨ kd = 2 by omega) with rfl | rfl | rfl
  · rw [hno 1 (by omega) (by omega), hno 2 (by omega) (by omega), Bool.or_false, Bool.or_false]
  · rw [hno 0 (by omega) (by omega), hno 2 (by omega) (by omega), Bool.false_or, Bool.or_false]
  · rw [hno 0 (by omega) (by omega), hno 1 (by omega) (by omega), Bool.false_or, Bool.false_or]
theorem ho_rng {n w h c e : Nat} (k : KD n w h) (hc : c < n * n) (he : e < 3) : e * n ≤ hoN n w h c e ∧ hoN n w h c e < e * n + n := by
  obtain ⟨g1, g2, g3, g4, g5, g6, g7, g8⟩ := k.le
  have h1 := (geo k hc he).1
  rw [Nat.div_eq_iff (by omega)] at h1
  omega
section SH
variable {cb : Nat → Nat} {n w h g s kd q : Nat}
/-- the places of s in g lie in q -/
theorem comB_t (k : KD n w h) (hg : g < 3 * n) (hkd : kd < 3) (hq1 : kd * n ≤ q) (hq2 : q < kd * n + n) : comB cb n w h g s q n = true ↔ ∀ i, i < n → (plB cb n w h g s n).testBit i = true → hoN n w h (atN n w h g i) kd = q := by
  unfold comB
  rw [List.all_eq_true]
  constructor
  · intro hh i hi hb
    have := hh i (List.mem_range.mpr hi)
    rw [plB_bit, Bool.and_eq_true] at hb
    rw [hb.2, inN_kd k hkd hq1 hq2 (atN_lt k hg hi)] at this
    simpa using this
  · intro hh i hi
    have hi := List.mem_range.mp hi
    have := hh i hi
    rw [plB_bit, decide_eq_true hi, Bool.true_and] at this
    rw [inN_kd k hkd hq1 hq2 (atN_lt k hg hi)]
    cases hb : (cb (atN n w h g i)).testBit s with
    | false => rfl
    | true => rw [this hb]; simp
theorem com_sh (k : KD n w h) (hg : g < 3 * n) (hkd : kd < 3) (hne : plB cb n w h g s n ≠ 0) : comS cb n w h g s kd = if comB cb n w h g s (hoN n w h (atN n w h g (lowN (plB cb n w h g s n))) kd) n then some (hoN n w h (atN n w h g (lowN (plB cb n w h g s n))) kd) else none := by
  obtain ⟨g1, g2, g3, g4, g5, g6, g7, g8⟩ := k.le
  obtain ⟨l1, l2⟩ := plB_low k hne
  have l3 := (lowN_ok _ (plB_9 cb w h g s g2) hne).2.1
  have hat := atN_lt k hg l1
  obtain ⟨r1, r2⟩ := ho_rng k hat hkd
  cases hh : comS cb n w h g s kd with
  | none =>
    have := ff_no hh _ r1 r2
    by_cases hb : comB cb n w h g s (hoN n w h (atN n w h g (lowN (plB cb n w h g s n))) kd) n = true
    · rw [if_pos hb] at this; cases this
    · rw [if_neg hb]
  | some q =>
    obtain ⟨q', q1, q2, he⟩ := ff_lt hh
    by_cases hb : comB cb n w h g s q' n = true
    · rw [if_pos hb] at he
      cases he
      have hq := (comB_t k hg hkd q1 q2).mp hb _ l1 l3
      rw [hq, if_pos hb]
    · rw [if_neg hb] at he; cases he
theorem two_bits {b : Nat} (hb : b < 512) (h2 : 2 ≤ pcN b) : ∃ i j, i ≠ j ∧ b.testBit i = true ∧ b.testBit j = true := by
  obtain ⟨a1, a2, a3, a4⟩ := nth_ok b hb 0 (by omega)
  obtain ⟨b1, b2, b3, b4⟩ := nth_ok b hb 1 (by omega)
  refine ⟨_, _, fun e => ?_, a1, b1⟩
  rw [e, b2] at a2
  cases a2
theorem com_01 (k : KD n w h) (hg : g < 3 * n) (h2 : 2 ≤ pcN (plB cb n w h g s n)) (h0 : comS cb n w h g s 0 = some q) : comS cb n w h g s 1 = none := by
  obtain ⟨g1, g2, g3, g4, g5, g6, g7, g8⟩ := k.le
  cases h1 : comS cb n w h g s 1 with
  | none => rfl
  | some q1 =>
    exfalso
    obtain ⟨p, pa, pb, pe⟩ := ff_lt h0
    obtain ⟨p', pa', pb', pe'⟩ := ff_lt h1
    by_cases hb : comB cb n w h g s p n = true
    · by_cases hb' : comB cb n w h g s p' n = true
      · obtain ⟨i, j, hij, bi, bj⟩ := two_bits (plB_9 cb w h g s g2) h2
        have li := tb_lt bi (plB_lt cb n w h g s n)
        have lj := tb_lt bj (plB_lt cb n w h g s n)
        have m1 := (comB_t k hg (by omega) pa pb).mp hb
        have m2 := (comB_t k hg (by omega) pa' pb').mp hb'
        have e0 : atN n w h g i / n = atN n w h g j / n := (m1 i li bi).trans (m1 j lj bj).symm
        have e1 : n + atN n w h g i % n = n + atN n w h g j % n := (m2 i li bi).trans (m2 j lj bj).symm
        have e2 : atN n w h g i = atN n w h g j := by
          rw [← Nat.div_add_mod (atN n w h g i) n, ← Nat.div_add_mod (atN n w h g j) n, e0, show atN n w h g i % n = atN n w h g j % n by omega]
        have gi := (gat k hg li).2.1
        have gj := (gat k hg lj).2.1
        rw [e2, gj] at gi
        exact hij gi.symm
      · rw [if_neg hb'] at pe'; cases pe'
    · rw [if_neg hb] at pe; cases pe
end SH
def cfE (cb : Nat → Nat) (n w h g s kd : Nat) : Option rS := if pcN (plB cb n w h g s n) < 2 then none else match comS cb n w h g s kd with
  | some q => crE cb n w h g q s
  | none => none
theorem po_cf {cb : Nat → Nat} {n w h g s : Nat} (k : KD n w h) (hg : g < 3 * n) : poE cb n w h g s = match cfE cb n w h g s 0 with
    | some r => some r
    | none => cfE cb n w h g s 1 := by
  unfold poE cfE comP
  by_cases h2 : pcN (plB cb n w h g s n) < 2
  · rw [if_pos h2, if_pos h2, if_pos h2]
  · rw [if_neg h2, if_neg h2, if_neg h2]
    cases h0 : comS cb n w h g s 0 with
    | none => rfl
    | some q =>
      rw [com_01 k hg (by omega) h0]
      show crE cb n w h g q s = match crE cb n w h g q s with
        | some r => some r
        | none => none
      cases crE cb n w h g q s <;> rfl
theorem crG_no {cb : Nat → Nat} {n w h g q s k : Nat} (hi : inN n w h g (atN n w h q k) = true) : crG cb n w h g q s (k + 1) = crG cb n w h g q s k := by
  funext e
  unfold crG
  rw [any_s]
  by_cases he : atN n w h q k = e
  · subst he; rw [hi]; simp
  · rw [beq_eq_false_iff_ne.mpr he, Bool.or_false]
theorem crG_yes {cb : Nat → Nat} {n w h g q s k : Nat} (hi : inN n w h g (atN n w h q k) = false) : (fun e => if e = atN n w h q k then crG cb n w h g q s k (atN n w h q k) ||| (cb (atN n w h q k) &&& 2 ^ s) else crG cb n w h g q s k e) = crG cb n w h g q s (k + 1) := by
  funext e
  by_cases he : e = atN n w h q k
  · subst he
    rw [if_pos rfl]
    unfold crG
    rw [any_s, beq_self_eq_true, Bool.or_true, hi]
    simp only [Bool.not_false, Bool.and_true, if_true]
    split
    · exact Nat.or_self _
    · exact Nat.zero_or _
  · rw [if_neg he]
    unfold crG
    rw [any_s, beq_eq_false_iff_ne.mpr (fun e9 => he e9.symm), Bool.or_false]
section K2
variable {sc : Nat × (Nat → Int32)} {cs : x_S} {tl : List x_C} {bb : Nat × Nat} {n w h d : Nat} {Q : x_O → x_H → Prop} {cb : Nat → Nat} {vb : Nat → Option Nat}
theorem c_sharedHouse (hB : bC cs n w h cb vb) {g s kd : Nat} (hg : g < 3 * n) (hkd : kd < 3) (hne : plB cb n w h g s n ≠ 0) {x : Int32} (hx : x = nI kd) (hT : ∀ q, comS cb n w h g s kd = some q → Q (.inl (some (.int (nI q)))) (w_C n cs tl bb)) (hF : comS cb n w h g s kd = none → Q (.inl (some (.int (-1)))) (w_C n cs tl bb)) : x_run sc x_MM x_EX (d + 2) k_X5_sharedHouse [.ref 1, .int (nI g), .int (nI (plB cb n w h g s n)), .int x] (w_C n cs tl bb) Q := by
  subst hx
  obtain ⟨hG, hC, hV, hP9, hE⟩ := hB
  have hk := hG.1
  obtain ⟨g1, g2, g3, g4, g5, g6, g7, g8⟩ := hk.le
  obtain ⟨l1, l2⟩ := plB_low hk hne
  have h512 := plB_9 cb w h g s g2
  have hat := atN_lt hk hg l1
  obtain ⟨r1, r2⟩ := ho_rng hk hat hkd
  have hho := (geo hk hat hkd).2.1
  have hcs := com_sh hk hg hkd hne
  have hct := comB_t (cb := cb) (s := s) hk hg hkd r1 r2
  generalize hq0 : hoN n w h (atN n w h g (lowN (plB cb n w h g s n))) kd = q0 at hcs hct r1 r2 hho
  refine x_in (M := m_X5_sharedHouse) rfl rfl (Nat.le_of_ble_eq_true rfl) ⟨rfl, rfl, rfl, rfl, trivial⟩ ?_
  intro P hP
  repeat refine hP _ _ _ _ ?_
  refine c_leastBit h512 hne rfl ?_
  repeat refine hP _ _ _ _ ?_
  refine c_cell hG hg l1 rfl rfl ?_
  repeat refine hP _ _ _ _ ?_
  refine c_house hG hat hkd rfl rfl ?_
  rw [hq0]
  have loop : ∀ i, i ≤ n → (∀ j, j < i → (plB cb n w h g s n).testBit j = true → hoN n w h (atN n w h g j) kd = q0) → P 25 [some (.ref 1), some (.int (nI g)), some (.int (nI (plB cb n w h g s n))), some (.int (nI kd)), some (.int (nI q0)), some (.int (nI i))] [] (w_C n cs tl bb) := by
    refine x_lp n (fun i hi ih hz => ?_)
    repeat refine hP _ _ _ _ ?_
    refine b_ge (i) (n) (fun hi9 => ?_) (fun hi9 => ?_) (rfl) (rfl) (by omega) (by omega)
    · have e9 : i = n := by omega
      subst e9
      rw [if_pos (hct.mpr hz)] at hcs
      repeat refine hP _ _ _ _ ?_
      exact hT q0 hcs
    · have ih := ih hi9
      repeat refine hP _ _ _ _ ?_
      refine b_ifeq (fun hb => ?_) (fun hb => ?_) (bit1 h512 (by omega))
      · iterate 2 refine hP _ _ _ _ ?_
        refine x_p4 (P := P) (ih (all_lt hz (fun h9 => by rw [hb] at h9; cases h9))) ?_ rfl ?_ <;> try (first | rfl | (rw [nI_succ]; rfl))
      · have hati := atN_lt hk hg hi9
        have hhi := (geo hk hati hkd).2.1
        repeat refine hP _ _ _ _ ?_
        refine c_cell hG hg hi9 rfl rfl ?_
        repeat refine hP _ _ _ _ ?_
        refine c_house hG hati hkd rfl rfl ?_
        repeat refine hP _ _ _ _ ?_
        refine b_eq (hoN n w h (atN n w h g i) kd) (q0) (fun he => ?_) (fun he => ?_) (rfl) (rfl) (by omega) (by omega)
        · iterate 2 refine hP _ _ _ _ ?_
          refine x_p4 (P := P) (ih (all_lt hz (fun _ => he))) ?_ rfl ?_ <;> try (first | rfl | (rw [nI_succ]; rfl))
        · rw [if_neg (fun h9 => he (hct.mp h9 i hi9 hb))] at hcs
          repeat refine hP _ _ _ _ ?_
          exact hF hcs
  iterate 3 refine hP _ _ _ _ ?_
  refine x_p4 (P := P) (loop 0 (by omega) (fun j hj => absurd hj (Nat.not_lt_zero j))) ?_ rfl ?_ <;> try (first | rfl | (rw [nI_succ]; rfl))
theorem c_confined (hB : bC cs n w h cb vb) (hZ : zC cs n) {g s kd : Nat} (hg : g < 3 * n) (hs : s < n) (hkd : kd < 3) {x : Int32} (hx : x = nI kd) (hT : ∀ cs' r, scC cs cs' → cfE cb n w h g s kd = some r → rsC cs' n r → Q (.inl (some (.int (bI true)))) (w_C n cs' tl bb)) (hF : ∀ cs', scC cs cs' → cfE cb n w h g s kd = none → zC cs' n → Q (.inl (some (.int (bI false)))) (w_C n cs' tl bb)) : x_run sc x_MM x_EX (d + 3) k_X5_confined [.ref 1, .int (nI g), .int (nI s), .int x] (w_C n cs tl bb) Q := by
  subst hx
  have hB0 := hB
  obtain ⟨hG, hC, hV, hP9, hE⟩ := hB
  have hk := hG.1
  obtain ⟨g1, g2, g3, g4, g5, g6, g7, g8⟩ := hk.le
  obtain ⟨z1, z2, z3, z4⟩ := hZ
  have h512 := plB_9 cb w h g s g2
  have hp9 : pcN (plB cb n w h g s n) ≤ 9 := pcA_le _ 9
  refine x_in (M := m_X5_confined) rfl rfl (Nat.le_of_ble_eq_true rfl) ⟨rfl, rfl, rfl, rfl, trivial⟩ ?_
  intro P hP
  repeat refine hP _ _ _ _ ?_
  refine c_places hG hP9 hg hs rfl rfl ?_
  repeat refine hP _ _ _ _ ?_
  refine c_bitCount h512 rfl ?_
  repeat refine hP _ _ _ _ ?_
  refine b_ge (pcN (plB cb n w h g s n)) (2) (fun h2 => ?_) (fun h2 => ?_) (rfl) (oi2) (by omega) (by omega)
  · have hne : plB cb n w h g s n ≠ 0 := fun e => by rw [e, pcN_0] at h2; omega
    have hcf : cfE cb n w h g s kd = match comS cb n w h g s kd with
      | some q => crE cb n w h g q s
      | none => none := by unfold cfE; rw [if_neg (by omega)]
    repeat refine hP _ _ _ _ ?_
    refine c_sharedHouse hB0 hg hkd hne rfl (fun q hq => ?_) (fun hq => ?_)
    · rw [hq] at hcf
      have hcf : cfE cb n w h g s kd = crE cb n w h g q s := hcf
      have hqr := comS_lt hq
      have hq3 : q < 3 * n := by
        have : (kd + 1) * n ≤ 3 * n := Nat.mul_le_mul_right n (by omega)
        rw [Nat.succ_mul] at this
        omega
      repeat refine hP _ _ _ _ ?_
      refine And.intro (fun _ => ?_) (fun h9 => absurd (Decidable.of_not_not h9) (show ¬ nI q = -1 from nI_m1 (by omega)))
      have loop : ∀ i, i ≤ n → ∀ cs2 : x_S, frS cs cs2 → oC cs2 n (crG cb n w h g q s i) → ∀ x7, P 43 [some (.ref 1), some (.int (nI g)), some (.int (nI s)), some (.int (nI kd)), some (.int (nI (plB cb n w h g s n))), some (.int (nI q)), some (.int (nI i)), x7] [] (w_C n cs2 tl bb) := by
        refine x_lp n (fun i hi ih cs2 hf ho x7 => ?_)
        have hB2 := hf.sc.b hB0
        obtain ⟨hG2, hC2, hV2, hP2, hE2⟩ := hf.sc.b hB0
        repeat refine hP _ _ _ _ ?_
        refine b_ge (i) (n) (fun hi9 => ?_) (fun hi9 => ?_) (rfl) (rfl) (by omega) (by omega)
        · have e9 : i = n := by omega
          subst e9
          repeat refine hP _ _ _ _ ?_
          refine c_takesSome hk ho (fun e he => ?_) ?_
          · unfold crG
            cases hh : ((List.range i).any fun t => atN i w h q t == e) with
            | false => rfl
            | true => exact absurd (an_lt hk hq3 (Nat.le_refl _) hh) (by omega)
          repeat refine hP _ _ _ _ ?_
          refine b_ifne (fun ha => ?_) (fun ha => ?_) (rfl)
          · repeat refine hP _ _ _ _ ?_
            refine c_becauseOf hB2 (hf.r z4) hg (pb := (plB cb i w h g s i).testBit) rfl (fun i9 hi9 => bit1 h512 (by omega)) (fun cs4 hf4 hr4 => ?_)
            repeat refine hP _ _ _ _ ?_
            refine And.intro rfl (hT cs4 (none, crG cb i w h g q s i, crR cb i w h g s i) (hf.sc.tr hf4.sc) (by rw [hcf]; unfold crE; rw [if_pos ha]) ⟨⟨(hf4.1 1 (by decide)).trans ((hf.1 1 (by decide)).trans z1), (hf4.1 2 (by decide)).trans ((hf.1 2 (by decide)).trans z2)⟩, hf4.o ho, rC_congr hr4 (fun e _ => ?_)⟩)
            show boR (fun _ => false) (plB cb i w h g s i).testBit i w h g i e = crR cb i w h g s i e
            unfold boR crR
            rw [Bool.false_or, Bool.eq_iff_iff, List.any_eq_true, Bool.and_eq_true, List.any_eq_true]
            constructor
            · rintro ⟨t, ht, he⟩
              rw [Bool.and_eq_true, plB_bit, Bool.and_eq_true] at he
              exact ⟨⟨t, ht, he.1⟩, by rw [← beq_iff_eq.mp he.1]; exact he.2.2⟩
            · rintro ⟨⟨t, ht, he⟩, hb⟩
              refine ⟨t, ht, ?_⟩
              rw [Bool.and_eq_true, plB_bit, Bool.and_eq_true, decide_eq_true_eq]
              exact ⟨he, List.mem_range.mp ht, by rw [beq_iff_eq.mp he]; exact hb⟩
          · repeat refine hP _ _ _ _ ?_
            exact And.intro rfl (hF cs2 hf.sc (by rw [hcf]; unfold crE; rw [ha]; rfl) ⟨(hf.1 1 (by decide)).trans z1, (hf.1 2 (by decide)).trans z2, oC_0 g7 ho ha, hf.r z4⟩)
        · have ih := ih hi9
          have hat := atN_lt hk hq3 hi9
          repeat refine hP _ _ _ _ ?_
          refine c_cell hG2 hq3 hi9 rfl rfl ?_
          repeat refine hP _ _ _ _ ?_
          refine c_isIn hG2 hat hg rfl rfl ?_
          repeat refine hP _ _ _ _ ?_
          refine b_ifne (fun hin => ?_) (fun hin => ?_) (rfl)
          · rw [crG_no hin] at ih
            iterate 2 refine hP _ _ _ _ ?_
            refine x_p4 (P := P) (ih cs2 hf ho (some (.int (nI (atN n w h q i))))) ?_ rfl ?_ <;> try (first | rfl | (rw [nI_succ]; rfl))
          · repeat refine hP _ _ _ _ ?_
            refine And.intro (vp_in_nI hat (by omega)) ?_
            rw [ldv (f := cs2.2 3) (hC2 _ hat).1 (by omega)]
            repeat refine hP _ _ _ _ ?_
            refine c_str ho hk hat (m := cb (atN n w h q i) &&& 2 ^ s) (and_lt9 (hC.lt g2 hat)) rfl (by rw [sh1 (show s < 10 by omega), nx_and]) (fun cs4 hf4 ho4 => ?_)
            rw [crG_yes hin] at ho4
            iterate 2 refine hP _ _ _ _ ?_
            refine x_p4 (P := P) (ih cs4 (hf.tr hf4) ho4 (some (.int (nI (atN n w h q i))))) ?_ rfl ?_ <;> try (first | rfl | (rw [nI_succ]; rfl))
      iterate 2 refine hP _ _ _ _ ?_
      refine x_p4 (P := P) (loop 0 (by omega) cs (frS.rf cs) z3 none) ?_ rfl ?_ <;> try (first | rfl | (rw [nI_succ]; rfl))
    · rw [hq] at hcf
      repeat refine hP _ _ _ _ ?_
      refine And.intro (fun h9 => absurd rfl (show ¬ (-1 : Int32) = -1 from h9)) (fun _ => ?_)
      repeat refine hP _ _ _ _ ?_
      exact And.intro rfl (hF cs (scC.rf cs) hcf ⟨z1, z2, z3, z4⟩)
  · repeat refine hP _ _ _ _ ?_
    exact And.intro rfl (hF cs (scC.rf cs) (by unfold cfE; rw [if_pos h2]) ⟨z1, z2, z3, z4⟩)
theorem c_pointing (hB : bC cs n w h cb vb) (hZ : zC cs n) (hT : ∀ cs' r, scC cs cs' → poS cb n w h = some r → rsC cs' n r → Q (.inl (some (.int (bI true)))) (w_C n cs' tl bb)) (hF : ∀ cs', scC cs cs' → poS cb n w h = none → zC cs' n → Q (.inl (some (.int (bI false)))) (w_C n cs' tl bb)) : x_run sc x_MM x_EX (d + 4) k_X5_pointing [.ref 1] (w_C n cs tl bb) Q := by
  have hk := hB.1.1
  obtain ⟨g1, g2, g3, g4, g5, g6, g7, g8⟩ := hk.le
  refine x_in (M := m_X5_pointing) rfl rfl (Nat.le_of_ble_eq_true rfl) ⟨rfl, trivial⟩ ?_
  intro P hP
  have loop : ∀ a, a ≤ n → ∀ cs2 : x_S, scC cs cs2 → zC cs2 n → poS cb n w h = ff (fun g => ff (poE cb n w h g) n 0) (n - a) (2 * n + a) → ∀ x2, P 7 [some (.ref 1), some (.int (nI (2 * n + a))), x2] [] (w_C n cs2 tl bb) := by
    refine x_lp n (fun a ha ih cs2 hsc hz hf x2 => ?_)
    repeat refine hP _ _ _ _ ?_
    refine b_ge (2 * n + a) (3 * n) (fun ha9 => ?_) (fun ha9 => ?_) (rfl) (by rw [oi3, pk_mul]) (by omega) (by omega)
    · repeat refine hP _ _ _ _ ?_
      refine And.intro rfl (hF cs2 hsc (hf.trans ?_) hz)
      rw [show n - a = 0 by omega]
      rfl
    · have ha9 : a < n := by omega
      have ih := ih ha9
      have hg : 2 * n + a < 3 * n := by omega
      have lps : ∀ s, s ≤ n → ∀ cs3 : x_S, scC cs cs3 → zC cs3 n → ff (poE cb n w h (2 * n + a)) n 0 = ff (poE cb n w h (2 * n + a)) (n - s) s → P 19 [some (.ref 1), some (.int (nI (2 * n + a))), some (.int (nI s))] [] (w_C n cs3 tl bb) := by
        refine x_lp n (fun s hs ihs cs3 hsc3 hz3 hfs => ?_)
        repeat refine hP _ _ _ _ ?_
        refine b_ge (s) (n) (fun hs9 => ?_) (fun hs9 => ?_) (rfl) (rfl) (by omega) (by omega)
        · have hfn : ff (poE cb n w h (2 * n + a)) n 0 = none := hfs.trans (ff_e hs9)
          have hf2 : poS cb n w h = ff (fun g => ff (poE cb n w h g) n 0) (n - (a + 1)) (2 * n + (a + 1)) := by
            rw [hf, show n - a = (n - (a + 1)) + 1 by omega, ff_n (ev := fun g => ff (poE cb n w h g) n 0) hfn]; rfl
          iterate 2 refine hP _ _ _ _ ?_
          refine x_p4 (P := P) (ih cs3 hsc3 hz3 hf2 (some (.int (nI s)))) ?_ rfl ?_ <;> try (first | rfl | (rw [← Nat.add_assoc, nI_succ]; rfl))
        · have ihs := ihs hs9
          have hpc := po_cf (cb := cb) (s := s) hk hg
          have fin : ∀ cs5 r, scC cs cs5 → poE cb n w h (2 * n + a) s = some r → rsC cs5 n r → P 47 [some (.ref 1), some (.int (nI (2 * n + a))), some (.int (nI s))] [] (w_C n cs5 tl bb) := by
            intro cs5 r h5 he hr
            have hfind := hfs.trans (ff_s' hs9 he)
            have hfind2 := hf.trans ((congrArg (fun q => ff (fun g => ff (poE cb n w h g) n 0) q (2 * n + a)) (show n - a = (n - (a + 1)) + 1 by omega)).trans (ff_s (ev := fun g => ff (poE cb n w h g) n 0) hfind))
            repeat refine hP _ _ _ _ ?_
            exact And.intro rfl (hT cs5 r h5 hfind2 hr)
          repeat refine hP _ _ _ _ ?_
          refine c_confined (hsc3.b hB) hz3 hg hs9 (kd := 0) (by omega) rfl (fun cs4 r h4 he hr => ?_) (fun cs4 h4 he hz4 => ?_)
          · rw [he] at hpc
            repeat refine hP _ _ _ _ ?_
            refine b_ifne (fun h1 => ?_) (fun h1 => ?_) (rfl)
            · exact fin cs4 r (hsc3.tr h4) hpc hr
            · cases h1
          · rw [he] at hpc
            repeat refine hP _ _ _ _ ?_
            refine b_ifne (fun h1 => ?_) (fun h1 => ?_) (rfl)
            · cases h1
            · repeat refine hP _ _ _ _ ?_
              refine c_confined ((hsc3.tr h4).b hB) hz4 hg hs9 (kd := 1) (by omega) rfl (fun cs5 r h5 he5 hr => ?_) (fun cs5 h5 he5 hz5 => ?_)
              · repeat refine hP _ _ _ _ ?_
                refine b_ifeq (fun h6 => ?_) (fun h6 => ?_) (rfl)
                · cases h6
                · exact fin cs5 r ((hsc3.tr h4).tr h5) (hpc.trans he5) hr
              · repeat refine hP _ _ _ _ ?_
                refine b_ifeq (fun h6 => ?_) (fun h6 => ?_) (rfl)
                · iterate 2 refine hP _ _ _ _ ?_
                  refine x_p4 (P := P) (ihs cs5 ((hsc3.tr h4).tr h5) hz5 (hfs.trans (ff_n' hs9 (hpc.trans he5)))) ?_ rfl ?_ <;> try (first | rfl | (rw [nI_succ]; rfl))
                · cases h6
      iterate 2 refine hP _ _ _ _ ?_
      refine x_p4 (P := P) (lps 0 (by omega) cs2 hsc hz rfl) ?_ rfl ?_ <;> try (first | rfl | (rw [nI_succ]; rfl))
  iterate 5 refine hP _ _ _ _ ?_
  refine x_p4 (P := P) (loop 0 (by omega) cs (scC.rf cs) hZ rfl none) ?_ rfl ?_
  · rw [oi2, pk_mul]; rfl
  · rfl
theorem c_claiming (hB : bC cs n w h cb vb) (hZ : zC cs n) (hT : ∀ cs' r, scC cs cs' → claS cb n w h = some r → rsC cs' n r → Q (.inl (some (.int (bI true)))) (w_C n cs' tl bb)) (hF : ∀ cs', scC cs cs' → claS cb n w h = none → zC cs' n → Q (.inl (some (.int (bI false)))) (w_C n cs' tl bb)) : x_run sc x_MM x_EX (d + 4) k_X5_claiming [.ref 1] (w_C n cs tl bb) Q := by
  have hk := hB.1.1
  obtain ⟨g1, g2, g3, g4, g5, g6, g7, g8⟩ := hk.le
  refine x_in (M := m_X5_claiming) rfl rfl (Nat.le_of_ble_eq_true rfl) ⟨rfl, trivial⟩ ?_
  intro P hP
  have loop : ∀ g, g ≤ 2 * n → ∀ cs2 : x_S, scC cs cs2 → zC cs2 n → claS cb n w h = ff (fun g => ff (claE cb n w h g) n 0) (2 * n - g) g → ∀ x2, P 2 [some (.ref 1), some (.int (nI g)), x2] [] (w_C n cs2 tl bb) := by
    refine x_lp (2 * n) (fun g hg2 ih cs2 hsc hz hf x2 => ?_)
    repeat refine hP _ _ _ _ ?_
    refine b_ge (g) (2 * n) (fun hg9 => ?_) (fun hg9 => ?_) (rfl) (by rw [oi2, pk_mul]) (by omega) (by omega)
    · repeat refine hP _ _ _ _ ?_
      exact And.intro rfl (hF cs2 hsc (hf.trans (ff_e hg9)) hz)
    · have ih := ih hg9
      have hg : g < 3 * n := by omega
      have lps : ∀ s, s ≤ n → ∀ cs3 : x_S, scC cs cs3 → zC cs3 n → ff (claE cb n w h g) n 0 = ff (claE cb n w h g) (n - s) s → P 14 [some (.ref 1), some (.int (nI g)), some (.int (nI s))] [] (w_C n cs3 tl bb) := by
        refine x_lp n (fun s hs ihs cs3 hsc3 hz3 hfs => ?_)
        repeat refine hP _ _ _ _ ?_
        refine b_ge (s) (n) (fun hs9 => ?_) (fun hs9 => ?_) (rfl) (rfl) (by omega) (by omega)
        · iterate 2 refine hP _ _ _ _ ?_
          refine x_p4 (P := P) (ih cs3 hsc3 hz3 (hf.trans (ff_n' hg9 (hfs.trans (ff_e hs9)))) (some (.int (nI s)))) ?_ rfl ?_ <;> try (first | rfl | (rw [nI_succ]; rfl))
        · have ihs := ihs hs9
          repeat refine hP _ _ _ _ ?_
          refine c_confined (hsc3.b hB) hz3 hg hs9 (kd := 2) (by omega) rfl (fun cs4 r h4 he hr => ?_) (fun cs4 h4 he hz4 => ?_)
          · repeat refine hP _ _ _ _ ?_
            refine b_ifeq (fun h1 => ?_) (fun h1 => ?_) (rfl)
            · cases h1
            · repeat refine hP _ _ _ _ ?_
              exact And.intro rfl (hT cs4 r (hsc3.tr h4) (hf.trans (ff_s' hg9 (hfs.trans (ff_s' hs9 he)))) hr)
          · repeat refine hP _ _ _ _ ?_
            refine b_ifeq (fun h1 => ?_) (fun h1 => ?_) (rfl)
            · iterate 2 refine hP _ _ _ _ ?_
              refine x_p4 (P := P) (ihs cs4 (hsc3.tr h4) hz4 (hfs.trans (ff_n' hs9 he))) ?_ rfl ?_ <;> try (first | rfl | (rw [nI_succ]; rfl))
            · cases h1
      iterate 2 refine hP _ _ _ _ ?_
      refine x_p4 (P := P) (lps 0 (by omega) cs2 hsc hz rfl) ?_ rfl ?_ <;> try (first | rfl | (rw [nI_succ]; rfl))
  iterate 2 refine hP _ _ _ _ ?_
  refine x_p4 (P := P) (loop 0 (by omega) cs (scC.rf cs) hZ rfl none) ?_ rfl ?_ <;> try (first | rfl | (rw [nI_succ]; rfl))
end K2
