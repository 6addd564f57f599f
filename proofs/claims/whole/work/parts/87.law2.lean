/-! ===== the law ===== -/
theorem lg_cmp_r (x : Int64) : lg_cmp x x = 0 := by
  unfold lg_cmp
  simp
theorem and15 (x : Int32) : ∃ k, k < 16 ∧ x &&& (Int8.ofInt 15).toInt32 = nI k := by
  have e : (Int8.ofInt 15).toInt32 = nI 15 := by decide
  refine ⟨x.toBitVec.toNat &&& 15, Nat.lt_of_le_of_lt Nat.and_le_right (by decide), ?_⟩
  rw [e]
  have hx : x = nI x.toBitVec.toNat := by
    apply Int32.toBitVec_inj.1
    show x.toBitVec = BitVec.ofNat 32 x.toBitVec.toNat
    rw [BitVec.ofNat_toNat]
    simp
  rw [hx, nx_and]
  congr 1
  rw [← hx]
theorem b_gt3 {A B : Prop} {x y : Int32} (i len : Nat) (hx : x = nI i) (hy : y = nI len - Int32.ofInt 3) (hi : i < 2 ^ 31) (hl : len < 2 ^ 31) (f : len < i + 3 → A) (g : i + 3 ≤ len → B) : (x_ic .gt x y → A) ∧ (¬ x_ic .gt x y → B) := by
  subst hx; subst hy
  rcases Nat.lt_or_ge len 3 with h3 | h3
  · have hneg : nI len - Int32.ofInt 3 < nI i := by
      rw [Int32.lt_iff_toInt_lt, nI_toInt hi]
      rcases (show len = 0 ∨ len = 1 ∨ len = 2 by omega) with rfl | rfl | rfl
      · have : (nI 0 - Int32.ofInt 3).toInt = -3 := by decide
        omega
      · have : (nI 1 - Int32.ofInt 3).toInt = -2 := by decide
        omega
      · have : (nI 2 - Int32.ofInt 3).toInt = -1 := by decide
        omega
    exact ⟨fun _ => f (by omega), fun h => absurd hneg h⟩
  · rw [oi3, pk_sub h3]
    exact b_gt i (len - 3) (fun h => f (by omega)) (fun h => g (by omega)) rfl rfl hi (by omega)
theorem lok9 {n : Nat} {cs ms : x_S} {q : Nat → Int64} {bb : Nat × Nat} {i : Int32} {x5 x6 : Option Value} (h : x_lok 42 [x5, x6]) : x_lok (w_L n cs ms q bb).1.length [some (.ref x_SP), some (.ref 0), some (.ref 26), some (.ref 41), some (.int i), x5, x6] := ⟨Or.inr rfl, Or.inl (Nat.lt_of_sub_eq_succ rfl), Or.inl (Nat.lt_of_sub_eq_succ rfl), Or.inl (Nat.lt_of_sub_eq_succ rfl), trivial, h⟩
section LW
variable {sc : Nat × (Nat → Int32)} {d : Nat} {Q : x_O → x_H → Prop}
set_option maxHeartbeats 8000000 in
set_option maxRecDepth 100000 in
theorem l_loop {n w h : Nat} (hsc : sc.1 ≤ 1537) (hQ : ∀ X, Q (.inl (some (.int (Int32.ofInt 1)))) X) {P : Nat → x_L → List Value → x_H → Prop} (hP : ∀ pc L st X, x_st sc m_L_law (x_run sc x_MM x_EX (d + 8)) Q P pc L st X → P pc L st X) : ∀ j, j ≤ 512 → ∀ (cs ms : x_S) (q : Nat → Int64) (s : pS) (bb : Nat × Nat), repC cs n w h s → repM ms n w h s → inv n w h s → 2 * (513 - j) ≤ bb.1 → 12 * (513 - j) ≤ bb.2 → ∀ x5 x6, x_lok 42 [x5, x6] → P 33 [some (.ref x_SP), some (.ref 0), some (.ref 26), some (.ref 41), some (.int (nI (1 + 3 * j))), x5, x6] [] (w_L n cs ms q bb) := by
  refine x_lp 512 (fun j hj ih cs ms q s bb hR hM hI hb1 hb2 x5 x6 h56 => ?_)
  repeat refine hP _ _ _ _ ?_
  refine b_gt3 (1 + 3 * j) sc.1 rfl rfl (by omega) (by omega) (fun h9 => ?_) (fun h9 => ?_)
  · skip
    repeat refine hP _ _ _ _ ?_
    exact And.intro rfl (hQ _)
  · have hj5 : j < 512 := by omega
    have ih := ih hj5
    have i0 : vp_in (nI (1 + 3 * j)) sc.1 := vp_in_nI (by omega) (by omega)
    have e1 : nI (1 + 3 * j) + Int32.ofInt 1 = nI (1 + 3 * j + 1) := by rw [oi1, nI_add]
    have e2 : nI (1 + 3 * j) + Int32.ofInt 2 = nI (1 + 3 * j + 2) := by rw [oi2, nI_add]
    have i1 : vp_in (nI (1 + 3 * j) + Int32.ofInt 1) sc.1 := vpx e1 (by omega) (by omega)
    have i2 : vp_in (nI (1 + 3 * j) + Int32.ofInt 2) sc.1 := vpx e2 (by omega) (by omega)
    have nxt : ∀ (cs2 ms2 : x_S) (q2 : Nat → Int64) (s2 : pS) (bb2 : Nat × Nat), repC cs2 n w h s2 → repM ms2 n w h s2 → inv n w h s2 → bb.1 ≤ bb2.1 + 2 → bb.2 ≤ bb2.2 + 12 → ∀ x5 x6, x_lok 42 [x5, x6] → P 734 [some (.ref x_SP), some (.ref 0), some (.ref 26), some (.ref 41), some (.int (nI (1 + 3 * j))), x5, x6] [] (w_L n cs2 ms2 q2 bb2) := by
      intro cs2 ms2 q2 s2 bb2 hR2 hM2 hI2 hb12 hb22 x5 x6 h56
      iterate 2 refine hP _ _ _ _ ?_
      refine x_p4 (P := P) (ih cs2 ms2 q2 s2 bb2 hR2 hM2 hI2 (by omega) (by omega) x5 x6 h56) ?_ rfl ?_
      · rw [show nI (1 + 3 * (j + 1)) = nI (1 + 3 * j) + Int32.ofInt 3 by rw [oi3, nI_add]; rfl]; rfl
      · rfl
    repeat refine hP _ _ _ _ ?_
    refine And.intro i0 ?_
    repeat refine hP _ _ _ _ ?_
    obtain ⟨k, hk, ek⟩ := and15 (sc.2 (nI (1 + 3 * j)).toNatClampNeg)
    have ekI : (sc.2 (nI (1 + 3 * j)).toNatClampNeg &&& (Int8.ofInt 15).toInt32).toInt = k := by rw [ek, nI_toInt (by omega)]
    generalize hA : sc.2 (nI (1 + 3 * j) + Int32.ofInt 1).toNatClampNeg = a1 at *
    generalize hB : sc.2 (nI (1 + 3 * j) + Int32.ofInt 2).toNatClampNeg = a2 at *
    match k, hk with
    | 0, _ =>
      refine b_sw 0 _ (by rw [ekI]; rfl) rfl (by decide) ?_
      repeat refine hP _ _ _ _ ?_
      refine And.intro i1 ?_
      rw [hA]
      repeat refine hP _ _ _ _ ?_
      refine And.intro i2 ?_
      rw [hB]
      repeat refine hP _ _ _ _ ?_
      refine And.intro ⟨(show 2 ≤ bb.1 by omega), (show 12 ≤ bb.2 by omega), lok9 h56, sok_B rfl⟩ ?_
      refine l_set hR hI (fun cs2 q2 b2 hR2 hq2 => ?_)
      repeat refine hP _ _ _ _ ?_
      refine And.intro i1 ?_
      rw [hA]
      repeat refine hP _ _ _ _ ?_
      refine And.intro i2 ?_
      rw [hB]
      repeat refine hP _ _ _ _ ?_
      refine t_mset (f := fC9 n cs2) (tl := [lo9 q2]) hM hI (fun ms2 hM2 ht2 => ?_)
      repeat refine hP _ _ _ _ ?_
      refine r_thrown (f := fC9 n cs2) (tl := [lo9 q2]) ?_
      rw [ht2]
      repeat refine hP _ _ _ _ ?_
      refine And.intro (fun _ => ?_) (fun h7 => absurd rfl h7)
      have fin := nxt cs2 ms2 q2 _ (bb.1 - 2, bb.2 - 12) hR2 hM2 (inv_setX hI a1 a2) (by show bb.1 ≤ bb.1 - 2 + 2; omega) (by show bb.2 ≤ bb.2 - 12 + 12; omega) (some (.int (nI (thr2 n a1 a2)))) (some (.int (bI (opX n s a1 a2)))) ⟨trivial, trivial, trivial⟩
      repeat refine hP _ _ _ _ ?_
      refine And.intro (fun _ => ?_) (fun h7 => ?_)
      · skip
        refine hP _ _ _ _ ?_
        refine x_p4 (P := P) (fin) ?_ rfl ?_ <;> try (first | rfl | (rw [nI_succ]; rfl))
      · have h0 : thr2 n a1 a2 = 0 := by
          have h7 : nI (thr2 n a1 a2) = 0 := Decidable.of_not_not h7
          rwa [nI_z (by unfold thr2; split <;> (try split) <;> decide)] at h7
        have hq2 := hq2 h0
        repeat refine hP _ _ _ _ ?_
        refine And.intro (vpx (i := 0) oi0 (by omega) (by omega)) ?_
        rw [show q2 (Int32.ofInt 0).toNatClampNeg = if opX n s a1 a2 then 1 else 0 from hq2]
        repeat refine hP _ _ _ _ ?_
        refine b_ifeq (fun ho => ?_) (fun ho => ?_) (rfl)
        · rw [ho] at fin ⊢
          repeat refine hP _ _ _ _ ?_
          refine And.intro (fun _ => ?_) (fun h7 => absurd (lg_cmp_r 0) h7)
          refine hP _ _ _ _ ?_
          refine x_p4 (P := P) (fin) ?_ rfl ?_ <;> try (first | rfl | (rw [nI_succ]; rfl))
        · rw [ho] at fin ⊢
          repeat refine hP _ _ _ _ ?_
          refine And.intro (fun _ => ?_) (fun h7 => absurd (lg_cmp_r 1) h7)
          refine hP _ _ _ _ ?_
          refine x_p4 (P := P) (fin) ?_ rfl ?_ <;> try (first | rfl | (rw [nI_succ]; rfl))
    | 1, _ =>
      refine b_sw 1 _ (by rw [ekI]; rfl) rfl (by decide) ?_
      repeat refine hP _ _ _ _ ?_
      refine And.intro i1 ?_
      rw [hA]
      repeat refine hP _ _ _ _ ?_
      refine And.intro i2 ?_
      rw [hB]
      repeat refine hP _ _ _ _ ?_
      refine And.intro ⟨(show 2 ≤ bb.1 by omega), (show 12 ≤ bb.2 by omega), lok9 h56, sok_B rfl⟩ ?_
      refine l_take hR hI (fun cs2 q2 b2 hR2 hq2 => ?_)
      repeat refine hP _ _ _ _ ?_
      refine And.intro i1 ?_
      rw [hA]
      repeat refine hP _ _ _ _ ?_
      refine And.intro i2 ?_
      rw [hB]
      repeat refine hP _ _ _ _ ?_
      refine t_take (f := fC9 n cs2) (tl := [lo9 q2]) hM hI (fun ms2 hM2 ht2 => ?_)
      repeat refine hP _ _ _ _ ?_
      refine r_thrown (f := fC9 n cs2) (tl := [lo9 q2]) ?_
      rw [ht2]
      repeat refine hP _ _ _ _ ?_
      refine And.intro (fun _ => ?_) (fun h7 => absurd rfl h7)
      have fin := nxt cs2 ms2 q2 _ (bb.1 - 2, bb.2 - 12) hR2 hM2 (inv_takX hI a1 a2) (by show bb.1 ≤ bb.1 - 2 + 2; omega) (by show bb.2 ≤ bb.2 - 12 + 12; omega) (some (.int (nI (thr2 n a1 a2)))) (some (.int (bI (opX n s a1 a2)))) ⟨trivial, trivial, trivial⟩
      repeat refine hP _ _ _ _ ?_
      refine And.intro (fun _ => ?_) (fun h7 => ?_)
      · skip
        refine hP _ _ _ _ ?_
        refine x_p4 (P := P) (fin) ?_ rfl ?_ <;> try (first | rfl | (rw [nI_succ]; rfl))
      · have h0 : thr2 n a1 a2 = 0 := by
          have h7 : nI (thr2 n a1 a2) = 0 := Decidable.of_not_not h7
          rwa [nI_z (by unfold thr2; split <;> (try split) <;> decide)] at h7
        have hq2 := hq2 h0
        repeat refine hP _ _ _ _ ?_
        refine And.intro (vpx (i := 0) oi0 (by omega) (by omega)) ?_
        rw [show q2 (Int32.ofInt 0).toNatClampNeg = if opX n s a1 a2 then 1 else 0 from hq2]
        repeat refine hP _ _ _ _ ?_
        refine b_ifeq (fun ho => ?_) (fun ho => ?_) (rfl)
        · rw [ho] at fin ⊢
          repeat refine hP _ _ _ _ ?_
          refine And.intro (fun _ => ?_) (fun h7 => absurd (lg_cmp_r 0) h7)
          refine hP _ _ _ _ ?_
          refine x_p4 (P := P) (fin) ?_ rfl ?_ <;> try (first | rfl | (rw [nI_succ]; rfl))
        · rw [ho] at fin ⊢
          repeat refine hP _ _ _ _ ?_
          refine And.intro (fun _ => ?_) (fun h7 => absurd (lg_cmp_r 1) h7)
          refine hP _ _ _ _ ?_
          refine x_p4 (P := P) (fin) ?_ rfl ?_ <;> try (first | rfl | (rw [nI_succ]; rfl))
    | 2, _ =>
      refine b_sw 2 _ (by rw [ekI]; rfl) rfl (by decide) ?_
      have jn2 : ∀ (b : Bool) (cs2 : x_S) (q2 : Nat → Int64), repC cs2 n w h (enX s a1 b) → (thr1 19 a1 = 0 → q2 0 = if enB s a1 b then 1 else 0) → P 322 [some (.ref x_SP), some (.ref 0), some (.ref 26), some (.ref 41), some (.int (nI (1 + 3 * j))), some (.int (nI (thr1 19 a1))), x6] [.int (bI b), .int a1, .ref 26] (w_L n cs2 ms q2 (bb.1 - 1, bb.2 - 6)) := by
        intro b cs2 q2 hR2 hq2
        repeat refine hP _ _ _ _ ?_
        refine t_enable (f := fC9 n cs2) (tl := [lo9 q2]) hM (fun ms2 hM2 ht2 => ?_)
        repeat refine hP _ _ _ _ ?_
        refine r_thrown (f := fC9 n cs2) (tl := [lo9 q2]) ?_
        rw [ht2]
        repeat refine hP _ _ _ _ ?_
        refine And.intro (fun _ => ?_) (fun h7 => absurd rfl h7)
        have fin := nxt cs2 ms2 q2 _ (bb.1 - 1, bb.2 - 6) hR2 hM2 (inv_enX hI a1 b) (by show bb.1 ≤ bb.1 - 1 + 2; omega) (by show bb.2 ≤ bb.2 - 6 + 12; omega) (some (.int (nI (thr1 19 a1)))) (some (.int (bI (enB s a1 b)))) ⟨trivial, trivial, trivial⟩
        repeat refine hP _ _ _ _ ?_
        refine And.intro (fun _ => ?_) (fun h7 => ?_)
        · skip
          refine hP _ _ _ _ ?_
          refine x_p4 (P := P) (fin) ?_ rfl ?_ <;> try (first | rfl | (rw [nI_succ]; rfl))
        · have h0 : thr1 19 a1 = 0 := by
            have h7 : nI (thr1 19 a1) = 0 := Decidable.of_not_not h7
            rwa [nI_z (by unfold thr1; split <;> decide)] at h7
          have hq2 := hq2 h0
          repeat refine hP _ _ _ _ ?_
          refine And.intro (vpx (i := 0) oi0 (by omega) (by omega)) ?_
          rw [show q2 (Int32.ofInt 0).toNatClampNeg = if enB s a1 b then 1 else 0 from hq2]
          repeat refine hP _ _ _ _ ?_
          refine b_ifeq (fun ho => ?_) (fun ho => ?_) (rfl)
          · rw [ho] at fin ⊢
            repeat refine hP _ _ _ _ ?_
            refine And.intro (fun _ => ?_) (fun h7 => absurd (lg_cmp_r 0) h7)
            refine hP _ _ _ _ ?_
            refine x_p4 (P := P) (fin) ?_ rfl ?_ <;> try (first | rfl | (rw [nI_succ]; rfl))
          · rw [ho] at fin ⊢
            repeat refine hP _ _ _ _ ?_
            refine And.intro (fun _ => ?_) (fun h7 => absurd (lg_cmp_r 1) h7)
            refine hP _ _ _ _ ?_
            refine x_p4 (P := P) (fin) ?_ rfl ?_ <;> try (first | rfl | (rw [nI_succ]; rfl))
      have jn1 : ∀ b : Bool, (b = true ↔ a2 ≠ 0) → P 295 [some (.ref x_SP), some (.ref 0), some (.ref 26), some (.ref 41), some (.int (nI (1 + 3 * j))), x5, x6] [.int (bI b), .int a1, .ref 0] (w_L n cs ms q bb) := by
        intro b hb
        repeat refine hP _ _ _ _ ?_
        refine And.intro ⟨(show 1 ≤ bb.1 by omega), (show 6 ≤ bb.2 by omega), lok9 h56, sok_B rfl⟩ ?_
        refine l_enable hR hI (fun cs2 q2 b2 hR2 hq2 => ?_)
        repeat refine hP _ _ _ _ ?_
        refine And.intro i1 ?_
        rw [hA]
        repeat refine hP _ _ _ _ ?_
        refine And.intro i2 ?_
        rw [hB]
        repeat refine hP _ _ _ _ ?_
        refine And.intro (fun h7 => ?_) (fun h7 => ?_)
        · have h7 : a2 = 0 := h7
          have hbf : b = false := by
            cases hbb : b with
            | false => rfl
            | true => exact absurd h7 (hb.mp hbb)
          subst hbf
          refine hP _ _ _ _ ?_
          refine x_p4 (P := P) (jn2 false cs2 q2 hR2 hq2) ?_ rfl ?_ <;> try (first | rfl | (rw [nI_succ]; rfl))
        · have h7 : ¬ a2 = 0 := h7
          have hbt : b = true := hb.mpr h7
          subst hbt
          iterate 2 refine hP _ _ _ _ ?_
          refine x_p4 (P := P) (jn2 true cs2 q2 hR2 hq2) ?_ rfl ?_ <;> try (first | rfl | (rw [nI_succ]; rfl))
      repeat refine hP _ _ _ _ ?_
      refine And.intro i1 ?_
      rw [hA]
      repeat refine hP _ _ _ _ ?_
      refine And.intro i2 ?_
      rw [hB]
      repeat refine hP _ _ _ _ ?_
      refine And.intro (fun h7 => ?_) (fun h7 => ?_)
      · have h7 : a2 = 0 := h7
        refine hP _ _ _ _ ?_
        refine x_p4 (P := P) (jn1 false ⟨fun e => absurd e (by decide), fun e => absurd h7 e⟩) ?_ rfl ?_ <;> try (first | rfl | (rw [nI_succ]; rfl))
      · have h7 : ¬ a2 = 0 := h7
        iterate 2 refine hP _ _ _ _ ?_
        refine x_p4 (P := P) (jn1 true ⟨fun _ => h7, fun _ => rfl⟩) ?_ rfl ?_ <;> try (first | rfl | (rw [nI_succ]; rfl))
    | 3, _ =>
      refine b_sw 3 _ (by rw [ekI]; rfl) rfl (by decide) ?_
      repeat refine hP _ _ _ _ ?_
      refine k_find hR hI (fun cs2 hR2 => ?_)
      repeat refine hP _ _ _ _ ?_
      refine t_find (f := fC9 n cs2) (tl := [lo9 q]) hM hI (fun ms2 hM2 => ?_)
      repeat refine hP _ _ _ _ ?_
      refine And.intro (fun _ => ?_) (fun h7 => absurd rfl h7)
      exact nxt cs2 ms2 q _ bb hR2 hM2 (inv_find hI) (by omega) (by omega) x5 x6 h56
    | 4, _ =>
      refine b_sw 4 _ (by rw [ekI]; rfl) rfl (by decide) ?_
      repeat refine hP _ _ _ _ ?_
      refine And.intro i1 ?_
      rw [hA]
      repeat refine hP _ _ _ _ ?_
      refine k_found hR hI ?_
      repeat refine hP _ _ _ _ ?_
      refine And.intro i1 ?_
      rw [hA]
      repeat refine hP _ _ _ _ ?_
      refine t_found (f := fC9 n cs) (tl := [lo9 q]) hM hI (fun ms2 hM2 => ?_)
      repeat refine hP _ _ _ _ ?_
      refine And.intro (fun _ => ?_) (fun h7 => absurd rfl h7)
      exact nxt cs ms2 q s bb hR hM2 hI (by omega) (by omega) x5 x6 h56
    | 5, _ =>
      refine b_sw 5 _ (by rw [ekI]; rfl) rfl (by decide) ?_
      repeat refine hP _ _ _ _ ?_
      refine And.intro i1 ?_
      rw [hA]
      repeat refine hP _ _ _ _ ?_
      refine k_reason hR hI ?_
      repeat refine hP _ _ _ _ ?_
      refine And.intro i1 ?_
      rw [hA]
      repeat refine hP _ _ _ _ ?_
      refine t_reason (f := fC9 n cs) (tl := [lo9 q]) hM hI (fun ms2 hM2 => ?_)
      repeat refine hP _ _ _ _ ?_
      refine And.intro (fun _ => ?_) (fun h7 => absurd rfl h7)
      exact nxt cs ms2 q s bb hR hM2 hI (by omega) (by omega) x5 x6 h56
    | 6, _ =>
      refine b_sw 6 _ (by rw [ekI]; rfl) rfl (by decide) ?_
      repeat refine hP _ _ _ _ ?_
      refine And.intro i1 ?_
      rw [hA]
      repeat refine hP _ _ _ _ ?_
      refine k_goes hR hI ?_
      repeat refine hP _ _ _ _ ?_
      refine And.intro i1 ?_
      rw [hA]
      repeat refine hP _ _ _ _ ?_
      refine t_goes (f := fC9 n cs) (tl := [lo9 q]) hM hI (fun ms2 hM2 => ?_)
      repeat refine hP _ _ _ _ ?_
      refine And.intro (fun _ => ?_) (fun h7 => absurd rfl h7)
      exact nxt cs ms2 q s bb hR hM2 hI (by omega) (by omega) x5 x6 h56
    | 7, _ =>
      refine b_sw 7 _ (by rw [ekI]; rfl) rfl (by decide) ?_
      repeat refine hP _ _ _ _ ?_
      refine k_apply hR hI (fun cs2 hR2 => ?_)
      repeat refine hP _ _ _ _ ?_
      refine t_apply (f := fC9 n cs2) (tl := [lo9 q]) hM hI (fun ms2 hM2 => ?_)
      repeat refine hP _ _ _ _ ?_
      refine And.intro (fun _ => ?_) (fun h7 => absurd rfl h7)
      exact nxt cs2 ms2 q _ bb hR2 hM2 (inv_ap hI) (by omega) (by omega) x5 x6 h56
    | 8, _ =>
      refine b_sw 8 _ (by rw [ekI]; rfl) rfl (by decide) ?_
      repeat refine hP _ _ _ _ ?_
      refine And.intro i1 ?_
      rw [hA]
      repeat refine hP _ _ _ _ ?_
      refine k_solve hR hI (fun cs2 hR2 => ?_)
      repeat refine hP _ _ _ _ ?_
      refine And.intro i1 ?_
      rw [hA]
      repeat refine hP _ _ _ _ ?_
      refine t_solve (f := fC9 n cs2) (tl := [lo9 q]) hM hI (fun ms2 hM2 => ?_)
      repeat refine hP _ _ _ _ ?_
      refine And.intro (fun _ => ?_) (fun h7 => absurd rfl h7)
      exact nxt cs2 ms2 q _ bb hR2 hM2 (inv_solX hI a1) (by omega) (by omega) x5 x6 h56
    | 9, _ =>
      refine b_sw 9 _ (by rw [ekI]; rfl) rfl (by decide) ?_
      repeat refine hP _ _ _ _ ?_
      refine k_undo hR hI (fun cs2 hR2 => ?_)
      repeat refine hP _ _ _ _ ?_
      refine t_undo (f := fC9 n cs2) (tl := [lo9 q]) hM hI (fun ms2 hM2 => ?_)
      repeat refine hP _ _ _ _ ?_
      refine And.intro (fun _ => ?_) (fun h7 => absurd rfl h7)
      exact nxt cs2 ms2 q _ bb hR2 hM2 (inv_undo hI) (by omega) (by omega) x5 x6 h56
    | 10, _ =>
      refine b_sw 10 _ (by rw [ekI]; rfl) rfl (by decide) ?_
      repeat refine hP _ _ _ _ ?_
      refine And.intro i1 ?_
      rw [hA]
      repeat refine hP _ _ _ _ ?_
      refine And.intro ⟨(show 1 ≤ bb.1 by omega), (show 6 ≤ bb.2 by omega), lok9 h56, sok_B rfl⟩ ?_
      refine l_done hR (fun q2 b2 hq2 => ?_)
      repeat refine hP _ _ _ _ ?_
      refine And.intro i1 ?_
      rw [hA]
      repeat refine hP _ _ _ _ ?_
      refine t_done (f := fC9 n cs) (tl := [lo9 q2]) hM (fun ms2 hM2 ht2 => ?_)
      repeat refine hP _ _ _ _ ?_
      refine r_thrown (f := fC9 n cs) (tl := [lo9 q2]) ?_
      rw [ht2]
      repeat refine hP _ _ _ _ ?_
      refine And.intro (fun _ => ?_) (fun h7 => absurd rfl h7)
      have fin := nxt cs ms2 q2 s (bb.1 - 1, bb.2 - 6) hR hM2 hI (by show bb.1 ≤ bb.1 - 1 + 2; omega) (by show bb.2 ≤ bb.2 - 6 + 12; omega) (some (.int (nI (thr1 19 a1)))) (some (.int (donI s a1))) ⟨trivial, trivial, trivial⟩
      repeat refine hP _ _ _ _ ?_
      refine And.intro (fun _ => ?_) (fun h7 => ?_)
      · skip
        refine hP _ _ _ _ ?_
        refine x_p4 (P := P) (fin) ?_ rfl ?_ <;> try (first | rfl | (rw [nI_succ]; rfl))
      · have h0 : thr1 19 a1 = 0 := by
          have h7 : nI (thr1 19 a1) = 0 := Decidable.of_not_not h7
          rwa [nI_z (by unfold thr1; split <;> decide)] at h7
        have hq2 := hq2 h0
        repeat refine hP _ _ _ _ ?_
        refine And.intro (vpx (i := 0) oi0 (by omega) (by omega)) ?_
        rw [show q2 (Int32.ofInt 0).toNatClampNeg = (donI s a1).toInt64 from hq2]
        repeat refine hP _ _ _ _ ?_
        refine And.intro (fun _ => ?_) (fun h7 => absurd (lg_cmp_r _) h7)
        refine hP _ _ _ _ ?_
        refine x_p4 (P := P) (fin) ?_ rfl ?_ <;> try (first | rfl | (rw [nI_succ]; rfl))
    | 11, _ =>
      refine b_sw 11 _ (by rw [ekI]; rfl) rfl (by decide) ?_
      repeat refine hP _ _ _ _ ?_
      refine And.intro i1 ?_
      rw [hA]
      repeat refine hP _ _ _ _ ?_
      refine And.intro ⟨(show 1 ≤ bb.1 by omega), (show 6 ≤ bb.2 by omega), lok9 h56, sok_B rfl⟩ ?_
      refine l_candidates hR hI (fun q2 b2 hq2 => ?_)
      repeat refine hP _ _ _ _ ?_
      refine And.intro i1 ?_
      rw [hA]
      repeat refine hP _ _ _ _ ?_
      refine t_candidates (f := fC9 n cs) (tl := [lo9 q2]) hM (fun ms2 hM2 ht2 => ?_)
      repeat refine hP _ _ _ _ ?_
      refine r_thrown (f := fC9 n cs) (tl := [lo9 q2]) ?_
      rw [ht2]
      repeat refine hP _ _ _ _ ?_
      refine And.intro (fun _ => ?_) (fun h7 => absurd rfl h7)
      have fin := nxt cs ms2 q2 s (bb.1 - 1, bb.2 - 6) hR hM2 hI (by show bb.1 ≤ bb.1 - 1 + 2; omega) (by show bb.2 ≤ bb.2 - 6 + 12; omega) (some (.int (nI (thr1 (n * n) a1)))) (some (.int (cndI n s a1))) ⟨trivial, trivial, trivial⟩
      repeat refine hP _ _ _ _ ?_
      refine And.intro (fun _ => ?_) (fun h7 => ?_)
      · skip
        refine hP _ _ _ _ ?_
        refine x_p4 (P := P) (fin) ?_ rfl ?_ <;> try (first | rfl | (rw [nI_succ]; rfl))
      · have h0 : thr1 (n * n) a1 = 0 := by
          have h7 : nI (thr1 (n * n) a1) = 0 := Decidable.of_not_not h7
          rwa [nI_z (by unfold thr1; split <;> decide)] at h7
        have hq2 := hq2 h0
        repeat refine hP _ _ _ _ ?_
        refine And.intro (vpx (i := 0) oi0 (by omega) (by omega)) ?_
        rw [show q2 (Int32.ofInt 0).toNatClampNeg = (cndI n s a1).toInt64 from hq2]
        repeat refine hP _ _ _ _ ?_
        refine And.intro (fun _ => ?_) (fun h7 => absurd (lg_cmp_r _) h7)
        refine hP _ _ _ _ ?_
        refine x_p4 (P := P) (fin) ?_ rfl ?_ <;> try (first | rfl | (rw [nI_succ]; rfl))
    | 12, _ =>
      refine b_sw 12 _ (by rw [ekI]; rfl) rfl (by decide) ?_
      repeat refine hP _ _ _ _ ?_
      refine And.intro i1 ?_
      rw [hA]
      repeat refine hP _ _ _ _ ?_
      refine And.intro ⟨(show 1 ≤ bb.1 by omega), (show 6 ≤ bb.2 by omega), lok9 h56, sok_B rfl⟩ ?_
      refine l_value hR hI (fun q2 b2 hq2 => ?_)
      repeat refine hP _ _ _ _ ?_
      refine And.intro i1 ?_
      rw [hA]
      repeat refine hP _ _ _ _ ?_
      refine t_value (f := fC9 n cs) (tl := [lo9 q2]) hM (fun ms2 hM2 ht2 => ?_)
      repeat refine hP _ _ _ _ ?_
      refine r_thrown (f := fC9 n cs) (tl := [lo9 q2]) ?_
      rw [ht2]
      repeat refine hP _ _ _ _ ?_
      refine And.intro (fun _ => ?_) (fun h7 => absurd rfl h7)
      have fin := nxt cs ms2 q2 s (bb.1 - 1, bb.2 - 6) hR hM2 hI (by show bb.1 ≤ bb.1 - 1 + 2; omega) (by show bb.2 ≤ bb.2 - 6 + 12; omega) (some (.int (nI (thr1 (n * n) a1)))) (some (.int (valI n s a1))) ⟨trivial, trivial, trivial⟩
      repeat refine hP _ _ _ _ ?_
      refine And.intro (fun _ => ?_) (fun h7 => ?_)
      · skip
        refine hP _ _ _ _ ?_
        refine x_p4 (P := P) (fin) ?_ rfl ?_ <;> try (first | rfl | (rw [nI_succ]; rfl))
      · have h0 : thr1 (n * n) a1 = 0 := by
          have h7 : nI (thr1 (n * n) a1) = 0 := Decidable.of_not_not h7
          rwa [nI_z (by unfold thr1; split <;> decide)] at h7
        have hq2 := hq2 h0
        repeat refine hP _ _ _ _ ?_
        refine And.intro (vpx (i := 0) oi0 (by omega) (by omega)) ?_
        rw [show q2 (Int32.ofInt 0).toNatClampNeg = (valI n s a1).toInt64 from hq2]
        repeat refine hP _ _ _ _ ?_
        refine And.intro (fun _ => ?_) (fun h7 => absurd (lg_cmp_r _) h7)
        refine hP _ _ _ _ ?_
        refine x_p4 (P := P) (fin) ?_ rfl ?_ <;> try (first | rfl | (rw [nI_succ]; rfl))
    | 13, _ =>
      refine b_sw 13 _ (by rw [ekI]; rfl) rfl (by decide) ?_
      repeat refine hP _ _ _ _ ?_
      refine And.intro i1 ?_
      rw [hA]
      repeat refine hP _ _ _ _ ?_
      refine k_state hR hI ?_
      repeat refine hP _ _ _ _ ?_
      refine And.intro i1 ?_
      rw [hA]
      repeat refine hP _ _ _ _ ?_
      refine t_state (f := fC9 n cs) (tl := [lo9 q]) hM (fun ms2 hM2 => ?_)
      repeat refine hP _ _ _ _ ?_
      refine And.intro (fun _ => ?_) (fun h7 => absurd rfl h7)
      exact nxt cs ms2 q s bb hR hM2 hI (by omega) (by omega) x5 x6 h56
    | 14, _ =>
      refine b_sw 14 _ (by rw [ekI]; rfl) rfl (by decide) ?_
      repeat refine hP _ _ _ _ ?_
      refine And.intro i1 ?_
      rw [hA]
      repeat refine hP _ _ _ _ ?_
      refine And.intro i2 ?_
      rw [hB]
      repeat refine hP _ _ _ _ ?_
      refine k_words rfl hR hI ?_
      repeat refine hP _ _ _ _ ?_
      refine And.intro i1 ?_
      rw [hA]
      repeat refine hP _ _ _ _ ?_
      refine And.intro i2 ?_
      rw [hB]
      repeat refine hP _ _ _ _ ?_
      refine t_words (f := fC9 n cs) (tl := [lo9 q]) hM hI (fun ms2 hM2 => ?_)
      repeat refine hP _ _ _ _ ?_
      refine And.intro (fun _ => ?_) (fun h7 => absurd rfl h7)
      exact nxt cs ms2 q s bb hR hM2 hI (by omega) (by omega) x5 x6 h56
    | 15, _ =>
      refine b_swd (Or.inr (by rw [ekI]; decide)) rfl ?_
      exact nxt cs ms q s bb hR hM hI (by omega) (by omega) x5 x6 h56
    | k9 + 16, hk9 => exact absurd hk9 (by omega)
end LW
