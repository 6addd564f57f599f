/-! ===== the model: undo, reads by number, set, take, enable ===== -/
def undoM (ms : x_S) (D k : Nat) : x_S := sF (sA (sA (sA (sF (sF ms 0 0) 16 (nI D)) 27 (bkA (ms.2 27) (ms.2 35) D 81)) 28 (bkA (ms.2 28) (ms.2 36) D 81)) 30 (upd (ms.2 30) k (ms.2 30 k - 1))) 8 (-1)
theorem bI_n0 {b : Bool} (h : ¬ bI b = 0) : b = true := by cases b with | true => rfl | false => exact absurd rfl h
section M7
variable {sc : Nat × (Nat → Int32)} {f : Nat → x_C} {ms : x_S} {tl : List x_C} {bb : Nat × Nat} {n w h d : Nat} {Q : x_O → x_H → Prop} {cb : Nat → Nat}
theorem r_undo {D : Nat} (hD : ms.1 16 = nI D) (hD8 : D ≤ 820) (hN : D = 0 → Q (.inl (some (.int (-1)))) (w_M f (sF ms 0 0) tl bb)) (hT : ∀ E k, D = E + 1 → k < 19 → ms.2 37 E = nI k → Q (.inl (some (.int (nI k)))) (w_M f (undoM ms E k) tl bb)) (hK : ∀ E, D = E + 1 → ∃ k, k < 19 ∧ ms.2 37 E = nI k) : x_run sc x_MM x_EX (d + 1) k_X8_undo [.ref 26] (w_M f ms tl bb) Q := by
  have hcl : ∀ j, j < 81 → (nI j).toNatClampNeg = j := fun j hj => nI_clamp (by omega)
  refine x_in (M := m_X8_undo) rfl rfl (Nat.le_of_ble_eq_true rfl) ⟨rfl, trivial⟩ ?_
  intro P hP
  iterate 5 refine hP _ _ _ _ ?_
  refine hP _ _ _ _ (And.intro (fun h => ?_) (fun h => ?_))
  · have h : ¬ ms.1 16 = 0 := h
    rw [hD, z0, nI_eq (by omega) (by omega)] at h
    obtain ⟨E, rfl⟩ : ∃ E, D = E + 1 := ⟨D - 1, by omega⟩
    obtain ⟨k, hk, hkE⟩ := hK E rfl
    have hix : ∀ j, (Int8.ofInt 81).toInt32 * nI E + nI j = nI (81 * E + j) := fun j => by rw [ob81, pk_mul, nI_add]
    have hcx : ∀ j, j < 81 → (nI (81 * E + j)).toNatClampNeg = 81 * E + j := fun j hj => nI_clamp (by omega)
    have loop : ∀ j i, i + j = 81 → P 26 [some (.ref 26), some (.int (nI i))] [] (w_M f (sA (sA (sF (sF ms 0 0) 16 (nI E)) 27 (bkA (ms.2 27) (ms.2 35) E i)) 28 (bkA (ms.2 28) (ms.2 36) E i)) tl bb) := by
      intro j
      induction j with
      | zero =>
        intro i hi
        have hi : i = 81 := hi
        subst hi
        have eE : (nI E).toNatClampNeg = E := nI_clamp (by omega)
        have ek : (ms.2 37 (nI E).toNatClampNeg).toNatClampNeg = k := by rw [eE, hkE]; exact nI_clamp (by omega)
        have hinE : vp_in (nI E) 820 := vp_in_nI (by omega) (by omega)
        have hink : vp_in (ms.2 37 (nI E).toNatClampNeg) 19 := by rw [eE, hkE]; exact vp_in_nI hk (by omega)
        iterate 2 refine hP _ _ _ _ ?_
        refine hP _ _ _ _ (And.intro (fun _ => ?_) (fun h => absurd (show (Int8.ofInt 81).toInt32 ≤ nI 81 by decide) h))
        iterate 6 refine hP _ _ _ _ ?_
        refine hP _ _ _ _ (And.intro hinE ?_)
        refine hP _ _ _ _ ?_
        refine hP _ _ _ _ (And.intro hink ?_)
        iterate 2 refine hP _ _ _ _ ?_
        refine hP _ _ _ _ (And.intro hink ?_)
        iterate 3 refine hP _ _ _ _ ?_
        iterate 4 refine hP _ _ _ _ ?_
        refine hP _ _ _ _ (And.intro hinE ?_)
        have hq := hT E k rfl hk hkE
        refine hP _ _ _ _ (x_q2 (x_q1 hq ?_) ?_)
        · show nI k = ms.2 37 (nI E).toNatClampNeg
          rw [eE, hkE]
        · unfold undoM
          have e1 : upd (ms.2 30) k (ms.2 30 k - 1) = upd (ms.2 30) (ms.2 37 (nI E).toNatClampNeg).toNatClampNeg (ms.2 30 (ms.2 37 (nI E).toNatClampNeg).toNatClampNeg - Int32.ofInt 1) := by rw [ek]; rfl
          rw [e1]
          rfl
      | succ j ih =>
        intro i hi
        have hin : vp_in (nI i) 81 := vp_in_nI (by omega) (by omega)
        have hin2 : vp_in ((Int8.ofInt 81).toInt32 * nI E + nI i) 66420 := by rw [hix]; exact vp_in_nI (by omega) (by omega)
        iterate 2 refine hP _ _ _ _ ?_
        refine hP _ _ _ _ (And.intro (fun h => absurd (show (Int8.ofInt 81).toInt32 ≤ nI i from h) (by rw [ob81]; exact nI_ge (by omega) (by omega))) (fun _ => ?_))
        iterate 11 refine hP _ _ _ _ ?_
        refine hP _ _ _ _ (And.intro hin2 ?_)
        refine hP _ _ _ _ (And.intro hin ?_)
        iterate 11 refine hP _ _ _ _ ?_
        refine hP _ _ _ _ (And.intro hin2 ?_)
        refine hP _ _ _ _ (And.intro hin ?_)
        refine hP _ _ _ _ ?_
        refine hP _ _ _ _ (x_p4 (P := P) (ih (i + 1) (by omega)) ?_ rfl ?_)
        · rw [nI_succ]; rfl
        · have e1 : ((Int8.ofInt 81).toInt32 * nI E + nI i).toNatClampNeg = 81 * E + i := by rw [hix]; exact hcx i (by omega)
          have e2 : (nI i).toNatClampNeg = i := hcl i (by omega)
          have u1 : bkA (ms.2 27) (ms.2 35) E (i + 1) = upd (bkA (ms.2 27) (ms.2 35) E i) (nI i).toNatClampNeg (ms.2 35 ((Int8.ofInt 81).toInt32 * nI E + nI i).toNatClampNeg) := by rw [e1, e2]; exact bkA_st
          have u2 : bkA (ms.2 28) (ms.2 36) E (i + 1) = upd (bkA (ms.2 28) (ms.2 36) E i) (nI i).toNatClampNeg (ms.2 36 ((Int8.ofInt 81).toInt32 * nI E + nI i).toNatClampNeg) := by rw [e1, e2]; exact bkA_st
          rw [u1, u2]
          rfl
    iterate 7 refine hP _ _ _ _ ?_
    refine hP _ _ _ _ (x_p4 (P := P) (loop 81 0 rfl) rfl rfl ?_)
    rw [bkA_0, bkA_0, show nI E = ms.1 16 - Int32.ofInt 1 by rw [hD]; exact (nI_pred E).symm]
    rfl
  · have h : ms.1 16 = 0 := Decidable.of_not_not h
    rw [hD, z0, nI_eq (by omega) (by omega)] at h
    refine hP _ _ _ _ ?_
    exact hP _ _ _ _ (hN h)
/-- which numbers are steps -/
def okB (x : Int32) (m : Nat) : Bool := decide (0 ≤ x.toInt ∧ x.toInt < m)
theorem okB_t {x : Int32} {m : Nat} (h : okB x m = true) (hm : m < 2 ^ 31) : ∃ k, k < m ∧ x = nI k := by
  have h := of_decide_eq_true h
  refine ⟨x.toInt.toNat, by omega, Int32.toInt_inj.mp ?_⟩
  rw [nI_toInt (by omega)]
  omega
theorem okB_f {x : Int32} {m : Nat} (h : okB x m = false) : x.toInt < 0 ∨ (m : Int) ≤ x.toInt := by
  have h := of_decide_eq_false h
  omega
theorem i32_neg {x : Int32} : x < 0 ↔ x.toInt < 0 := by rw [Int32.lt_iff_toInt_lt]; rfl
theorem i32_lt {x : Int32} {m : Nat} (hm : m < 2 ^ 31) : x < nI m ↔ x.toInt < m := by rw [Int32.lt_iff_toInt_lt, nI_toInt hm]
theorem i32_ge {x : Int32} {m : Nat} (hm : m < 2 ^ 31) : nI m ≤ x ↔ (m : Int) ≤ x.toInt := by rw [Int32.le_iff_toInt_le, nI_toInt hm]
theorem r_done {x : Int32} (hN : okB x 19 = false → Q (.inl (some (.int 0))) (w_M f (sF ms 0 1) tl bb)) (hT : ∀ k, k < 19 → x = nI k → Q (.inl (some (.int (ms.2 30 k)))) (w_M f (sF ms 0 0) tl bb)) : x_run sc x_MM x_EX (d + 2) k_X8_done [.ref 26, .int x] (w_M f ms tl bb) Q := by
  refine x_in (M := m_X8_done) rfl rfl (Nat.le_of_ble_eq_true rfl) ⟨rfl, rfl, trivial⟩ ?_
  intro P hP
  have fin : P 17 [some (.ref 26), some (.int x)] [.int (bI (!okB x 19)), .int (Int32.ofInt 1), .ref 26] (w_M f ms tl bb) := by
    cases hb : okB x 19
    · refine hP _ _ _ _ (r_fails (b := true) ?_)
      refine hP _ _ _ _ (And.intro (fun h => absurd (show bI true = 0 from h) (by decide)) (fun _ => ?_))
      iterate 2 refine hP _ _ _ _ ?_
      exact hP _ _ _ _ (hN hb)
    · obtain ⟨k, hk, rfl⟩ := okB_t hb (by omega)
      refine hP _ _ _ _ (r_fails (b := false) ?_)
      refine hP _ _ _ _ (And.intro (fun _ => ?_) (fun h => absurd rfl h))
      iterate 3 refine hP _ _ _ _ ?_
      refine hP _ _ _ _ (And.intro (vp_in_nI hk (by omega)) ?_)
      refine hP _ _ _ _ (x_q1 (hT k hk rfl) ?_)
      show ms.2 30 k = ms.2 30 (nI k).toNatClampNeg
      rw [nI_clamp (by omega)]
  iterate 3 refine hP _ _ _ _ ?_
  refine hP _ _ _ _ (And.intro (fun h => ?_) (fun h => ?_))
  · have h : x < 0 := h
    rw [i32_neg] at h
    have hb : okB x 19 = false := decide_eq_false (by omega)
    rw [hb] at fin
    iterate 2 refine hP _ _ _ _ ?_
    exact fin
  · have h : ¬ x < 0 := h
    rw [i32_neg] at h
    iterate 2 refine hP _ _ _ _ ?_
    refine hP _ _ _ _ (And.intro (fun h2 => ?_) (fun h2 => ?_))
    · have h2 : x < (Int8.ofInt 19).toInt32 := h2
      rw [ob19, i32_lt (by omega)] at h2
      have hb : okB x 19 = true := decide_eq_true (by omega)
      rw [hb] at fin
      refine hP _ _ _ _ ?_
      exact fin
    · have h2 : ¬ x < (Int8.ofInt 19).toInt32 := h2
      rw [ob19, i32_lt (by omega)] at h2
      have hb : okB x 19 = false := decide_eq_false (by omega)
      rw [hb] at fin
      iterate 2 refine hP _ _ _ _ ?_
      exact fin
theorem okB_nn (x : Int32) (n : Nat) : decide (0 ≤ x.toInt ∧ x.toInt < (n : Int) * n) = okB x (n * n) := by unfold okB; rw [Int.natCast_mul]
theorem r_candidates (hG : gM ms n w h) {x : Int32} (hN : okB x (n * n) = false → Q (.inl (some (.int 0))) (w_M f (sF ms 0 1) tl bb)) (hT : ∀ c, c < n * n → x = nI c → Q (.inl (some (.int (ms.2 27 c)))) (w_M f (sF ms 0 0) tl bb)) : x_run sc x_MM x_EX (d + 3) k_X8_candidates [.ref 26, .int x] (w_M f ms tl bb) Q := by
  obtain ⟨g1, g2, g3, g4, g5, g6, g7, g8⟩ := hG.2.2.2.le
  refine x_in (M := m_X8_candidates) rfl rfl (Nat.le_of_ble_eq_true rfl) ⟨rfl, rfl, trivial⟩ ?_
  intro P hP
  have fin : P 15 [some (.ref 26), some (.int x)] [.int (bI (!okB x (n * n))), .int (Int32.ofInt 1), .ref 26] (w_M f ms tl bb) := by
    cases hb : okB x (n * n)
    · refine hP _ _ _ _ (r_fails (b := true) ?_)
      refine hP _ _ _ _ (And.intro (fun h => absurd (show bI true = 0 from h) (by decide)) (fun _ => ?_))
      iterate 2 refine hP _ _ _ _ ?_
      exact hP _ _ _ _ (hN hb)
    · obtain ⟨k, hk, rfl⟩ := okB_t hb (by omega)
      refine hP _ _ _ _ (r_fails (b := false) ?_)
      refine hP _ _ _ _ (And.intro (fun _ => ?_) (fun h => absurd rfl h))
      iterate 3 refine hP _ _ _ _ ?_
      refine hP _ _ _ _ (And.intro (vp_in_nI (by omega) (by omega)) ?_)
      refine hP _ _ _ _ (x_q1 (hT k hk rfl) ?_)
      show ms.2 27 k = ms.2 27 (nI k).toNatClampNeg
      rw [nI_clamp (by omega)]
  iterate 4 refine hP _ _ _ _ ?_
  refine hP _ _ _ _ (r_isCell hG ?_)
  rw [okB_nn]
  refine hP _ _ _ _ (And.intro (fun h => ?_) (fun h => ?_))
  · have h : ¬ bI (okB x (n * n)) = 0 := h
    rw [bI_n0 h] at fin
    refine hP _ _ _ _ ?_
    exact fin
  · have h : bI (okB x (n * n)) = 0 := Decidable.of_not_not h
    rw [bI_t.mp h] at fin
    iterate 2 refine hP _ _ _ _ ?_
    exact fin
theorem r_value (hG : gM ms n w h) {x : Int32} (hN : okB x (n * n) = false → Q (.inl (some (.int 0))) (w_M f (sF ms 0 1) tl bb)) (hT : ∀ c, c < n * n → x = nI c → Q (.inl (some (.int (ms.2 28 c)))) (w_M f (sF ms 0 0) tl bb)) : x_run sc x_MM x_EX (d + 3) k_X8_value [.ref 26, .int x] (w_M f ms tl bb) Q := by
  obtain ⟨g1, g2, g3, g4, g5, g6, g7, g8⟩ := hG.2.2.2.le
  refine x_in (M := m_X8_value) rfl rfl (Nat.le_of_ble_eq_true rfl) ⟨rfl, rfl, trivial⟩ ?_
  intro P hP
  have fin : P 15 [some (.ref 26), some (.int x)] [.int (bI (!okB x (n * n))), .int (Int32.ofInt 1), .ref 26] (w_M f ms tl bb) := by
    cases hb : okB x (n * n)
    · refine hP _ _ _ _ (r_fails (b := true) ?_)
      refine hP _ _ _ _ (And.intro (fun h => absurd (show bI true = 0 from h) (by decide)) (fun _ => ?_))
      iterate 2 refine hP _ _ _ _ ?_
      exact hP _ _ _ _ (hN hb)
    · obtain ⟨k, hk, rfl⟩ := okB_t hb (by omega)
      refine hP _ _ _ _ (r_fails (b := false) ?_)
      refine hP _ _ _ _ (And.intro (fun _ => ?_) (fun h => absurd rfl h))
      iterate 3 refine hP _ _ _ _ ?_
      refine hP _ _ _ _ (And.intro (vp_in_nI (by omega) (by omega)) ?_)
      refine hP _ _ _ _ (x_q1 (hT k hk rfl) ?_)
      show ms.2 28 k = ms.2 28 (nI k).toNatClampNeg
      rw [nI_clamp (by omega)]
  iterate 4 refine hP _ _ _ _ ?_
  refine hP _ _ _ _ (r_isCell hG ?_)
  rw [okB_nn]
  refine hP _ _ _ _ (And.intro (fun h => ?_) (fun h => ?_))
  · have h : ¬ bI (okB x (n * n)) = 0 := h
    rw [bI_n0 h] at fin
    refine hP _ _ _ _ ?_
    exact fin
  · have h : bI (okB x (n * n)) = 0 := Decidable.of_not_not h
    rw [bI_t.mp h] at fin
    iterate 2 refine hP _ _ _ _ ?_
    exact fin
/-- what a cell is set to, as the machine has it -/
def vI (o : Option Nat) : Int32 := match o with
  | none => -1
  | some s => nI s
def vM (ms : x_S) (n : Nat) (vb : Nat → Option Nat) : Prop := ∀ c, c < n * n → ms.2 28 c = vI (vb c) ∧ ∀ s, vb c = some s → s < n
theorem vI_neg {o : Option Nat} (h : ∀ s, o = some s → s < 2 ^ 31) : 0 ≤ vI o ↔ o ≠ none := by
  cases o with
  | none => constructor
            · intro h9; exact absurd h9 (by decide)
            · intro h9; exact absurd rfl h9
  | some s => constructor
              · intro _ h9; cases h9
              · intro _; exact nI_pos' (h s rfl)
def setS (ms : x_S) (n w h c s : Nat) : x_S := sF (sF (sA (sA (sF ms 0 0) 28 (upd (ms.2 28) c (nI s))) 27 (putA (ms.2 27) n w h c s (n * n))) 8 (-1)) 16 0
def takeS (ms : x_S) (c s : Nat) : x_S := sF (sF (sA (sF ms 0 0) 27 (upd (ms.2 27) c (ms.2 27 c &&& (nI (2 ^ s) ^^^ (-1))))) 8 (-1)) 16 0
theorem r_set (hG : gM ms n w h) {vb : Nat → Option Nat} (hC : cM ms n cb) (hV : vM ms n vb) {x y : Int32}
    (h1 : okB x (n * n) = false → Q (.inl (some (.int (bI false)))) (w_M f (sF ms 0 1) tl bb)) (h2 : okB x (n * n) = true → okB y n = false → Q (.inl (some (.int (bI false)))) (w_M f (sF ms 0 2) tl bb))
    (h3 : ∀ c s, c < n * n → s < n → x = nI c → y = nI s → (vb c ≠ none ∨ (cb c).testBit s = false) → Q (.inl (some (.int (bI false)))) (w_M f (sF ms 0 0) tl bb))
    (h4 : ∀ c s, c < n * n → s < n → x = nI c → y = nI s → vb c = none → (cb c).testBit s = true → Q (.inl (some (.int (bI true)))) (w_M f (setS ms n w h c s) tl bb)) : x_run sc x_MM x_EX (d + 4) k_X8_set [.ref 26, .int x, .int y] (w_M f ms tl bb) Q := by
  obtain ⟨g1, g2, g3, g4, g5, g6, g7, g8⟩ := hG.2.2.2.le
  refine x_in (M := m_X8_set) rfl rfl (Nat.le_of_ble_eq_true rfl) ⟨rfl, rfl, rfl, trivial⟩ ?_
  intro P hP
  have no : ∀ z : Int32, Q (.inl (some (.int (bI false)))) (w_M f (sF ms 0 z) tl bb) → P 60 [some (.ref 26), some (.int x), some (.int y)] [] (w_M f (sF ms 0 z) tl bb) := by
    intro z hq
    refine hP _ _ _ _ ?_
    exact hP _ _ _ _ (And.intro rfl hq)
  have fin2 : ∀ c, c < n * n → x = nI c → P 36 [some (.ref 26), some (.int x), some (.int y)] [.int (bI (!okB y n)), .int (Int32.ofInt 2), .ref 26] (w_M f (sF ms 0 0) tl bb) := by
    intro c hc hxc
    cases hb : okB y n
    · refine hP _ _ _ _ (r_fails (b := true) ?_)
      refine hP _ _ _ _ (And.intro (fun _ => ?_) (fun h => absurd (show bI true ≠ 0 by decide) h))
      exact no 2 (h2 (by rw [hxc]; exact decide_eq_true (by rw [nI_toInt (by omega)]; omega)) hb)
    · obtain ⟨s, hs, rfl⟩ := okB_t hb (by omega)
      subst hxc
      have hcl : (nI c).toNatClampNeg = c := nI_clamp (by omega)
      refine hP _ _ _ _ (r_fails (b := false) ?_)
      refine hP _ _ _ _ (And.intro (fun h => absurd (show bI false = 0 by decide) (show bI false ≠ 0 from h)) (fun _ => ?_))
      iterate 3 refine hP _ _ _ _ ?_
      refine hP _ _ _ _ (And.intro (vp_in_nI (by omega) (by omega)) ?_)
      refine hP _ _ _ _ (And.intro (fun hv => ?_) (fun hv => ?_))
      · have hv : 0 ≤ ms.2 28 (nI c).toNatClampNeg := hv
        rw [hcl, (hV c hc).1, vI_neg (fun t ht => by have := (hV c hc).2 t ht; omega)] at hv
        exact no 0 (h3 c s hc hs rfl rfl (Or.inl hv))
      · have hv : ¬ 0 ≤ ms.2 28 (nI c).toNatClampNeg := hv
        rw [hcl, (hV c hc).1, vI_neg (fun t ht => by have := (hV c hc).2 t ht; omega)] at hv
        have hv : vb c = none := Decidable.of_not_not hv
        iterate 3 refine hP _ _ _ _ ?_
        have h29 : cb c < 512 := Nat.lt_of_lt_of_le (hC c hc).2 (Nat.pow_le_pow_right (by omega) g2)
        refine hP _ _ _ _ (r_has (ms := sF ms 0 0) (b := cb c) (by omega) (by omega) (hC c hc).1 h29 ?_)
        refine hP _ _ _ _ (And.intro (fun hq => ?_) (fun hq => ?_))
        · have hq := bI_n0 (show ¬ bI ((cb c).testBit s) = 0 from hq)
          iterate 3 refine hP _ _ _ _ ?_
          refine hP _ _ _ _ (r_put (ms := sF ms 0 0) hG hc hs ?_)
          refine hP _ _ _ _ ?_
          refine hP _ _ _ _ (r_changed ?_)
          refine hP _ _ _ _ ?_
          exact hP _ _ _ _ (And.intro rfl (h4 c s hc hs rfl rfl hv hq))
        · have hq : bI ((cb c).testBit s) = 0 := Decidable.of_not_not hq
          exact no 0 (h3 c s hc hs rfl rfl (Or.inr (bI_t.mp hq)))
  have fin : P 15 [some (.ref 26), some (.int x), some (.int y)] [.int (bI (!okB x (n * n))), .int (Int32.ofInt 1), .ref 26] (w_M f ms tl bb) := by
    cases hb : okB x (n * n)
    · refine hP _ _ _ _ (r_fails (b := true) ?_)
      refine hP _ _ _ _ (And.intro (fun _ => ?_) (fun h => absurd (show bI true ≠ 0 by decide) h))
      exact no 1 (h1 hb)
    · obtain ⟨c, hc, hxc⟩ := okB_t hb (by omega)
      refine hP _ _ _ _ (r_fails (b := false) ?_)
      refine hP _ _ _ _ (And.intro (fun h => absurd (show bI false = 0 by decide) (show bI false ≠ 0 from h)) (fun _ => ?_))
      iterate 4 refine hP _ _ _ _ ?_
      refine hP _ _ _ _ (r_isSymbol (ms := sF ms 0 0) hG ?_)
      have fin2 := fin2 c hc hxc
      refine hP _ _ _ _ (And.intro (fun h => ?_) (fun h => ?_))
      · have h : ¬ bI (okB y n) = 0 := h
        rw [bI_n0 h] at fin2
        refine hP _ _ _ _ ?_
        exact fin2
      · have h : bI (okB y n) = 0 := Decidable.of_not_not h
        rw [bI_t.mp h] at fin2
        iterate 2 refine hP _ _ _ _ ?_
        exact fin2
  iterate 4 refine hP _ _ _ _ ?_
  refine hP _ _ _ _ (r_isCell hG ?_)
  rw [okB_nn]
  refine hP _ _ _ _ (And.intro (fun h => ?_) (fun h => ?_))
  · have h : ¬ bI (okB x (n * n)) = 0 := h
    rw [bI_n0 h] at fin
    refine hP _ _ _ _ ?_
    exact fin
  · have h : bI (okB x (n * n)) = 0 := Decidable.of_not_not h
    rw [bI_t.mp h] at fin
    iterate 2 refine hP _ _ _ _ ?_
    exact fin
end M7
