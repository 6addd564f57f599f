/-! ===== the model: take, enable, goes, open symbols, houses ===== -/
/-- how many bits below n go in the first c cells -/
def gbN (go : Nat → Nat) (n : Nat) : Nat → Nat
  | 0 => 0
  | c + 1 => gbN go n c + pcA (go c) n
section M8
variable {sc : Nat × (Nat → Int32)} {f : Nat → x_C} {ms : x_S} {tl : List x_C} {bb : Nat × Nat} {n w h d : Nat} {Q : x_O → x_H → Prop} {cb : Nat → Nat} {go : Nat → Nat}
theorem r_take (hG : gM ms n w h) {vb : Nat → Option Nat} (hC : cM ms n cb) (hV : vM ms n vb) {x y : Int32}
    (h1 : okB x (n * n) = false → Q (.inl (some (.int (bI false)))) (w_M f (sF ms 0 1) tl bb)) (h2 : okB x (n * n) = true → okB y n = false → Q (.inl (some (.int (bI false)))) (w_M f (sF ms 0 2) tl bb))
    (h3 : ∀ c s, c < n * n → s < n → x = nI c → y = nI s → (vb c ≠ none ∨ (cb c).testBit s = false) → Q (.inl (some (.int (bI false)))) (w_M f (sF ms 0 0) tl bb))
    (h4 : ∀ c s, c < n * n → s < n → x = nI c → y = nI s → vb c = none → (cb c).testBit s = true → Q (.inl (some (.int (bI true)))) (w_M f (takeS ms c s) tl bb)) : x_run sc x_MM x_EX (d + 4) k_X8_take [.ref 26, .int x, .int y] (w_M f ms tl bb) Q := by
  obtain ⟨g1, g2, g3, g4, g5, g6, g7, g8⟩ := hG.2.2.2.le
  refine x_in (M := m_X8_take) rfl rfl (Nat.le_of_ble_eq_true rfl) ⟨rfl, rfl, rfl, trivial⟩ ?_
  intro P hP
  have no : ∀ z : Int32, Q (.inl (some (.int (bI false)))) (w_M f (sF ms 0 z) tl bb) → P 60 [some (.ref 26), some (.int x), some (.int y)] [] (w_M f (sF ms 0 z) tl bb) := by
    intro z hq
    refine hP _ _ _ _ ?_
    exact hP _ _ _ _ (And.intro rfl hq)
  have fin2 : ∀ c, c < n * n → x = nI c → P 36 [some (.ref 26), some (.int x), some (.int y)] [.int (bI (!okB y n)), .int (Int32.ofInt 2), .ref 26] (w_M f (sF ms 0 0) tl bb) := by
    intro c hc hxc
    cases hb : okB y n
    · refine hP _ _ _ _ (r_fails (b := true) ?_)
      refine hP _ _ _ _ (And.intro (fun _ => ?_) (fun h => absurd (show bI true ≠ 0 by decide) h))
      exact no 2 (h2 (by rw [hxc]; exact decide_eq_true (by rw [nI_toInt (by omega)]; omega)) hb)
    · obtain ⟨s, hs, rfl⟩ := okB_t hb (by omega)
      subst hxc
      have hcl : (nI c).toNatClampNeg = c := nI_clamp (by omega)
      have hin : vp_in (nI c) 81 := vp_in_nI (by omega) (by omega)
      refine hP _ _ _ _ (r_fails (b := false) ?_)
      refine hP _ _ _ _ (And.intro (fun h => absurd (show bI false = 0 by decide) (show bI false ≠ 0 from h)) (fun _ => ?_))
      iterate 3 refine hP _ _ _ _ ?_
      refine hP _ _ _ _ (And.intro hin ?_)
      refine hP _ _ _ _ (And.intro (fun hv => ?_) (fun hv => ?_))
      · have hv : 0 ≤ ms.2 28 (nI c).toNatClampNeg := hv
        rw [hcl, (hV c hc).1, vI_neg (fun t ht => by have := (hV c hc).2 t ht; omega)] at hv
        exact no 0 (h3 c s hc hs rfl rfl (Or.inl hv))
      · have hv : ¬ 0 ≤ ms.2 28 (nI c).toNatClampNeg := hv
        rw [hcl, (hV c hc).1, vI_neg (fun t ht => by have := (hV c hc).2 t ht; omega)] at hv
        have hv : vb c = none := Decidable.of_not_not hv
        iterate 3 refine hP _ _ _ _ ?_
        have h29 : cb c < 512 := Nat.lt_of_lt_of_le (hC c hc).2 (Nat.pow_le_pow_right (by omega) g2)
        refine hP _ _ _ _ (r_has (ms := sF ms 0 0) (b := cb c) (by omega) (by omega) (hC c hc).1 h29 ?_)
        refine hP _ _ _ _ (And.intro (fun hq => ?_) (fun hq => ?_))
        · have hq := bI_n0 (show ¬ bI ((cb c).testBit s) = 0 from hq)
          have hsh : Int32.ofInt 1 <<< (nI s &&& 31) = nI (2 ^ s) := by
            rw [oi1, nI_shl (by omega), Nat.one_mul]
            have : 2 ^ s ≤ 2 ^ 9 := Nat.pow_le_pow_right (by omega) (by omega)
            omega
          iterate 6 refine hP _ _ _ _ ?_
          refine hP _ _ _ _ (And.intro hin ?_)
          iterate 6 refine hP _ _ _ _ ?_
          refine hP _ _ _ _ (And.intro hin ?_)
          refine hP _ _ _ _ ?_
          have hA : upd (ms.2 27) (nI c).toNatClampNeg (ms.2 27 (nI c).toNatClampNeg &&& (Int32.ofInt 1 <<< (nI s &&& 31) ^^^ Int32.ofInt (-1))) = upd (ms.2 27) c (ms.2 27 c &&& (nI (2 ^ s) ^^^ (-1))) := by rw [hcl, hsh]; rfl
          refine hP _ _ _ _ (x_rX (r_changed (f := f) (tl := tl) (bb := (0, 0)) (ms := sA (sF ms 0 0) 27 (upd (ms.2 27) c (ms.2 27 c &&& (nI (2 ^ s) ^^^ (-1))))) ?_) rfl ?_)
          · refine hP _ _ _ _ ?_
            exact hP _ _ _ _ (And.intro rfl (h4 c s hc hs rfl rfl hv hq))
          · rw [← hA]
            rfl
        · have hq : bI ((cb c).testBit s) = 0 := Decidable.of_not_not hq
          exact no 0 (h3 c s hc hs rfl rfl (Or.inr (bI_t.mp hq)))
  have fin : P 15 [some (.ref 26), some (.int x), some (.int y)] [.int (bI (!okB x (n * n))), .int (Int32.ofInt 1), .ref 26] (w_M f ms tl bb) := by
    cases hb : okB x (n * n)
    · refine hP _ _ _ _ (r_fails (b := true) ?_)
      refine hP _ _ _ _ (And.intro (fun _ => ?_) (fun h => absurd (show bI true ≠ 0 by decide) h))
      exact no 1 (h1 hb)
    · obtain ⟨c, hc, hxc⟩ := okB_t hb (by omega)
      refine hP _ _ _ _ (r_fails (b := false) ?_)
      refine hP _ _ _ _ (And.intro (fun h => absurd (show bI false = 0 by decide) (show bI false ≠ 0 from h)) (fun _ => ?_))
      iterate 4 refine hP _ _ _ _ ?_
      refine hP _ _ _ _ (r_isSymbol (ms := sF ms 0 0) hG ?_)
      have fin2 := fin2 c hc hxc
      refine hP _ _ _ _ (And.intro (fun h => ?_) (fun h => ?_))
      · have h : ¬ bI (okB y n) = 0 := h
        rw [bI_n0 h] at fin2
        refine hP _ _ _ _ ?_
        exact fin2
      · have h : bI (okB y n) = 0 := Decidable.of_not_not h
        rw [bI_t.mp h] at fin2
        iterate 2 refine hP _ _ _ _ ?_
        exact fin2
  iterate 4 refine hP _ _ _ _ ?_
  refine hP _ _ _ _ (r_isCell hG ?_)
  rw [okB_nn]
  refine hP _ _ _ _ (And.intro (fun h => ?_) (fun h => ?_))
  · have h : ¬ bI (okB x (n * n)) = 0 := h
    rw [bI_n0 h] at fin
    refine hP _ _ _ _ ?_
    exact fin
  · have h : bI (okB x (n * n)) = 0 := Decidable.of_not_not h
    rw [bI_t.mp h] at fin
    iterate 2 refine hP _ _ _ _ ?_
    exact fin
def fM (ms : x_S) (off : Nat → Bool) : Prop := ∀ k, k < 19 → ms.2 29 k = bI (off k)
theorem r_enable {off : Nat → Bool} (hO : fM ms off) {x : Int32} {b : Bool}
    (h1 : okB x 19 = false → Q (.inl (some (.int (bI false)))) (w_M f (sF ms 0 1) tl bb))
    (h2 : ∀ k, k < 19 → x = nI k → off k ≠ b → Q (.inl (some (.int (bI false)))) (w_M f (sF ms 0 0) tl bb))
    (h3 : ∀ k, k < 19 → x = nI k → off k = b → Q (.inl (some (.int (bI true)))) (w_M f (sF (sA (sF ms 0 0) 29 (upd (ms.2 29) k (bI (!b)))) 8 (-1)) tl bb)) : x_run sc x_MM x_EX (d + 2) k_X8_enable [.ref 26, .int x, .int (bI b)] (w_M f ms tl bb) Q := by
  refine x_in (M := m_X8_enable) rfl rfl (Nat.le_of_ble_eq_true rfl) ⟨rfl, rfl, rfl, trivial⟩ ?_
  intro P hP
  have no : ∀ z : Int32, Q (.inl (some (.int (bI false)))) (w_M f (sF ms 0 z) tl bb) → P 33 [some (.ref 26), some (.int x), some (.int (bI b))] [] (w_M f (sF ms 0 z) tl bb) := by
    intro z hq
    refine hP _ _ _ _ ?_
    exact hP _ _ _ _ (And.intro rfl hq)
  have fin : P 17 [some (.ref 26), some (.int x), some (.int (bI b))] [.int (bI (!okB x 19)), .int (Int32.ofInt 1), .ref 26] (w_M f ms tl bb) := by
    cases hb : okB x 19
    · refine hP _ _ _ _ (r_fails (b := true) ?_)
      refine hP _ _ _ _ (And.intro (fun _ => ?_) (fun h => absurd (show bI true ≠ 0 by decide) h))
      exact no 1 (h1 hb)
    · obtain ⟨k, hk, rfl⟩ := okB_t hb (by omega)
      have hcl : (nI k).toNatClampNeg = k := nI_clamp (by omega)
      have hin : vp_in (nI k) 19 := vp_in_nI hk (by omega)
      refine hP _ _ _ _ (r_fails (b := false) ?_)
      refine hP _ _ _ _ (And.intro (fun h => absurd (show bI false = 0 by decide) (show bI false ≠ 0 from h)) (fun _ => ?_))
      iterate 3 refine hP _ _ _ _ ?_
      refine hP _ _ _ _ (And.intro hin ?_)
      refine hP _ _ _ _ ?_
      refine hP _ _ _ _ (And.intro (fun hq => ?_) (fun hq => ?_))
      · have hq : ms.2 29 (nI k).toNatClampNeg = bI b := hq
        rw [hcl, hO k hk] at hq
        have hq : off k = b := by cases h8 : off k <;> cases h9 : b <;> rw [h8, h9] at hq <;> first | rfl | exact absurd hq (by decide)
        have h3 := h3 k hk rfl hq
        have st : P 49 [some (.ref 26), some (.int (nI k)), some (.int (bI b))] [.int (bI (!b)), .int (nI k), .ref 29] (w_M f (sF ms 0 0) tl bb) := by
          refine hP _ _ _ _ (And.intro hin ?_)
          iterate 4 refine hP _ _ _ _ ?_
          refine hP _ _ _ _ (And.intro rfl (x_q2 h3 ?_))
          rw [hcl, bI_nb]
          rfl
        iterate 4 refine hP _ _ _ _ ?_
        cases b
        · refine hP _ _ _ _ (And.intro (fun h => absurd (show bI false = 0 by decide) (show bI false ≠ 0 from h)) (fun _ => ?_))
          iterate 2 refine hP _ _ _ _ ?_
          exact st
        · refine hP _ _ _ _ (And.intro (fun _ => ?_) (fun h => absurd (show bI true ≠ 0 by decide) h))
          refine hP _ _ _ _ ?_
          exact st
      · have hq : ¬ ms.2 29 (nI k).toNatClampNeg = bI b := hq
        rw [hcl, hO k hk] at hq
        exact no 0 (h2 k hk rfl (fun e => hq (by rw [e])))
  iterate 3 refine hP _ _ _ _ ?_
  refine hP _ _ _ _ (And.intro (fun h => ?_) (fun h => ?_))
  · have h : x < 0 := h
    rw [i32_neg] at h
    have hb : okB x 19 = false := decide_eq_false (by omega)
    rw [hb] at fin
    iterate 2 refine hP _ _ _ _ ?_
    exact fin
  · have h : ¬ x < 0 := h
    rw [i32_neg] at h
    iterate 2 refine hP _ _ _ _ ?_
    refine hP _ _ _ _ (And.intro (fun h2 => ?_) (fun h2 => ?_))
    · have h2 : x < (Int8.ofInt 19).toInt32 := h2
      rw [ob19, i32_lt (by omega)] at h2
      have hb : okB x 19 = true := decide_eq_true (by omega)
      rw [hb] at fin
      refine hP _ _ _ _ ?_
      exact fin
    · have h2 : ¬ x < (Int8.ofInt 19).toInt32 := h2
      rw [ob19, i32_lt (by omega)] at h2
      have hb : okB x 19 = false := decide_eq_false (by omega)
      rw [hb] at fin
      iterate 2 refine hP _ _ _ _ ?_
      exact fin
theorem r_apply (hG : gM ms n w h) {D k : Nat} {r : Option (Nat × Nat)} (hD : ms.1 16 = nI D) (hD8 : D < 820) (hS : ms.1 8 = -1 ∨ (ms.1 8 = nI k ∧ k < 19 ∧ setM ms n r)) (hN : ms.1 8 = -1 → Q (.inl (some (.int (bI false)))) (w_M f (sF ms 0 0) tl bb)) (hT : ms.1 8 = nI k → Q (.inl (some (.int (bI true)))) (w_M f (actM (sF ms 0 0) n w h D k r) tl bb)) : x_run sc x_MM x_EX (d + 5) k_X8_apply [.ref 26] (w_M f ms tl bb) Q := by
  refine x_in (M := m_X8_apply) rfl rfl (Nat.le_of_ble_eq_true rfl) ⟨rfl, trivial⟩ ?_
  intro P hP
  iterate 5 refine hP _ _ _ _ ?_
  refine hP _ _ _ _ (And.intro (fun hq => ?_) (fun hq => ?_))
  · have hq : 0 ≤ ms.1 8 := hq
    rcases hS with e | ⟨e, hk, hr⟩
    · rw [e] at hq; exact absurd hq (by decide)
    · refine hP _ _ _ _ ?_
      refine hP _ _ _ _ (r_act (ms := sF ms 0 0) hG hD hD8 e hk (r := r) (by cases r <;> exact hr) ?_)
      refine hP _ _ _ _ ?_
      exact hP _ _ _ _ (And.intro rfl (hT e))
  · have hq : ¬ 0 ≤ ms.1 8 := hq
    rcases hS with e | ⟨e, hk, hr⟩
    · refine hP _ _ _ _ ?_
      exact hP _ _ _ _ (And.intro rfl (hN e))
    · exact absurd (show 0 ≤ ms.1 8 by rw [e]; exact nI_pos' (by omega)) hq
/-- no cell of house g is set to s -/
def opN (vb : Nat → Option Nat) (n w h g s : Nat) : Prop := ∀ i, i < n → vb (atN n w h g i) ≠ some s
theorem r_isOpenIn (hG : gM ms n w h) {vb : Nat → Option Nat} (hV : vM ms n vb) {g s : Nat} (hg : g < 3 * n) (hs : s < n) (hT : opN vb n w h g s → Q (.inl (some (.int (bI true)))) (w_M f ms tl bb)) (hF : ¬ opN vb n w h g s → Q (.inl (some (.int (bI false)))) (w_M f ms tl bb)) : x_run sc x_MM x_EX (d + 2) k_X8_isOpenIn [.ref 26, .int (nI g), .int (nI s)] (w_M f ms tl bb) Q := by
  obtain ⟨g1, g2, g3, g4, g5, g6, g7, g8⟩ := hG.2.2.2.le
  refine x_in (M := m_X8_isOpenIn) rfl rfl (Nat.le_of_ble_eq_true rfl) ⟨rfl, rfl, rfl, trivial⟩ ?_
  intro P hP
  have loop : ∀ j k, k + j = n → (∀ i, i < k → vb (atN n w h g i) ≠ some s) → P 2 [some (.ref 26), some (.int (nI g)), some (.int (nI s)), some (.int (nI k))] [] (w_M f ms tl bb) := by
    intro j
    induction j with
    | zero =>
      intro k hk hz
      have hk : k = n := hk
      subst hk
      iterate 3 refine hP _ _ _ _ ?_
      refine hP _ _ _ _ (And.intro (fun _ => ?_) (fun h => absurd (show ms.1 1 ≤ nI k by rw [hG.1]; exact nI_le (Nat.le_refl _) (by omega)) h))
      refine hP _ _ _ _ ?_
      exact hP _ _ _ _ (And.intro rfl (hT hz))
    | succ j ih =>
      intro k hk hz
      have hat := atN_lt (w := w) (h := h) hG.2.2.2 hg (show k < n by omega)
      have hcl : (nI (atN n w h g k)).toNatClampNeg = atN n w h g k := nI_clamp (by omega)
      iterate 3 refine hP _ _ _ _ ?_
      refine hP _ _ _ _ (And.intro (fun h => absurd (show ms.1 1 ≤ nI k from h) (by rw [hG.1]; exact nI_ge (by omega) (by omega))) (fun _ => ?_))
      iterate 5 refine hP _ _ _ _ ?_
      refine hP _ _ _ _ (r_at hG hg (by omega) ?_)
      refine hP _ _ _ _ (And.intro (vp_in_nI (by omega) (by omega)) ?_)
      refine hP _ _ _ _ ?_
      have hvI : (vI (vb (atN n w h g k)) = nI s) ↔ vb (atN n w h g k) = some s := by
        cases hv : vb (atN n w h g k) with
        | none =>
          constructor
          · intro e
            have e2 : (-1 : Int32) = nI s := e
            have e3 := congrArg Int32.toInt e2
            rw [nI_toInt (by omega)] at e3
            have e4 : (-1 : Int32).toInt = -1 := by decide
            omega
          · intro e; cases e
        | some t =>
          have ht := (hV _ hat).2 t hv
          constructor
          · intro e
            have e2 : nI t = nI s := e
            rw [nI_eq (by omega) (by omega)] at e2
            rw [e2]
          · intro e
            cases e
            rfl
      refine hP _ _ _ _ (And.intro (fun hq => ?_) (fun hq => ?_))
      · have hq : ¬ ms.2 28 (nI (atN n w h g k)).toNatClampNeg = nI s := hq
        rw [hcl, (hV _ hat).1, hvI] at hq
        refine hP _ _ _ _ ?_
        refine hP _ _ _ _ (x_p4 (P := P) (ih (k + 1) (by omega) ?_) ?_ rfl rfl)
        · intro i hi
          by_cases hik : i = k
          · rw [hik]; exact hq
          · exact hz i (by omega)
        · rw [nI_succ]; rfl
      · have hq : ms.2 28 (nI (atN n w h g k)).toNatClampNeg = nI s := Decidable.of_not_not hq
        rw [hcl, (hV _ hat).1, hvI] at hq
        refine hP _ _ _ _ ?_
        exact hP _ _ _ _ (And.intro rfl (hF (fun ho => ho k (by omega) hq)))
  iterate 2 refine hP _ _ _ _ ?_
  exact loop n 0 (by omega) (fun i hi => absurd hi (Nat.not_lt_zero i))
end M8
