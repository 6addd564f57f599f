/-! ===== the model: houses, candidates, places ===== -/
def atI (n w h g i : Int32) : Int32 := n * ((g - nI 2 * n) / (n / w) * h + i / w) + ((g - nI 2 * n - (g - nI 2 * n) / (n / w) * (n / w)) * w + (i - i / w * w))
theorem atI_4 : ∀ g, g < 12 → 8 ≤ g → ∀ i, i < 4 → atI (nI 4) (nI 2) (nI 2) (nI g) (nI i) = nI (atN 4 2 2 g i) := by decide +kernel
theorem atI_6 : ∀ g, g < 18 → 12 ≤ g → ∀ i, i < 6 → atI (nI 6) (nI 3) (nI 2) (nI g) (nI i) = nI (atN 6 3 2 g i) := by decide +kernel
theorem atI_9 : ∀ g, g < 27 → 18 ≤ g → ∀ i, i < 9 → atI (nI 9) (nI 3) (nI 3) (nI g) (nI i) = nI (atN 9 3 3 g i) := by decide +kernel
theorem atI_ok {n w h g i : Nat} (k : KD n w h) (hg : g < 3 * n) (hg2 : 2 * n ≤ g) (hi : i < n) : atI (nI n) (nI w) (nI h) (nI g) (nI i) = nI (atN n w h g i) := by
  rcases k with ⟨rfl, rfl, rfl⟩ | ⟨rfl, rfl, rfl⟩ | ⟨rfl, rfl, rfl⟩
  · exact atI_4 g hg hg2 i hi
  · exact atI_6 g hg hg2 i hi
  · exact atI_9 g hg hg2 i hi
theorem atN_lt {n w h g i : Nat} (k : KD n w h) (hg : g < 3 * n) (hi : i < n) : atN n w h g i < n * n := by
  rcases k with ⟨rfl, rfl, rfl⟩ | ⟨rfl, rfl, rfl⟩ | ⟨rfl, rfl, rfl⟩
  · exact (by decide +kernel : ∀ g, g < 12 → ∀ i, i < 4 → atN 4 2 2 g i < 4 * 4) g hg i hi
  · exact (by decide +kernel : ∀ g, g < 18 → ∀ i, i < 6 → atN 6 3 2 g i < 6 * 6) g hg i hi
  · exact (by decide +kernel : ∀ g, g < 27 → ∀ i, i < 9 → atN 9 3 3 g i < 9 * 9) g hg i hi
/-- the candidates, as numbers of n bits -/
def cM (ms : x_S) (n : Nat) (cb : Nat → Nat) : Prop := ∀ c, c < n * n → ms.2 27 c = nI (cb c) ∧ cb c < 2 ^ n
section M2
variable {sc : Nat × (Nat → Int32)} {f : Nat → x_C} {ms : x_S} {tl : List x_C} {bb : Nat × Nat} {n w h d : Nat} {Q : x_O → x_H → Prop} {cb : Nat → Nat}
theorem r_at (hG : gM ms n w h) {g i : Nat} (hg : g < 3 * n) (hi : i < n) (hQ : Q (.inl (some (.int (nI (atN n w h g i))))) (w_M f ms tl bb)) : x_run sc x_MM x_EX (d + 1) k_X8_at [.ref 26, .int (nI g), .int (nI i)] (w_M f ms tl bb) Q := by
  obtain ⟨h1, h2, h3, hk⟩ := hG
  obtain ⟨g1, g2, g3, g4, g5, g6, g7, g8⟩ := hk.le
  have e2 : ¬ ms.1 2 = 0 := by rw [h2]; exact nI_ne0 (by omega) (by omega)
  have e4 : ¬ ms.1 1 / ms.1 2 = 0 := by
    rw [h1, h2]
    rcases hk with ⟨rfl, rfl, rfl⟩ | ⟨rfl, rfl, rfl⟩ | ⟨rfl, rfl, rfl⟩ <;> decide
  have hmul : nI 2 * nI n = nI (2 * n) := pk_mul 2 n
  refine x_in (M := m_X8_at) rfl rfl (Nat.le_of_ble_eq_true rfl) ⟨rfl, rfl, rfl, trivial⟩ ?_
  intro P hP
  iterate 3 refine hP _ _ _ _ ?_
  refine hP _ _ _ _ (And.intro (fun hb => ?_) (fun hb => ?_))
  · have hb : ms.1 1 ≤ nI g := hb
    rw [h1, nI_leI (by omega) (by omega)] at hb
    iterate 5 refine hP _ _ _ _ ?_
    refine hP _ _ _ _ (And.intro (fun hb2 => ?_) (fun hb2 => ?_))
    · have hb2 : nI 2 * ms.1 1 ≤ nI g := hb2
      rw [h1, hmul, nI_leI (by omega) (by omega)] at hb2
      iterate 12 refine hP _ _ _ _ ?_
      refine hP _ _ _ _ (And.intro e2 ?_)
      refine hP _ _ _ _ (And.intro e4 ?_)
      iterate 6 refine hP _ _ _ _ ?_
      refine hP _ _ _ _ (And.intro e2 ?_)
      iterate 7 refine hP _ _ _ _ ?_
      refine hP _ _ _ _ (And.intro e2 ?_)
      refine hP _ _ _ _ (And.intro e4 ?_)
      iterate 6 refine hP _ _ _ _ ?_
      refine hP _ _ _ _ (And.intro e2 ?_)
      iterate 8 refine hP _ _ _ _ ?_
      refine hP _ _ _ _ (x_q1 hQ ?_)
      rw [← atI_ok hk hg hb2 hi, ← h1, ← h2, ← h3]
      rfl
    · have hb2 : ¬ nI 2 * ms.1 1 ≤ nI g := hb2
      rw [h1, hmul, nI_leI (by omega) (by omega)] at hb2
      iterate 9 refine hP _ _ _ _ ?_
      refine hP _ _ _ _ (x_q1 hQ ?_)
      rw [h1, pk_mul, nI_add, pk_sub (by omega)]
      unfold atN
      rw [if_neg (by omega), if_pos (by omega)]
  · have hb : ¬ ms.1 1 ≤ nI g := hb
    rw [h1, nI_leI (by omega) (by omega)] at hb
    iterate 6 refine hP _ _ _ _ ?_
    refine hP _ _ _ _ (x_q1 hQ ?_)
    rw [h1, pk_mul, nI_add]
    unfold atN
    rw [if_pos (by omega)]
theorem r_has {c s b : Nat} (hc : c < 81) (hs : s < 32) (hb : ms.2 27 c = nI b) (hb9 : b < 512) (hQ : Q (.inl (some (.int (bI (b.testBit s))))) (w_M f ms tl bb)) : x_run sc x_MM x_EX (d + 1) k_X8_has [.ref 26, .int (nI c), .int (nI s)] (w_M f ms tl bb) Q := by
  have hcl : (nI c).toNatClampNeg = c := nI_clamp (by omega)
  have key : ∀ x : Int32, x = nI 1 → ((ms.2 27 (nI c).toNatClampNeg >>> (nI s &&& 31)) &&& x = nI 1 ↔ b.testBit s = true) := by
    intro x hx
    rw [hx, hcl, hb, nI_bit (by omega) hs]
    exact tbN_1
  refine x_in (M := m_X8_has) rfl rfl (Nat.le_of_ble_eq_true rfl) ⟨rfl, rfl, rfl, trivial⟩ ?_
  intro P hP
  iterate 3 refine hP _ _ _ _ ?_
  refine hP _ _ _ _ (And.intro (vp_in_nI hc (by omega)) ?_)
  iterate 5 refine hP _ _ _ _ ?_
  refine hP _ _ _ _ (And.intro (fun h => ?_) (fun h => ?_))
  · have h : ¬ ((ms.2 27 (nI c).toNatClampNeg >>> (nI s &&& 31)) &&& Int32.ofInt 1 = nI 1) := h
    rw [key _ oi1] at h
    refine hP _ _ _ _ ?_
    refine hP _ _ _ _ (And.intro rfl (x_q1 hQ ?_))
    cases hbit : b.testBit s
    · rfl
    · exact absurd hbit h
  · have h : (ms.2 27 (nI c).toNatClampNeg >>> (nI s &&& 31)) &&& Int32.ofInt 1 = nI 1 := Decidable.of_not_not h
    rw [key _ oi1] at h
    iterate 2 refine hP _ _ _ _ ?_
    refine hP _ _ _ _ (And.intro rfl (x_q1 hQ ?_))
    rw [h]
    rfl
/-- the places of s in house g among its first k cells, as bits -/
def plB (cb : Nat → Nat) (n w h g s : Nat) : Nat → Nat
  | 0 => 0
  | k + 1 => plB cb n w h g s k ||| (if (cb (atN n w h g k)).testBit s then 2 ^ k else 0)
theorem r_places (hG : gM ms n w h) (hC : cM ms n cb) {g s : Nat} (hg : g < 3 * n) (hs : s < n) (hQ : Q (.inl (some (.int (nI (plB cb n w h g s n))))) (w_M f ms tl bb)) : x_run sc x_MM x_EX (d + 2) k_X8_places [.ref 26, .int (nI g), .int (nI s)] (w_M f ms tl bb) Q := by
  obtain ⟨g1, g2, g3, g4, g5, g6, g7, g8⟩ := hG.2.2.2.le
  refine x_in (M := m_X8_places) rfl rfl (Nat.le_of_ble_eq_true rfl) ⟨rfl, rfl, rfl, trivial⟩ ?_
  intro P hP
  have loop : ∀ j k, k + j = n → P 5 [some (.ref 26), some (.int (nI g)), some (.int (nI s)), some (.int (nI (plB cb n w h g s k))), some (.int (nI k))] [] (w_M f ms tl bb) := by
    intro j
    induction j with
    | zero =>
      intro k hk
      have hk : k = n := hk
      subst hk
      iterate 3 refine hP _ _ _ _ ?_
      refine hP _ _ _ _ (And.intro (fun _ => ?_) (fun h => absurd (show ms.1 1 ≤ nI k by rw [hG.1]; exact nI_le (Nat.le_refl _) (by omega)) h))
      refine hP _ _ _ _ ?_
      exact hP _ _ _ _ (hQ)
    | succ j ih =>
      intro k hk
      iterate 3 refine hP _ _ _ _ ?_
      refine hP _ _ _ _ (And.intro (fun h => absurd (show ms.1 1 ≤ nI k from h) (by rw [hG.1]; exact nI_ge (by omega) (by omega))) (fun _ => ?_))
      iterate 5 refine hP _ _ _ _ ?_
      refine hP _ _ _ _ (r_at hG hg (by omega) ?_)
      refine hP _ _ _ _ ?_
      have hat := atN_lt (w := w) (h := h) hG.2.2.2 hg (show k < n by omega)
      have h29 : cb (atN n w h g k) < 512 := Nat.lt_of_lt_of_le (hC _ hat).2 (Nat.pow_le_pow_right (by omega) g2)
      refine hP _ _ _ _ (r_has (by omega) (by omega) (hC _ hat).1 h29 ?_)
      have hstep : ∀ x : Int32, x = nI (if (cb (atN n w h g k)).testBit s then 2 ^ k else 0) → nI (plB cb n w h g s k) ||| x = nI (plB cb n w h g s (k + 1)) := by
        intro x hx
        rw [hx, nx_or]
        rfl
      refine hP _ _ _ _ (And.intro (fun hz => ?_) (fun hz => ?_))
      · have hz : bI ((cb (atN n w h g k)).testBit s) = 0 := hz
        rw [bI_t] at hz
        iterate 4 refine hP _ _ _ _ ?_
        refine hP _ _ _ _ (x_p4 (P := P) (ih (k + 1) (by omega)) ?_ rfl rfl)
        rw [← hstep (Int32.ofInt 0) (by rw [hz]; exact oi0), nI_succ]
        rfl
      · have hz : ¬ bI ((cb (atN n w h g k)).testBit s) = 0 := hz
        rw [bI_t] at hz
        have hz : (cb (atN n w h g k)).testBit s = true := by cases hh : (cb (atN n w h g k)).testBit s with | true => rfl | false => exact absurd hh hz
        iterate 7 refine hP _ _ _ _ ?_
        refine hP _ _ _ _ (x_p4 (P := P) (ih (k + 1) (by omega)) ?_ rfl rfl)
        rw [← hstep (Int32.ofInt 1 <<< (nI k &&& 31)) (by
          rw [hz, oi1, nI_shl (by omega) ?_, Nat.one_mul]
          · rfl
          · have : 2 ^ k ≤ 2 ^ 9 := Nat.pow_le_pow_right (by omega) (by omega)
            omega), nI_succ]
        rfl
  iterate 4 refine hP _ _ _ _ ?_
  exact loop n 0 (by omega)
end M2
