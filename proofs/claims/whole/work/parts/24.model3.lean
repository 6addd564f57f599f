/-! ===== the model: counting, seeing, the lowest bit ===== -/
/-- how many of the first k bits are set -/
def pcA (b : Nat) : Nat → Nat
  | 0 => 0
  | k + 1 => pcA b k + tbN b k
def pcN (b : Nat) : Nat := pcA b 9
section M3
variable {sc : Nat × (Nat → Int32)} {f : Nat → x_C} {ms : x_S} {tl : List x_C} {bb : Nat × Nat} {n w h d : Nat} {Q : x_O → x_H → Prop} {cb : Nat → Nat}
theorem r_countOf {b : Nat} {X : x_H} (hb : b < 512) (hQ : Q (.inl (some (.int (nI (pcN b))))) X) : x_run sc x_MM x_EX (d + 1) k_X8_countOf [.int (nI b)] X Q := by
  refine x_in (M := m_X8_countOf) rfl rfl (Nat.le_of_ble_eq_true rfl) ⟨rfl, trivial⟩ ?_
  intro P hP
  have loop : ∀ j k, k + j = 9 → P 4 [some (.int (nI b)), some (.int (nI (pcA b k))), some (.int (nI k))] [] X := by
    intro j
    induction j with
    | zero =>
      intro k hk
      have hk : k = 9 := hk
      subst hk
      iterate 2 refine hP _ _ _ _ ?_
      refine hP _ _ _ _ (And.intro (fun _ => ?_) (fun h => absurd (show (nI 9) ≤ nI 9 by decide) h))
      refine hP _ _ _ _ ?_
      exact hP _ _ _ _ (hQ)
    | succ j ih =>
      intro k hk
      iterate 2 refine hP _ _ _ _ ?_
      refine hP _ _ _ _ (And.intro (fun h => absurd h (show ¬ nI 9 ≤ nI k from nI_ge (by omega) (by decide))) (fun _ => ?_))
      iterate 9 refine hP _ _ _ _ ?_
      refine hP _ _ _ _ (x_p4 (P := P) (ih (k + 1) (by omega)) ?_ rfl rfl)
      have e : nI (pcA b (k + 1)) = nI (pcA b k) + ((nI b >>> (nI k &&& 31)) &&& Int32.ofInt 1) := by
        rw [oi1, nI_bit (by omega) (by omega), nI_add]; rfl
      rw [e, nI_succ]
      rfl
  iterate 4 refine hP _ _ _ _ ?_
  exact loop 9 0 rfl
theorem r_lowest {b s : Nat} {X : x_H} (hb : b < 512) (hs : s < 9) (h1 : b.testBit s = true) (h2 : ∀ t, t < s → b.testBit t = false) (hQ : Q (.inl (some (.int (nI s)))) X) : x_run sc x_MM x_EX (d + 1) k_X8_lowest [.int (nI b)] X Q := by
  refine x_in (M := m_X8_lowest) rfl rfl (Nat.le_of_ble_eq_true rfl) ⟨rfl, trivial⟩ ?_
  intro P hP
  have key : ∀ k, k < 9 → (nI b >>> (nI k &&& 31)) &&& Int32.ofInt 1 = nI (tbN b k) := fun k hk => by rw [oi1, nI_bit (by omega) (by omega)]
  have loop : ∀ j k, k + j = s → P 2 [some (.int (nI b)), some (.int (nI k))] [] X := by
    intro j
    induction j with
    | zero =>
      intro k hk
      have hk : k = s := hk
      subst hk
      iterate 5 refine hP _ _ _ _ ?_
      refine hP _ _ _ _ (And.intro (fun _ => ?_) (fun h => ?_))
      · refine hP _ _ _ _ ?_
        exact hP _ _ _ _ (hQ)
      · exfalso
        have h : ¬ ((nI b >>> (nI k &&& 31)) &&& Int32.ofInt 1 ≠ 0) := h
        rw [key k hs, z0, ne_eq, tbN_0] at h
        rw [h1] at h
        exact h (by decide)
    | succ j ih =>
      intro k hk
      iterate 5 refine hP _ _ _ _ ?_
      refine hP _ _ _ _ (And.intro (fun h => ?_) (fun _ => ?_))
      · exfalso
        have h : (nI b >>> (nI k &&& 31)) &&& Int32.ofInt 1 ≠ 0 := h
        rw [key k (by omega), z0, ne_eq, tbN_0] at h
        exact h (h2 k (by omega))
      · refine hP _ _ _ _ ?_
        refine hP _ _ _ _ (x_p4 (P := P) (ih (k + 1) (by omega)) ?_ rfl rfl)
        rw [nI_succ]
        rfl
  iterate 2 refine hP _ _ _ _ ?_
  exact loop s 0 (by omega)
theorem boxN_lt {n w h c : Nat} (k : KD n w h) (hc : c < n * n) : boxN n w h c < n := by
  rcases k with ⟨rfl, rfl, rfl⟩ | ⟨rfl, rfl, rfl⟩ | ⟨rfl, rfl, rfl⟩
  · exact (by decide +kernel : ∀ c, c < 16 → boxN 4 2 2 c < 4) c hc
  · exact (by decide +kernel : ∀ c, c < 36 → boxN 6 3 2 c < 6) c hc
  · exact (by decide +kernel : ∀ c, c < 81 → boxN 9 3 3 c < 9) c hc
theorem r_sees (hG : gM ms n w h) {a b : Nat} (ha : a < n * n) (hb : b < n * n) (hQ : Q (.inl (some (.int (bI (seeN n w h a b))))) (w_M f ms tl bb)) : x_run sc x_MM x_EX (d + 2) k_X8_sees [.ref 26, .int (nI a), .int (nI b)] (w_M f ms tl bb) Q := by
  have hG0 := hG
  obtain ⟨h1, h2, h3, hk⟩ := hG
  obtain ⟨g1, g2, g3, g4, g5, g6, g7, g8⟩ := hk.le
  have e1 : ¬ ms.1 1 = 0 := by rw [h1]; exact nI_ne0 (by omega) (by omega)
  have hbx := boxN_lt hk ha
  have hby := boxN_lt hk hb
  have da := Nat.div_le_self a n
  have db := Nat.div_le_self b n
  have ma := Nat.mod_le a n
  have mb := Nat.mod_le b n
  have ed : ∀ c, c < 81 → nI c / ms.1 1 = nI (c / n) := fun c hc => by rw [h1, pk_div (by omega) (by omega) (by omega)]
  have er : ∀ c, c < 81 → nI c - nI c / ms.1 1 * ms.1 1 = nI (c % n) := fun c hc => by rw [h1, pk_rem (by omega) (by omega) (by omega)]
  refine x_in (M := m_X8_sees) rfl rfl (Nat.le_of_ble_eq_true rfl) ⟨rfl, rfl, rfl, trivial⟩ ?_
  intro P hP
  have yes : seeN n w h a b = true → P 48 [some (.ref 26), some (.int (nI a)), some (.int (nI b))] [] (w_M f ms tl bb) := by
    intro hy
    iterate 2 refine hP _ _ _ _ ?_
    refine hP _ _ _ _ (And.intro rfl (x_q1 hQ ?_))
    rw [hy]; rfl
  have no : seeN n w h a b = false → P 52 [some (.ref 26), some (.int (nI a)), some (.int (nI b))] [] (w_M f ms tl bb) := by
    intro hy
    refine hP _ _ _ _ ?_
    refine hP _ _ _ _ (And.intro rfl (x_q1 hQ ?_))
    rw [hy]; rfl
  iterate 2 refine hP _ _ _ _ ?_
  refine hP _ _ _ _ (And.intro (fun hq => ?_) (fun hq => ?_))
  · have hq : nI a = nI b := hq
    rw [nI_eq (by omega) (by omega)] at hq
    exact no (by unfold seeN; simp [hq])
  · have hq : ¬ nI a = nI b := hq
    rw [nI_eq (by omega) (by omega)] at hq
    iterate 3 refine hP _ _ _ _ ?_
    refine hP _ _ _ _ (And.intro e1 ?_)
    iterate 3 refine hP _ _ _ _ ?_
    refine hP _ _ _ _ (And.intro e1 ?_)
    refine hP _ _ _ _ (And.intro (fun hr => ?_) (fun hr => ?_))
    · have hr : nI a / ms.1 1 = nI b / ms.1 1 := hr
      rw [ed a (by omega), ed b (by omega), nI_eq (by omega) (by omega)] at hr
      exact yes (by unfold seeN; simp [hq, hr])
    · have hr : ¬ nI a / ms.1 1 = nI b / ms.1 1 := hr
      rw [ed a (by omega), ed b (by omega), nI_eq (by omega) (by omega)] at hr
      iterate 3 refine hP _ _ _ _ ?_
      refine hP _ _ _ _ (And.intro e1 ?_)
      iterate 3 refine hP _ _ _ _ ?_
      refine hP _ _ _ _ (And.intro e1 ?_)
      refine hP _ _ _ _ (And.intro (fun hc => ?_) (fun hc => ?_))
      · have hc : nI a - nI a / ms.1 1 * ms.1 1 = nI b - nI b / ms.1 1 * ms.1 1 := hc
        rw [er a (by omega), er b (by omega), nI_eq (by omega) (by omega)] at hc
        exact yes (by unfold seeN; simp [hq, hc])
      · have hc : ¬ nI a - nI a / ms.1 1 * ms.1 1 = nI b - nI b / ms.1 1 * ms.1 1 := hc
        rw [er a (by omega), er b (by omega), nI_eq (by omega) (by omega)] at hc
        iterate 2 refine hP _ _ _ _ ?_
        refine hP _ _ _ _ (r_boxOf hG0 (by omega) ?_)
        iterate 2 refine hP _ _ _ _ ?_
        refine hP _ _ _ _ (r_boxOf hG0 (by omega) ?_)
        refine hP _ _ _ _ (And.intro (fun hx => ?_) (fun hx => ?_))
        · have hx : ¬ nI (boxN n w h a) = nI (boxN n w h b) := hx
          rw [nI_eq (by omega) (by omega)] at hx
          exact no (by unfold seeN; simp [hr, hc, hx])
        · have hx : nI (boxN n w h a) = nI (boxN n w h b) := Decidable.of_not_not hx
          rw [nI_eq (by omega) (by omega)] at hx
          exact yes (by unfold seeN; simp [hq, hx])
end M3
