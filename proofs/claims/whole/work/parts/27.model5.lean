/-! ===== the model: what is found is read ===== -/
/-- how many of the first k are in it -/
def rcN (rs : Nat → Bool) : Nat → Nat
  | 0 => 0
  | k + 1 => rcN rs k + (if rs k then 1 else 0)
theorem rcN_le (rs : Nat → Bool) : ∀ k, rcN rs k ≤ k
  | 0 => Nat.le_refl _
  | k + 1 => by
    have h := rcN_le rs k
    unfold rcN
    split <;> omega
/-- how many bits go in the first k cells -/
def gcN (go : Nat → Nat) : Nat → Nat
  | 0 => 0
  | k + 1 => gcN go k + pcN (go k)
theorem pcA_le (b : Nat) : ∀ k, pcA b k ≤ k
  | 0 => Nat.le_refl _
  | k + 1 => by
    have h := pcA_le b k
    unfold pcA tbN
    split <;> omega
theorem gcN_le (go : Nat → Nat) : ∀ k, gcN go k ≤ 9 * k
  | 0 => Nat.le_refl _
  | k + 1 => by
    have h := gcN_le go k
    have h2 := pcA_le (go k) 9
    unfold gcN pcN
    omega
def rM (ms : x_S) (rs : Nat → Bool) : Prop := ∀ c, c < 81 → ms.2 31 c = bI (rs c)
def oM (ms : x_S) (go : Nat → Nat) : Prop := ∀ c, c < 81 → ms.2 32 c = nI (go c) ∧ go c < 512
section M5
variable {sc : Nat × (Nat → Int32)} {f : Nat → x_C} {ms : x_S} {tl : List x_C} {bb : Nat × Nat} {n w h d : Nat} {Q : x_O → x_H → Prop} {rs : Nat → Bool} {go : Nat → Nat}
theorem r_reasonMany (hR : rM ms rs) (hQ : Q (.inl (some (.int (nI (rcN rs 81))))) (w_M f ms tl bb)) : x_run sc x_MM x_EX (d + 1) k_X8_reasonMany [.ref 26] (w_M f ms tl bb) Q := by
  refine x_in (M := m_X8_reasonMany) rfl rfl (Nat.le_of_ble_eq_true rfl) ⟨rfl, trivial⟩ ?_
  intro P hP
  have loop : ∀ j k, k + j = 81 → P 4 [some (.ref 26), some (.int (nI (rcN rs k))), some (.int (nI k))] [] (w_M f ms tl bb) := by
    intro j
    induction j with
    | zero =>
      intro k hk
      have hk : k = 81 := hk
      subst hk
      iterate 2 refine hP _ _ _ _ ?_
      refine hP _ _ _ _ (And.intro (fun _ => ?_) (fun h => absurd (show (Int8.ofInt 81).toInt32 ≤ nI 81 by decide) h))
      refine hP _ _ _ _ ?_
      exact hP _ _ _ _ (hQ)
    | succ j ih =>
      intro k hk
      have hcl : (nI k).toNatClampNeg = k := nI_clamp (by omega)
      have hin : vp_in (nI k) 81 := vp_in_nI (by omega) (by omega)
      iterate 2 refine hP _ _ _ _ ?_
      refine hP _ _ _ _ (And.intro (fun h => absurd (show (Int8.ofInt 81).toInt32 ≤ nI k from h) (by rw [ob81]; exact nI_ge (by omega) (by omega))) (fun _ => ?_))
      iterate 4 refine hP _ _ _ _ ?_
      refine hP _ _ _ _ (And.intro hin ?_)
      have hst : ∀ x : Int32, x = nI (if rs k then 1 else 0) → nI (rcN rs (k + 1)) = nI (rcN rs k) + x := fun x hx => by rw [hx, nI_add]; rfl
      refine hP _ _ _ _ (And.intro (fun h => ?_) (fun h => ?_))
      · have h : ms.2 31 (nI k).toNatClampNeg = 0 := h
        rw [hcl, hR k (by omega), bI_t] at h
        iterate 4 refine hP _ _ _ _ ?_
        refine hP _ _ _ _ (x_p4 (P := P) (ih (k + 1) (by omega)) ?_ rfl rfl)
        rw [hst (Int32.ofInt 0) (by rw [h]; exact oi0), nI_succ]; rfl
      · have h : ¬ ms.2 31 (nI k).toNatClampNeg = 0 := h
        rw [hcl, hR k (by omega), bI_t] at h
        have h : rs k = true := by cases hh : rs k with | true => rfl | false => exact absurd hh h
        iterate 5 refine hP _ _ _ _ ?_
        refine hP _ _ _ _ (x_p4 (P := P) (ih (k + 1) (by omega)) ?_ rfl rfl)
        rw [hst (Int32.ofInt 1) (by rw [h]; exact oi1), nI_succ]; rfl
  iterate 4 refine hP _ _ _ _ ?_
  exact loop 81 0 rfl
theorem r_goMany (hO : oM ms go) (hQ : Q (.inl (some (.int (nI (gcN go 81))))) (w_M f ms tl bb)) : x_run sc x_MM x_EX (d + 2) k_X8_goMany [.ref 26] (w_M f ms tl bb) Q := by
  refine x_in (M := m_X8_goMany) rfl rfl (Nat.le_of_ble_eq_true rfl) ⟨rfl, trivial⟩ ?_
  intro P hP
  have loop : ∀ j k, k + j = 81 → P 4 [some (.ref 26), some (.int (nI (gcN go k))), some (.int (nI k))] [] (w_M f ms tl bb) := by
    intro j
    induction j with
    | zero =>
      intro k hk
      have hk : k = 81 := hk
      subst hk
      iterate 2 refine hP _ _ _ _ ?_
      refine hP _ _ _ _ (And.intro (fun _ => ?_) (fun h => absurd (show (Int8.ofInt 81).toInt32 ≤ nI 81 by decide) h))
      refine hP _ _ _ _ ?_
      exact hP _ _ _ _ (hQ)
    | succ j ih =>
      intro k hk
      have hcl : (nI k).toNatClampNeg = k := nI_clamp (by omega)
      have hin : vp_in (nI k) 81 := vp_in_nI (by omega) (by omega)
      have hgo : ms.2 32 (nI k).toNatClampNeg = nI (go k) := by rw [hcl]; exact (hO k (by omega)).1
      iterate 2 refine hP _ _ _ _ ?_
      refine hP _ _ _ _ (And.intro (fun h => absurd (show (Int8.ofInt 81).toInt32 ≤ nI k from h) (by rw [ob81]; exact nI_ge (by omega) (by omega))) (fun _ => ?_))
      iterate 4 refine hP _ _ _ _ ?_
      refine hP _ _ _ _ (And.intro hin ?_)
      rw [hgo]
      refine hP _ _ _ _ (r_countOf (hO k (by omega)).2 ?_)
      iterate 3 refine hP _ _ _ _ ?_
      refine hP _ _ _ _ (x_p4 (P := P) (ih (k + 1) (by omega)) ?_ rfl rfl)
      rw [show nI (gcN go (k + 1)) = nI (gcN go k) + nI (pcN (go k)) from (nI_add _ _).symm, nI_succ]; rfl
  iterate 4 refine hP _ _ _ _ ?_
  exact loop 81 0 rfl
theorem r_reasonAt (hR : rM ms rs) {x : Int32} (hT : ∀ c, c < 81 → rs c = true → x = nI (rcN rs c) → Q (.inl (some (.int (nI c)))) (w_M f ms tl bb)) (hF : (∀ c, c < 81 → rs c = true → x ≠ nI (rcN rs c)) → Q (.inl (some (.int (-1)))) (w_M f ms tl bb)) : x_run sc x_MM x_EX (d + 1) k_X8_reasonAt [.ref 26, .int x] (w_M f ms tl bb) Q := by
  refine x_in (M := m_X8_reasonAt) rfl rfl (Nat.le_of_ble_eq_true rfl) ⟨rfl, rfl, trivial⟩ ?_
  intro P hP
  have loop : ∀ j k, k + j = 81 → (∀ c, c < k → rs c = true → x ≠ nI (rcN rs c)) → P 4 [some (.ref 26), some (.int x), some (.int (nI (rcN rs k))), some (.int (nI k))] [] (w_M f ms tl bb) := by
    intro j
    induction j with
    | zero =>
      intro k hk hz
      have hk : k = 81 := hk
      subst hk
      iterate 2 refine hP _ _ _ _ ?_
      refine hP _ _ _ _ (And.intro (fun _ => ?_) (fun h => absurd (show (Int8.ofInt 81).toInt32 ≤ nI 81 by decide) h))
      refine hP _ _ _ _ ?_
      exact hP _ _ _ _ (hF hz)
    | succ j ih =>
      intro k hk hz
      have hcl : (nI k).toNatClampNeg = k := nI_clamp (by omega)
      have hin : vp_in (nI k) 81 := vp_in_nI (by omega) (by omega)
      iterate 2 refine hP _ _ _ _ ?_
      refine hP _ _ _ _ (And.intro (fun h => absurd (show (Int8.ofInt 81).toInt32 ≤ nI k from h) (by rw [ob81]; exact nI_ge (by omega) (by omega))) (fun _ => ?_))
      iterate 3 refine hP _ _ _ _ ?_
      refine hP _ _ _ _ (And.intro hin ?_)
      refine hP _ _ _ _ (And.intro (fun h => ?_) (fun h => ?_))
      · have h : ¬ ms.2 31 (nI k).toNatClampNeg = 0 := h
        rw [hcl, hR k (by omega), bI_t] at h
        have h : rs k = true := by cases hh : rs k with | true => rfl | false => exact absurd hh h
        iterate 2 refine hP _ _ _ _ ?_
        refine hP _ _ _ _ (And.intro (fun hq => ?_) (fun hq => ?_))
        · have hq : nI (rcN rs k) ≠ x := hq
          iterate 2 refine hP _ _ _ _ ?_
          refine hP _ _ _ _ (x_p4 (P := P) (ih (k + 1) (by omega) ?_) ?_ rfl rfl)
          · intro c hc hrc
            by_cases hck : c = k
            · rw [hck]; exact hq.symm
            · exact hz c (by omega) hrc
          · rw [show rcN rs (k + 1) = rcN rs k + 1 by simp [rcN, h], nI_succ, nI_succ]; rfl
        · have hq : nI (rcN rs k) = x := Decidable.of_not_not hq
          refine hP _ _ _ _ ?_
          exact hP _ _ _ _ (hT k (by omega) h hq.symm)
      · have h : ms.2 31 (nI k).toNatClampNeg = 0 := Decidable.of_not_not h
        rw [hcl, hR k (by omega), bI_t] at h
        iterate 2 refine hP _ _ _ _ ?_
        refine hP _ _ _ _ (x_p4 (P := P) (ih (k + 1) (by omega) ?_) ?_ rfl rfl)
        · intro c hc hrc
          by_cases hck : c = k
          · rw [hck, h] at hrc; cases hrc
          · exact hz c (by omega) hrc
        · rw [show rcN rs (k + 1) = rcN rs k by simp [rcN, h], nI_succ]; rfl
  iterate 4 refine hP _ _ _ _ ?_
  exact loop 81 0 rfl (fun c hc => absurd hc (Nat.not_lt_zero c))
theorem r_reason (hS : ms.1 8 = -1 ∨ ∃ k, k < 19 ∧ ms.1 8 = nI k) (hR : ms.1 8 ≠ -1 → rM ms rs) {x : Int32} (hN : ms.1 8 = -1 → Q (.inl (some (.int (-1)))) (w_M f (sF ms 0 0) tl bb)) (hT : ms.1 8 ≠ -1 → ∀ c, c < 81 → rs c = true → x = nI (rcN rs c) → Q (.inl (some (.int (nI c)))) (w_M f (sF ms 0 0) tl bb)) (hF : ms.1 8 ≠ -1 → (∀ c, c < 81 → rs c = true → x ≠ nI (rcN rs c)) → Q (.inl (some (.int (-1)))) (w_M f (sF ms 0 0) tl bb)) : x_run sc x_MM x_EX (d + 2) k_X8_reason [.ref 26, .int x] (w_M f ms tl bb) Q := by
  have hneg : ¬ (0 : Int32) ≤ -1 := by decide
  refine x_in (M := m_X8_reason) rfl rfl (Nat.le_of_ble_eq_true rfl) ⟨rfl, rfl, trivial⟩ ?_
  intro P hP
  iterate 5 refine hP _ _ _ _ ?_
  refine hP _ _ _ _ (And.intro (fun h => ?_) (fun h => ?_))
  · have h : 0 ≤ ms.1 8 := h
    have hne : ms.1 8 ≠ -1 := fun e => hneg (e ▸ h)
    iterate 2 refine hP _ _ _ _ ?_
    refine hP _ _ _ _ (r_reasonAt (ms := sF ms 0 0) (rs := rs) (hR hne) (fun c h1 h2 h3 => ?_) (fun h1 => ?_))
    · exact hP _ _ _ _ (hT hne c h1 h2 h3)
    · exact hP _ _ _ _ (hF hne h1)
  · have h : ¬ 0 ≤ ms.1 8 := h
    have he : ms.1 8 = -1 := by
      rcases hS with e | ⟨k, hk, e⟩
      · exact e
      · exact absurd (by rw [e]; exact nI_pos' (by omega)) h
    iterate 2 refine hP _ _ _ _ ?_
    exact hP _ _ _ _ (hN he)
theorem r_found (hS : ms.1 8 = -1 ∨ ∃ k, k < 19 ∧ ms.1 8 = nI k) (hR : ms.1 8 ≠ -1 → rM ms rs ∧ oM ms go) {x : Int32} (hN : ms.1 8 = -1 → Q (.inl (some (.int (-1)))) (w_M f (sF ms 0 0) tl bb)) (hT : ms.1 8 ≠ -1 → Q (.inl (some (.int (if x = 0 then ms.1 8 else if x = 1 then nI (rcN rs 81) else if x = 2 then nI (gcN go 81) else if x = 3 then ms.1 11 else if x = 4 then ms.1 12 else -1)))) (w_M f (sF ms 0 0) tl bb)) : x_run sc x_MM x_EX (d + 3) k_X8_found [.ref 26, .int x] (w_M f ms tl bb) Q := by
  have hneg : ¬ (0 : Int32) ≤ -1 := by decide
  have hx : ∀ (k : Nat), k < 5 → x.toInt = (k : Int) → x = nI k := fun k hk h => Int32.toInt_inj.mp (by rw [h, nI_toInt (by omega)])
  refine x_in (M := m_X8_found) rfl rfl (Nat.le_of_ble_eq_true rfl) ⟨rfl, rfl, trivial⟩ ?_
  intro P hP
  iterate 5 refine hP _ _ _ _ ?_
  refine hP _ _ _ _ (And.intro (fun h => ?_) (fun h => ?_))
  · have h : 0 ≤ ms.1 8 := h
    have hne : ms.1 8 ≠ -1 := fun e => hneg (e ▸ h)
    have hT := hT hne
    obtain ⟨hR1, hR2⟩ := hR hne
    refine hP _ _ _ _ ?_
    refine hP _ _ _ _ (And.intro (fun j o hj hxj => ?_) (fun hout => ?_))
    · have hj5 : j < 5 := (Array.getElem?_eq_some_iff.mp hj).1
      have hxe := hx j hj5 (by omega)
      subst hxe
      match j, hj5, hj with
      | 0, _, hj =>
        cases hj
        iterate 2 refine hP _ _ _ _ ?_
        exact hP _ _ _ _ (hT)
      | 1, _, hj =>
        cases hj
        refine hP _ _ _ _ ?_
        refine hP _ _ _ _ (r_reasonMany (ms := sF ms 0 0) hR1 ?_)
        exact hP _ _ _ _ (hT)
      | 2, _, hj =>
        cases hj
        refine hP _ _ _ _ ?_
        refine hP _ _ _ _ (r_goMany (ms := sF ms 0 0) hR2 ?_)
        exact hP _ _ _ _ (hT)
      | 3, _, hj =>
        cases hj
        iterate 2 refine hP _ _ _ _ ?_
        exact hP _ _ _ _ (hT)
      | 4, _, hj =>
        cases hj
        iterate 2 refine hP _ _ _ _ ?_
        exact hP _ _ _ _ (hT)
    · have h0 : ∀ k : Nat, k < 5 → x ≠ nI k := fun k hk e => by
        rw [e, nI_toInt (by omega)] at hout
        omega
      rw [if_neg (show ¬ x = 0 from h0 0 (by omega)), if_neg (show ¬ x = 1 from h0 1 (by omega)), if_neg (show ¬ x = 2 from h0 2 (by omega)), if_neg (show ¬ x = 3 from h0 3 (by omega)), if_neg (show ¬ x = 4 from h0 4 (by omega))] at hT
      refine hP _ _ _ _ ?_
      exact hP _ _ _ _ (hT)
  · have h : ¬ 0 ≤ ms.1 8 := h
    have he : ms.1 8 = -1 := by
      rcases hS with e | ⟨k, hk, e⟩
      · exact e
      · exact absurd (by rw [e]; exact nI_pos' (by omega)) h
    refine hP _ _ _ _ ?_
    exact hP _ _ _ _ (hN he)
end M5
