/-! ===== the class over the pure game: the other calls ===== -/
abbrev aioobe : String := "java/lang/ArrayIndexOutOfBoundsException"
abbrev iae : String := "java/lang/IllegalArgumentException"
section KH
variable {sc : Nat × (Nat → Int32)} {cs : x_S} {tl : List x_C} {bb : Nat × Nat} {n w h d : Nat} {Q : x_O → x_H → Prop} {s : pS}
theorem c_checkCell (k : KD n w h) {x : Int32} (hT : okB x (n * n) = true → Q (.inl none) (w_C n cs tl (1, 6))) (hF : okB x (n * n) = false → Q (.inr aioobe) (w_C n cs tl (0, 0))) : x_run sc x_MM x_EX (d + 1) k_X7_checkCell [.ref 0, .int x] (w_C n cs tl (1, 6)) Q := by
  obtain ⟨g1, g2, g3, g4, g5, g6, g7, g8⟩ := k.le
  refine x_in (M := m_X7_checkCell) rfl rfl (Nat.le_of_ble_eq_true rfl) ⟨rfl, rfl, trivial⟩ ?_
  intro P hP
  have bad : okB x (n * n) = false → P 15 [some (.ref 0), some (.int x)] [] (w_C n cs tl (1, 6)) := by
    intro hb
    repeat refine hP _ _ _ _ ?_
    exact And.intro ⟨Nat.le_of_ble_eq_true rfl, Nat.le_of_ble_eq_true rfl⟩ (hF hb)
  cases hb : okB x (n * n) with
  | true =>
    obtain ⟨c, hc, rfl⟩ := okB_t hb (by omega)
    repeat refine hP _ _ _ _ ?_
    refine And.intro (fun h9 => absurd (show nI c < 0 from h9) (nI_pos (by omega))) (fun _ => ?_)
    repeat refine hP _ _ _ _ ?_
    refine b_lt (c) (n * n) (fun h1 => ?_) (fun h1 => ?_) (rfl) (rfl) (by omega) (by omega)
    · repeat refine hP _ _ _ _ ?_
      exact hT hb
    · omega
  | false =>
    have h2 := okB_f hb
    repeat refine hP _ _ _ _ ?_
    refine And.intro (fun h9 => bad hb) (fun h9 => ?_)
    have h9 : ¬ x < 0 := h9
    rw [i32_neg] at h9
    repeat refine hP _ _ _ _ ?_
    refine And.intro (fun h7 => ?_) (fun _ => bad hb)
    have h7 : x < nI (n * n) := h7
    rw [i32_lt (by omega)] at h7
    omega
theorem c_checkSymbol (k : KD n w h) {x : Int32} (hT : okB x n = true → Q (.inl none) (w_C n cs tl (1, 6))) (hF : okB x n = false → Q (.inr iae) (w_C n cs tl (0, 0))) : x_run sc x_MM x_EX (d + 1) k_X7_checkSymbol [.ref 0, .int x] (w_C n cs tl (1, 6)) Q := by
  obtain ⟨g1, g2, g3, g4, g5, g6, g7, g8⟩ := k.le
  refine x_in (M := m_X7_checkSymbol) rfl rfl (Nat.le_of_ble_eq_true rfl) ⟨rfl, rfl, trivial⟩ ?_
  intro P hP
  have bad : okB x n = false → P 15 [some (.ref 0), some (.int x)] [] (w_C n cs tl (1, 6)) := by
    intro hb
    repeat refine hP _ _ _ _ ?_
    exact And.intro ⟨Nat.le_of_ble_eq_true rfl, Nat.le_of_ble_eq_true rfl⟩ (hF hb)
  cases hb : okB x n with
  | true =>
    obtain ⟨c, hc, rfl⟩ := okB_t hb (by omega)
    repeat refine hP _ _ _ _ ?_
    refine And.intro (fun h9 => absurd (show nI c < 0 from h9) (nI_pos (by omega))) (fun _ => ?_)
    repeat refine hP _ _ _ _ ?_
    refine b_lt (c) (n) (fun h1 => ?_) (fun h1 => ?_) (rfl) (rfl) (by omega) (by omega)
    · repeat refine hP _ _ _ _ ?_
      exact hT hb
    · omega
  | false =>
    have h2 := okB_f hb
    repeat refine hP _ _ _ _ ?_
    refine And.intro (fun h9 => bad hb) (fun h9 => ?_)
    have h9 : ¬ x < 0 := h9
    rw [i32_neg] at h9
    repeat refine hP _ _ _ _ ?_
    refine And.intro (fun h7 => ?_) (fun _ => bad hb)
    have h7 : x < nI n := h7
    rw [i32_lt (by omega)] at h7
    omega
theorem c_checkStep {x : Int32} (hT : okB x 19 = true → Q (.inl none) (w_C n cs tl (1, 6))) (hF : okB x 19 = false → Q (.inr aioobe) (w_C n cs tl (0, 0))) : x_run sc x_MM x_EX (d + 1) k_X7_checkStep [.ref 0, .int x] (w_C n cs tl (1, 6)) Q := by
  refine x_in (M := m_X7_checkStep) rfl rfl (Nat.le_of_ble_eq_true rfl) ⟨rfl, rfl, trivial⟩ ?_
  intro P hP
  have bad : okB x 19 = false → P 10 [some (.ref 0), some (.int x)] [] (w_C n cs tl (1, 6)) := by
    intro hb
    repeat refine hP _ _ _ _ ?_
    exact And.intro ⟨Nat.le_of_ble_eq_true rfl, Nat.le_of_ble_eq_true rfl⟩ (hF hb)
  cases hb : okB x 19 with
  | true =>
    obtain ⟨c, hc, rfl⟩ := okB_t hb (by omega)
    repeat refine hP _ _ _ _ ?_
    refine And.intro (fun h9 => absurd (show nI c < 0 from h9) (nI_pos (by omega))) (fun _ => ?_)
    repeat refine hP _ _ _ _ ?_
    refine b_lt (c) (19) (fun h1 => ?_) (fun h1 => ?_) (rfl) (ob19) (by omega) (by omega)
    · repeat refine hP _ _ _ _ ?_
      exact hT hb
    · omega
  | false =>
    have h2 := okB_f hb
    repeat refine hP _ _ _ _ ?_
    refine And.intro (fun h9 => bad hb) (fun h9 => ?_)
    have h9 : ¬ x < 0 := h9
    rw [i32_neg] at h9
    repeat refine hP _ _ _ _ ?_
    refine And.intro (fun h7 => ?_) (fun _ => bad hb)
    have h7 : x < nI 19 := h7
    rw [i32_lt (by omega)] at h7
    omega
theorem c_isOpenCandidate (hB : bC cs n w h s.cb s.vb) {c y : Nat} (hc : c < n * n) (hy : y < n) (hQ : Q (.inl (some (.int (bI ((s.vb c).isNone && (s.cb c).testBit y))))) (w_C n cs tl bb)) : x_run sc x_MM x_EX (d + 2) k_X7_isOpenCandidate [.ref 0, .int (nI c), .int (nI y)] (w_C n cs tl bb) Q := by
  obtain ⟨hG, hC, hV, hP9, hE⟩ := hB
  obtain ⟨g1, g2, g3, g4, g5, g6, g7, g8⟩ := hG.1.le
  refine x_in (M := m_X7_isOpenCandidate) rfl rfl (Nat.le_of_ble_eq_true rfl) ⟨rfl, rfl, rfl, trivial⟩ ?_
  intro P hP
  have no : ((s.vb c).isNone && (s.cb c).testBit y) = false → P 31 [some (.ref 0), some (.int (nI c)), some (.int (nI y))] [] (w_C n cs tl bb) := by
    intro hn
    repeat refine hP _ _ _ _ ?_
    refine And.intro rfl (x_q1 hQ ?_)
    rw [hn]; rfl
  repeat refine hP _ _ _ _ ?_
  refine c_isOpen hG.1 hV hc rfl ?_
  repeat refine hP _ _ _ _ ?_
  refine b_ifeq (fun h1 => ?_) (fun h1 => ?_) (rfl)
  · exact no (by rw [h1]; rfl)
  · repeat refine hP _ _ _ _ ?_
    refine And.intro (vp_in_nI hc (by omega)) ?_
    rw [ldv (f := cs.2 3) (hC c hc).1 (by omega)]
    repeat refine hP _ _ _ _ ?_
    refine b_ifeq (fun h2 => ?_) (fun h2 => ?_) (bit1 (hC.lt g2 hc) (by omega))
    · exact no (by rw [h2, Bool.and_false])
    · repeat refine hP _ _ _ _ ?_
      refine And.intro rfl (x_q1 hQ ?_)
      rw [h1, h2]; rfl
theorem c_forgetSteps (k : KD n w h) (hQ : ∀ g : Nat → Int32, (∀ c, c < n * n → g c = 0) → Q (.inl none) (w_C n (clC (sA (sF (sF cs 6 0) 7 0) 10 g)) tl bb)) : x_run sc x_MM x_EX (d + 2) k_X7_forgetSteps [.ref 0] (w_C n cs tl bb) Q := by
  refine x_in (M := m_X7_forgetSteps) rfl rfl (Nat.le_of_ble_eq_true rfl) ⟨rfl, trivial⟩ ?_
  intro P hP
  repeat refine hP _ _ _ _ ?_
  refine c_hclear ?_
  repeat refine hP _ _ _ _ ?_
  refine c_clear (cs := sF (sF cs 6 0) 7 0) k (fun g hg => ?_)
  repeat refine hP _ _ _ _ ?_
  exact hQ g hg
theorem lok3 {x y : Int32} {n : Nat} {cs : x_S} {tl : List x_C} {bb : Nat × Nat} : x_lok (w_C n cs tl bb).1.length [some (.ref 0), some (.int x), some (.int y)] := ⟨Or.inl (Nat.succ_pos _), trivial, trivial, trivial⟩
theorem lok2 {x : Int32} {n : Nat} {cs : x_S} {tl : List x_C} {bb : Nat × Nat} : x_lok (w_C n cs tl bb).1.length [some (.ref 0), some (.int x)] := ⟨Or.inl (Nat.succ_pos _), trivial, trivial⟩
theorem k_set (hR : repC cs n w h s) (hI : inv n w h s) {x y : Int32} (h1 : thr2 n x y = 1 → ∀ bb', Q (.inr aioobe) (w_C n cs tl bb')) (h2 : thr2 n x y = 2 → ∀ bb', Q (.inr iae) (w_C n cs tl bb')) (h3 : thr2 n x y = 0 → ∀ cs' bb', repC cs' n w h (setX n w h s x y) → Q (.inl (some (.int (bI (opX n s x y))))) (w_C n cs' tl bb')) : x_run sc x_MM x_EX (d + 5) k_X7_set [.ref 0, .int x, .int y] (w_C n cs tl (2, 12)) Q := by
  have hkd := hI.1
  obtain ⟨g1, g2, g3, g4, g5, g6, g7, g8⟩ := hkd.le
  refine x_in (M := m_X7_set) rfl rfl (Nat.le_of_ble_eq_true rfl) ⟨rfl, rfl, rfl, trivial⟩ ?_
  intro P hP
  repeat refine hP _ _ _ _ ?_
  refine And.intro ⟨Nat.le_of_ble_eq_true rfl, Nat.le_of_ble_eq_true rfl, lok3, trivial⟩ ?_
  refine c_checkCell hkd (fun hx => ?_) (fun hx => ?_)
  · repeat refine hP _ _ _ _ ?_
    refine And.intro ⟨Nat.le_of_ble_eq_true rfl, Nat.le_of_ble_eq_true rfl, lok3 (bb := (2, 12)), trivial⟩ ?_
    refine c_checkSymbol hkd (fun hy => ?_) (fun hy => ?_)
    · obtain ⟨c, hc, rfl⟩ := okB_t hx (by omega)
      obtain ⟨z, hz, rfl⟩ := okB_t hy (by omega)
      have eo := opX_at (s := s) g7 g2 hc hz
      have h3 := h3 eo.2
      rw [eo.1] at h3
      repeat refine hP _ _ _ _ ?_
      refine c_isOpenCandidate hR.1 hc hz ?_
      repeat refine hP _ _ _ _ ?_
      refine b_ifne (fun hop => ?_) (fun hop => ?_) (rfl)
      · have es : setX n w h s (nI c) (nI z) = putP n w h s c z := by unfold setX; rw [eo.1, hop, nI_clamp (by omega), nI_clamp (by omega)]; rfl
        rw [hop, es] at h3
        rw [Bool.and_eq_true] at hop
        have hv := Option.isNone_iff_eq_none.mp hop.1
        have hok : okR s.cb s.vb n w h (some (c, z), setG s.cb n w h c z, fun _ => false) := okR_set hc hz hv hop.2 (fun _ _ => rfl)
        have hsz := chn_sz s.hs hI.2.1 hI.2.2.2.2.1
        have hgl := gcN_left hok.1 (n * n)
        have n3 : n * (n * n) = n * n * n := (Nat.mul_assoc n n n).symm
        repeat refine hP _ _ _ _ ?_
        refine k_clear hR (fun cs2 hs2 hz2 h02 hr2 => ?_)
        repeat refine hP _ _ _ _ ?_
        refine c_settle (hs2.b hR.1) hz2 hc hz rfl rfl (fun cs3 hs3 e1 e2 ho3 hr3 => ?_)
        repeat refine hP _ _ _ _ ?_
        have hB3 := (hs2.tr hs3.F).b hR.1
        refine c_carryOut hB3 (r := (some (c, z), setG s.cb n w h c z, fun _ => false)) ⟨⟨e1, e2⟩, ho3, hr3⟩ hok (z := szH n s.hs) (((hs2.tr hs3.F).1 6 (by decide)).trans hR.2.2.2.2.2.1) (by show szH n s.hs + gcN (setG s.cb n w h c z) (n * n) ≤ _; have hgl : gcN (leftN s.cb (setG s.cb n w h c z)) (n * n) + gcN (setG s.cb n w h c z) (n * n) = gcN s.cb (n * n) := hgl; omega) (fun cs4 hf4 hB4 e6 hlo hgn => ?_)
        repeat refine hP _ _ _ _ ?_
        refine c_forgetSteps hkd (fun g hg => ?_)
        repeat refine hP _ _ _ _ ?_
        refine And.intro rfl (h3 _ _ ?_)
        obtain ⟨hG2, hC2, hV2, hP2, hE2⟩ := hB4
        refine ⟨⟨hG2, hC2, hV2, hP2, hE2⟩, fun j hj => ?_, fun j hj => ?_, ⟨rfl, cl_z hg⟩, rfl, rfl, trivial⟩
        · show cs4.2 24 j = _
          rw [hf4.2 24 (by decide) (by decide) (by decide) (by decide), (hs2.tr hs3.F).2 24 (by decide) (by decide) (by decide) (by decide) (by decide)]
          exact hR.2.1 j hj
        · show cs4.2 25 j = _
          rw [hf4.2 25 (by decide) (by decide) (by decide) (by decide), (hs2.tr hs3.F).2 25 (by decide) (by decide) (by decide) (by decide) (by decide)]
          exact hR.2.2.1 j hj
      · have es : setX n w h s (nI c) (nI z) = s := by unfold setX; rw [eo.1, hop]; rfl
        rw [hop, es] at h3
        repeat refine hP _ _ _ _ ?_
        exact And.intro rfl (h3 cs _ hR)
    · exact h2 (opX_f2 (s := s) hx hy).2 _
  · exact h1 (opX_f1 (s := s) hx).2 _
theorem k_take (hR : repC cs n w h s) (hI : inv n w h s) {x y : Int32} (h1 : thr2 n x y = 1 → ∀ bb', Q (.inr aioobe) (w_C n cs tl bb')) (h2 : thr2 n x y = 2 → ∀ bb', Q (.inr iae) (w_C n cs tl bb')) (h3 : thr2 n x y = 0 → ∀ cs' bb', repC cs' n w h (takX n s x y) → Q (.inl (some (.int (bI (opX n s x y))))) (w_C n cs' tl bb')) : x_run sc x_MM x_EX (d + 3) k_X7_take [.ref 0, .int x, .int y] (w_C n cs tl (2, 12)) Q := by
  have hkd := hI.1
  obtain ⟨g1, g2, g3, g4, g5, g6, g7, g8⟩ := hkd.le
  refine x_in (M := m_X7_take) rfl rfl (Nat.le_of_ble_eq_true rfl) ⟨rfl, rfl, rfl, trivial⟩ ?_
  intro P hP
  repeat refine hP _ _ _ _ ?_
  refine And.intro ⟨Nat.le_of_ble_eq_true rfl, Nat.le_of_ble_eq_true rfl, lok3, trivial⟩ ?_
  refine c_checkCell hkd (fun hx => ?_) (fun hx => ?_)
  · repeat refine hP _ _ _ _ ?_
    refine And.intro ⟨Nat.le_of_ble_eq_true rfl, Nat.le_of_ble_eq_true rfl, lok3 (bb := (2, 12)), trivial⟩ ?_
    refine c_checkSymbol hkd (fun hy => ?_) (fun hy => ?_)
    · obtain ⟨c, hc, rfl⟩ := okB_t hx (by omega)
      obtain ⟨z, hz, rfl⟩ := okB_t hy (by omega)
      have eo := opX_at (s := s) g7 g2 hc hz
      have h3 := h3 eo.2
      rw [eo.1] at h3
      repeat refine hP _ _ _ _ ?_
      refine c_isOpenCandidate hR.1 hc hz ?_
      repeat refine hP _ _ _ _ ?_
      refine b_ifne (fun hop => ?_) (fun hop => ?_) (rfl)
      · have es : takX n s (nI c) (nI z) = takeP s c z := by unfold takX; rw [eo.1, hop, nI_clamp (by omega), nI_clamp (by omega)]; rfl
        rw [hop, es] at h3
        obtain ⟨hG, hC, hV, hP9, hE⟩ := hR.1
        repeat refine hP _ _ _ _ ?_
        refine c_drop hG hC hP9 hc hz (fun q3 q8 hC4 hP4 => ?_)
        repeat refine hP _ _ _ _ ?_
        refine c_forgetSteps hkd (fun g hg => ?_)
        repeat refine hP _ _ _ _ ?_
        refine And.intro rfl (h3 _ _ ?_)
        exact ⟨⟨hG, hC4, hV, hP4, hE⟩, hR.2.1, hR.2.2.1, ⟨rfl, cl_z hg⟩, rfl, rfl, trivial⟩
      · have es : takX n s (nI c) (nI z) = s := by unfold takX; rw [eo.1, hop]; rfl
        rw [hop, es] at h3
        repeat refine hP _ _ _ _ ?_
        exact And.intro rfl (h3 cs _ hR)
    · exact h2 (opX_f2 (s := s) hx hy).2 _
  · exact h1 (opX_f1 (s := s) hx).2 _
theorem k_enable (hR : repC cs n w h s) (hI : inv n w h s) {x : Int32} {b : Bool} (h1 : thr1 19 x = 1 → ∀ bb', Q (.inr aioobe) (w_C n cs tl bb')) (h3 : thr1 19 x = 0 → ∀ cs' bb', repC cs' n w h (enX s x b) → Q (.inl (some (.int (bI (enB s x b))))) (w_C n cs' tl bb')) : x_run sc x_MM x_EX (d + 2) k_X7_enable [.ref 0, .int x, .int (bI b)] (w_C n cs tl (1, 6)) Q := by
  have hkd := hI.1
  refine x_in (M := m_X7_enable) rfl rfl (Nat.le_of_ble_eq_true rfl) ⟨rfl, rfl, rfl, trivial⟩ ?_
  intro P hP
  repeat refine hP _ _ _ _ ?_
  refine And.intro ⟨Nat.le_of_ble_eq_true rfl, Nat.le_of_ble_eq_true rfl, lok3, trivial⟩ ?_
  refine c_checkStep (fun hx => ?_) (fun hx => ?_)
  · obtain ⟨k, hk, rfl⟩ := okB_t hx (by omega)
    have h3 := h3 (by unfold thr1; rw [hx]; rfl)
    have hon := hR.2.1 k hk
    repeat refine hP _ _ _ _ ?_
    refine And.intro (vp_in_nI hk (by omega)) ?_
    rw [ldv (f := cs.2 24) hon (by omega)]
    repeat refine hP _ _ _ _ ?_
    refine b_bne (!s.off k) b rfl rfl (fun hq => ?_) (fun hq => ?_)
    · have hq : s.off k = b := by revert hq; cases s.off k <;> cases b <;> simp
      have eb : enB s (nI k) b = true := by unfold enB; rw [nI_clamp (by omega), hx, hq]; simp
      have ee : enX s (nI k) b = enP s k b := by unfold enX; rw [eb, nI_clamp (by omega)]; rfl
      rw [eb, ee] at h3
      repeat refine hP _ _ _ _ ?_
      refine And.intro (vp_in_nI hk (by omega)) ?_
      rw [upv (f := cs.2 24) (by omega), bI_nb]
      repeat refine hP _ _ _ _ ?_
      refine c_clear (cs := sA cs 24 (upd (cs.2 24) k (bI b))) hkd (fun g hg => ?_)
      repeat refine hP _ _ _ _ ?_
      refine And.intro rfl (h3 _ _ ?_)
      obtain ⟨a1, a2, a3, a4, a5, a6, a7⟩ := hR
      obtain ⟨hG2, hC2, hV2, hP2, hE2⟩ := a1
      refine ⟨⟨hG2, hC2, hV2, hP2, hE2⟩, fun j hj => ?_, a3, ⟨rfl, cl_z hg⟩, a5, a6, hsC_sc (cs := cs) (cs' := clC (sA (sA cs 24 (upd (cs.2 24) k (bI b))) 10 g)) rfl rfl rfl rfl _ a7⟩
      show upd (cs.2 24) k (bI b) j = bI (!updB s.off k (!b) j)
      by_cases hjk : j = k
      · subst hjk; rw [pk_us, updB_s, Bool.not_not]
      · rw [pk_un hjk, updB_n hjk]; exact a2 j hj
    · have hq : s.off k ≠ b := by revert hq; cases s.off k <;> cases b <;> simp
      have eb : enB s (nI k) b = false := by unfold enB; rw [nI_clamp (by omega), beq_eq_false_iff_ne.mpr hq, Bool.and_false]
      have ee : enX s (nI k) b = s := by unfold enX; rw [eb]; rfl
      rw [eb, ee] at h3
      repeat refine hP _ _ _ _ ?_
      exact And.intro rfl (h3 cs _ hR)
  · exact h1 (by unfold thr1; rw [hx]; rfl) _
theorem k_done (hR : repC cs n w h s) {x : Int32} (h1 : thr1 19 x = 1 → ∀ bb', Q (.inr aioobe) (w_C n cs tl bb')) (h3 : thr1 19 x = 0 → ∀ bb', Q (.inl (some (.int (donI s x)))) (w_C n cs tl bb')) : x_run sc x_MM x_EX (d + 2) k_X7_done [.ref 0, .int x] (w_C n cs tl (1, 6)) Q := by
  refine x_in (M := m_X7_done) rfl rfl (Nat.le_of_ble_eq_true rfl) ⟨rfl, rfl, trivial⟩ ?_
  intro P hP
  repeat refine hP _ _ _ _ ?_
  refine And.intro ⟨Nat.le_of_ble_eq_true rfl, Nat.le_of_ble_eq_true rfl, lok2, trivial⟩ ?_
  refine c_checkStep (fun hx => ?_) (fun hx => ?_)
  · obtain ⟨k, hk, rfl⟩ := okB_t hx (by omega)
    have h3 := h3 (by unfold thr1; rw [hx]; rfl)
    unfold donI at h3
    rw [hx, nI_clamp (by omega)] at h3
    repeat refine hP _ _ _ _ ?_
    refine And.intro (vp_in_nI hk (by omega)) ?_
    rw [ldv (f := cs.2 25) (hR.2.2.1 k hk) (by omega)]
    repeat refine hP _ _ _ _ ?_
    exact h3 _
  · exact h1 (by unfold thr1; rw [hx]; rfl) _
theorem k_candidates (hR : repC cs n w h s) (hI : inv n w h s) {x : Int32} (h1 : thr1 (n * n) x = 1 → ∀ bb', Q (.inr aioobe) (w_C n cs tl bb')) (h3 : thr1 (n * n) x = 0 → ∀ bb', Q (.inl (some (.int (cndI n s x)))) (w_C n cs tl bb')) : x_run sc x_MM x_EX (d + 2) k_X7_candidates [.ref 0, .int x] (w_C n cs tl (1, 6)) Q := by
  obtain ⟨g1, g2, g3, g4, g5, g6, g7, g8⟩ := hI.1.le
  refine x_in (M := m_X7_candidates) rfl rfl (Nat.le_of_ble_eq_true rfl) ⟨rfl, rfl, trivial⟩ ?_
  intro P hP
  repeat refine hP _ _ _ _ ?_
  refine And.intro ⟨Nat.le_of_ble_eq_true rfl, Nat.le_of_ble_eq_true rfl, lok2, trivial⟩ ?_
  refine c_checkCell hI.1 (fun hx => ?_) (fun hx => ?_)
  · obtain ⟨k, hk, rfl⟩ := okB_t hx (by omega)
    have h3 := h3 (by unfold thr1; rw [hx]; rfl)
    unfold cndI at h3
    rw [hx, nI_clamp (by omega)] at h3
    repeat refine hP _ _ _ _ ?_
    refine And.intro (vp_in_nI hk (by omega)) ?_
    rw [ldv (f := cs.2 3) (hR.1.2.1 k hk).1 (by omega)]
    repeat refine hP _ _ _ _ ?_
    exact h3 _
  · exact h1 (by unfold thr1; rw [hx]; rfl) _
theorem k_value (hR : repC cs n w h s) (hI : inv n w h s) {x : Int32} (h1 : thr1 (n * n) x = 1 → ∀ bb', Q (.inr aioobe) (w_C n cs tl bb')) (h3 : thr1 (n * n) x = 0 → ∀ bb', Q (.inl (some (.int (valI n s x)))) (w_C n cs tl bb')) : x_run sc x_MM x_EX (d + 2) k_X7_value [.ref 0, .int x] (w_C n cs tl (1, 6)) Q := by
  obtain ⟨g1, g2, g3, g4, g5, g6, g7, g8⟩ := hI.1.le
  refine x_in (M := m_X7_value) rfl rfl (Nat.le_of_ble_eq_true rfl) ⟨rfl, rfl, trivial⟩ ?_
  intro P hP
  repeat refine hP _ _ _ _ ?_
  refine And.intro ⟨Nat.le_of_ble_eq_true rfl, Nat.le_of_ble_eq_true rfl, lok2, trivial⟩ ?_
  refine c_checkCell hI.1 (fun hx => ?_) (fun hx => ?_)
  · obtain ⟨k, hk, rfl⟩ := okB_t hx (by omega)
    have h3 := h3 (by unfold thr1; rw [hx]; rfl)
    unfold valI at h3
    rw [hx, nI_clamp (by omega)] at h3
    repeat refine hP _ _ _ _ ?_
    refine And.intro (vp_in_nI hk (by omega)) ?_
    rw [ldv (f := cs.2 4) (hR.1.2.2.1 k hk).1 (by omega)]
    repeat refine hP _ _ _ _ ?_
    exact h3 _
  · exact h1 (by unfold thr1; rw [hx]; rfl) _
theorem rsL_out {rs : Nat → Bool} {N : Nat} (h : ∀ e, N ≤ e → rs e = false) : ∀ j, rsL rs (N + j) = rsL rs N ∧ rcN rs (N + j) = rcN rs N
  | 0 => ⟨rfl, rfl⟩
  | j + 1 => by
    obtain ⟨h1, h2⟩ := rsL_out h j
    have e := h (N + j) (by omega)
    constructor
    · show rsL rs (N + j) ++ (if rs (N + j) then [N + j] else []) = _
      rw [e, h1]
      exact List.append_nil _
    · show rcN rs (N + j) + (if rs (N + j) then 1 else 0) = _
      rw [e, h2]
      rfl
theorem rsL_81 {rs : Nat → Bool} {n : Nat} (hn : n * n ≤ 81) (h : ∀ e, n * n ≤ e → rs e = false) : rsL rs 81 = rsL rs (n * n) ∧ rcN rs 81 = rcN rs (n * n) := by
  have := rsL_out h (81 - n * n)
  rw [show n * n + (81 - n * n) = 81 by omega] at this
  exact this
theorem k_found (hR : repC cs n w h s) (hI : inv n w h s) {x : Int32} (hQ : Q (.inl (some (.int (foundI s x)))) (w_C n cs tl bb)) : x_run sc x_MM x_EX (d + 1) k_X7_found [.ref 0, .int x] (w_C n cs tl bb) Q := by
  obtain ⟨g1, g2, g3, g4, g5, g6, g7, g8⟩ := hI.1.le
  have h0 := fdC_N hR hI
  have h4 := hR.2.2.2.1
  refine x_in (M := m_X7_found) rfl rfl (Nat.le_of_ble_eq_true rfl) ⟨rfl, rfl, trivial⟩ ?_
  intro P hP
  repeat refine hP _ _ _ _ ?_
  refine And.intro (fun h9 => ?_) (fun h9 => ?_)
  · have h9 : ¬ cs.1 0 = -1 := h9
    rw [h0] at h9
    cases hf : s.fd with
    | none => exact absurd hf h9
    | some p =>
      obtain ⟨k, r⟩ := p
      obtain ⟨hk, hok⟩ := hI.2.2.2.2.2 k r hf
      rw [hf] at h4
      obtain ⟨f0, ⟨f1, f2⟩, f3, f4⟩ := h4
      have hgc := gcN_81 (go := r.2.1) g7 hok.2.1
      have hrc := (rsL_81 (rs := r.2.2) g7 hok.2.2.1).2
      unfold foundI at hQ
      rw [hf] at hQ
      have hQ : Q (.inl (some (.int (if x = 0 then nI k else if x = 1 then nI (rcN r.2.2 81) else if x = 2 then nI (gcN r.2.1 81) else if x = 3 then vI (r.1.map Prod.fst) else if x = 4 then vI (r.1.map Prod.snd) else -1)))) (w_C n cs tl bb) := hQ
      rw [hgc, hrc, ← f0, ← f1, ← f2, ← f3.2, ← f4.1] at hQ
      repeat refine hP _ _ _ _ ?_
      by_cases x0 : x = 0
      · subst x0
        refine b_sw 0 _ rfl rfl (by decide) ?_
        repeat refine hP _ _ _ _ ?_
        exact hQ
      by_cases x1 : x = 1
      · subst x1
        refine b_sw 1 _ rfl rfl (by decide) ?_
        repeat refine hP _ _ _ _ ?_
        exact hQ
      by_cases x2 : x = 2
      · subst x2
        refine b_sw 2 _ rfl rfl (by decide) ?_
        repeat refine hP _ _ _ _ ?_
        exact hQ
      by_cases x3 : x = 3
      · subst x3
        refine b_sw 3 _ rfl rfl (by decide) ?_
        repeat refine hP _ _ _ _ ?_
        exact hQ
      by_cases x4 : x = 4
      · subst x4
        refine b_sw 4 _ rfl rfl (by decide) ?_
        repeat refine hP _ _ _ _ ?_
        exact hQ
      rw [if_neg x0, if_neg x1, if_neg x2, if_neg x3, if_neg x4] at hQ
      have ne : ∀ m : Int32, x ≠ m → x.toInt ≠ m.toInt := fun m hm e => hm (Int32.toInt_inj.mp e)
      have n0 : x.toInt ≠ 0 := ne 0 x0
      have n1 : x.toInt ≠ 1 := ne 1 x1
      have n2 : x.toInt ≠ 2 := ne 2 x2
      have n3 : x.toInt ≠ 3 := ne 3 x3
      have n4 : x.toInt ≠ 4 := ne 4 x4
      refine b_swd (by omega) rfl ?_
      repeat refine hP _ _ _ _ ?_
      exact hQ
  · have h9 : cs.1 0 = -1 := Decidable.of_not_not h9
    rw [h0] at h9
    unfold foundI at hQ
    rw [h9] at hQ
    repeat refine hP _ _ _ _ ?_
    exact hQ
theorem fd_rC (hR : repC cs n w h s) (hI : inv n w h s) : cs.1 4 = nI (reasonL s).length ∧ ∀ j c, (reasonL s)[j]? = some c → cs.2 11 j = nI c := by
  obtain ⟨g1, g2, g3, g4, g5, g6, g7, g8⟩ := hI.1.le
  have h4 := hR.2.2.2.1
  unfold reasonL
  cases hf : s.fd with
  | none =>
    rw [hf] at h4
    obtain ⟨_, z1, z2, z3, z4⟩ := h4
    refine ⟨?_, fun j c e => by cases e⟩
    have := z4.1
    rw [(rsL_z _).2] at this
    exact this
  | some p =>
    obtain ⟨k, r⟩ := p
    rw [hf] at h4
    obtain ⟨hk, hok⟩ := hI.2.2.2.2.2 k r hf
    obtain ⟨e1, e2⟩ := rsL_81 (rs := r.2.2) g7 hok.2.2.1
    show cs.1 4 = nI (rsL r.2.2 81).length ∧ _
    obtain ⟨f0, _, f3, f4⟩ := h4
    rw [rsL_len, e2]
    refine ⟨f4.1, fun j c e => ?_⟩
    have e : (rsL r.2.2 81)[j]? = some c := e
    rw [e1] at e
    exact f4.2 j c e
theorem reasonL_le (s : pS) : (reasonL s).length ≤ 81 := by
  unfold reasonL
  split
  · exact Nat.zero_le _
  · exact rsL_len81 _
theorem k_reason (hR : repC cs n w h s) (hI : inv n w h s) {x : Int32} (hQ : Q (.inl (some (.int (nthI (reasonL s) x)))) (w_C n cs tl bb)) : x_run sc x_MM x_EX (d + 1) k_X7_reason [.ref 0, .int x] (w_C n cs tl bb) Q := by
  obtain ⟨g1, g2, g3, g4, g5, g6, g7, g8⟩ := hI.1.le
  obtain ⟨r1, r2⟩ := fd_rC hR hI
  have hl := reasonL_le s
  have hln : (reasonL s).length ≤ n * n := by
    unfold reasonL
    cases hf : s.fd with
    | none => exact Nat.zero_le _
    | some p =>
      obtain ⟨k, r⟩ := p
      obtain ⟨hk, hok⟩ := hI.2.2.2.2.2 k r hf
      show (rsL r.2.2 81).length ≤ n * n
      rw [(rsL_81 (rs := r.2.2) g7 hok.2.2.1).1, rsL_len]
      exact rcN_le _ _
  refine x_in (M := m_X7_reason) rfl rfl (Nat.le_of_ble_eq_true rfl) ⟨rfl, rfl, trivial⟩ ?_
  intro P hP
  have no : nthI (reasonL s) x = -1 → P 15 [some (.ref 0), some (.int x)] [] (w_C n cs tl bb) := by
    intro hn
    rw [hn] at hQ
    repeat refine hP _ _ _ _ ?_
    exact hQ
  repeat refine hP _ _ _ _ ?_
  refine And.intro (fun h9 => no ?_) (fun h9 => ?_)
  · refine nthI_no (by omega) (fun j hj e => ?_)
    have h9 : x < 0 := h9
    rw [e] at h9
    exact nI_pos (by omega) h9
  · obtain ⟨j, hj, rfl⟩ := i32_nn (show ¬ x < 0 from h9)
    repeat refine hP _ _ _ _ ?_
    refine b_lt (j) ((reasonL s).length) (fun h1 => ?_) (fun h1 => ?_) (rfl) (r1) (by omega) (by omega)
    · have hg := List.getElem?_eq_getElem h1
      rw [nthI_at hg (by omega)] at hQ
      repeat refine hP _ _ _ _ ?_
      refine And.intro (vp_in_nI (by omega) (by omega)) ?_
      rw [ldv (f := cs.2 11) (r2 j _ hg) (by omega)]
      repeat refine hP _ _ _ _ ?_
      exact hQ
    · exact no (nthI_no (by omega) (fun i hi e => by rw [nI_eq (by omega) (by omega)] at e; omega))
theorem k_goes (hR : repC cs n w h s) (hI : inv n w h s) {x : Int32} (hQ : Q (.inl (some (.int (nthI (goesL n s) x)))) (w_C n cs tl bb)) : x_run sc x_MM x_EX (d + 4) k_X7_goes [.ref 0, .int x] (w_C n cs tl bb) Q := by
  obtain ⟨g1, g2, g3, g4, g5, g6, g7, g8⟩ := hI.1.le
  have h4 := hR.2.2.2.1
  have hall : ∃ go : Nat → Nat, oC cs n go ∧ (∀ c, c < n * n → go c < 2 ^ n) ∧ goesL n s = glC go n (n * n) := by
    unfold goesL
    cases hf : s.fd with
    | none =>
      rw [hf] at h4
      refine ⟨fun _ => 0, h4.2.2.2.1, fun c hc => Nat.two_pow_pos n, ?_⟩
      have hz : ∀ c k, glS (fun _ => 0) n c k = [] := by
        intro c k
        induction k with
        | zero => rfl
        | succ k ih => show glS (fun _ => 0) n c k ++ (if (0 : Nat).testBit k then [n * c + k] else []) = []; rw [ih, Nat.zero_testBit]; rfl
      have hz2 : ∀ k, glC (fun _ => 0) n k = [] := by
        intro k
        induction k with
        | zero => rfl
        | succ k ih => show glC (fun _ => 0) n k ++ glS (fun _ => 0) n k n = []; rw [ih, hz]; rfl
      rw [hz2]
    | some p =>
      obtain ⟨k, r⟩ := p
      rw [hf] at h4
      obtain ⟨hk, hok⟩ := hI.2.2.2.2.2 k r hf
      exact ⟨r.2.1, h4.2.2.1, fun c hc => Nat.lt_of_le_of_lt (sub_le (hok.1 c)) (hI.2.1 c hc), rfl⟩
  obtain ⟨go, hO, hg2, hL⟩ := hall
  have hlen : (goesL n s).length = gcN go (n * n) := by rw [hL, glC_len, gb_gc g2 hg2 _ (Nat.le_refl _)]
  have hgl := gcN_le go (n * n)
  refine x_in (M := m_X7_goes) rfl rfl (Nat.le_of_ble_eq_true rfl) ⟨rfl, rfl, trivial⟩ ?_
  intro P hP
  have no : nthI (goesL n s) x = -1 → P 15 [some (.ref 0), some (.int x)] [] (w_C n cs tl bb) := by
    intro hn
    rw [hn] at hQ
    repeat refine hP _ _ _ _ ?_
    exact hQ
  repeat refine hP _ _ _ _ ?_
  refine And.intro (fun h9 => no ?_) (fun h9 => ?_)
  · refine nthI_no (by omega) (fun j hj e => ?_)
    have h9 : x < 0 := h9
    rw [e] at h9
    exact nI_pos (by omega) h9
  · obtain ⟨j, hj, rfl⟩ := i32_nn (show ¬ x < 0 from h9)
    repeat refine hP _ _ _ _ ?_
    refine b_lt (j) (gcN go (n * n)) (fun h1 => ?_) (fun h1 => ?_) (rfl) (hO.2) (by omega) (by omega)
    · repeat refine hP _ _ _ _ ?_
      refine c_goer hI.1 hO hg2 h1 (fun y hy => ?_)
      rw [← hL] at hy
      rw [nthI_at hy (by omega)] at hQ
      repeat refine hP _ _ _ _ ?_
      exact hQ
    · exact no (nthI_no (by omega) (fun i hi e => by rw [nI_eq (by omega) (by omega)] at e; omega))
theorem c_allTimes (hR : repC cs n w h s) (hQ : Q (.inl (some (.int (dnI s.dn 19)))) (w_C n cs tl bb)) : x_run sc x_MM x_EX (d + 1) k_X7_allTimes [.ref 0] (w_C n cs tl bb) Q := by
  refine x_in (M := m_X7_allTimes) rfl rfl (Nat.le_of_ble_eq_true rfl) ⟨rfl, trivial⟩ ?_
  intro P hP
  have loop : ∀ k, k ≤ 19 → P 4 [some (.ref 0), some (.int (dnI s.dn k)), some (.int (nI k))] [] (w_C n cs tl bb) := by
    refine x_lp 19 (fun k hk ih => ?_)
    repeat refine hP _ _ _ _ ?_
    refine b_ge (k) (19) (fun hk9 => ?_) (fun hk9 => ?_) (rfl) (ob19) (by omega) (by omega)
    · have e9 : k = 19 := by omega
      subst e9
      repeat refine hP _ _ _ _ ?_
      exact hQ
    · have ih := ih hk9
      repeat refine hP _ _ _ _ ?_
      refine And.intro (vp_in_nI hk9 (by omega)) ?_
      rw [ldv (f := cs.2 25) (hR.2.2.1 k hk9) (by omega)]
      iterate 4 refine hP _ _ _ _ ?_
      refine x_p4 (P := P) (ih) ?_ rfl ?_ <;> try (first | rfl | (rw [nI_succ]; rfl))
  iterate 4 refine hP _ _ _ _ ?_
  refine x_p4 (P := P) (loop 0 (by omega)) ?_ rfl ?_ <;> try (first | rfl | (rw [nI_succ]; rfl))
theorem k_state (hR : repC cs n w h s) (hI : inv n w h s) {x : Int32} (hQ : Q (.inl (some (.int (stateI n w h s x)))) (w_C n cs tl bb)) : x_run sc x_MM x_EX (d + 3) k_X7_state [.ref 0, .int x] (w_C n cs tl bb) Q := by
  obtain ⟨hG, hC, hV, hP9, hE⟩ := hR.1
  unfold stateI at hQ
  refine x_in (M := m_X7_state) rfl rfl (Nat.le_of_ble_eq_true rfl) ⟨rfl, rfl, trivial⟩ ?_
  intro P hP
  repeat refine hP _ _ _ _ ?_
  by_cases x0 : x = 0
  · subst x0
    rw [if_pos rfl] at hQ
    refine b_sw 0 _ rfl rfl (by decide) ?_
    repeat refine hP _ _ _ _ ?_
    refine c_openCells hI.1 hV ?_
    repeat refine hP _ _ _ _ ?_
    exact hQ
  by_cases x1 : x = 1
  · subst x1
    rw [if_neg (by decide), if_pos rfl] at hQ
    refine b_sw 1 _ rfl rfl (by decide) ?_
    repeat refine hP _ _ _ _ ?_
    refine c_openCandidates hI.1 hC hV ?_
    repeat refine hP _ _ _ _ ?_
    exact hQ
  by_cases x2 : x = 2
  · subst x2
    rw [if_neg (by decide), if_neg (by decide), if_pos rfl] at hQ
    refine b_sw 2 _ rfl rfl (by decide) ?_
    repeat refine hP _ _ _ _ ?_
    refine c_isBroken hG hC hP9 (fun hb => ?_) (fun hb => ?_)
    · rw [if_pos hb] at hQ
      repeat refine hP _ _ _ _ ?_
      refine b_ifeq (fun h1 => ?_) (fun h1 => ?_) (rfl)
      · cases h1
      · repeat refine hP _ _ _ _ ?_
        exact hQ
    · rw [if_neg hb] at hQ
      repeat refine hP _ _ _ _ ?_
      refine b_ifeq (fun h1 => ?_) (fun h1 => ?_) (rfl)
      · repeat refine hP _ _ _ _ ?_
        exact hQ
      · cases h1
  by_cases x3 : x = 3
  · subst x3
    rw [if_neg (by decide), if_neg (by decide), if_neg (by decide), if_pos rfl] at hQ
    refine b_sw 3 _ rfl rfl (by decide) ?_
    repeat refine hP _ _ _ _ ?_
    exact hQ
  by_cases x4 : x = 4
  · subst x4
    rw [if_neg (by decide), if_neg (by decide), if_neg (by decide), if_neg (by decide), if_pos rfl] at hQ
    refine b_sw 4 _ rfl rfl (by decide) ?_
    repeat refine hP _ _ _ _ ?_
    refine c_allTimes hR ?_
    repeat refine hP _ _ _ _ ?_
    exact hQ
  rw [if_neg x0, if_neg x1, if_neg x2, if_neg x3, if_neg x4] at hQ
  have ne : ∀ m : Int32, x ≠ m → x.toInt ≠ m.toInt := fun m hm e => hm (Int32.toInt_inj.mp e)
  have n0 : x.toInt ≠ 0 := ne 0 x0
  have n1 : x.toInt ≠ 1 := ne 1 x1
  have n2 : x.toInt ≠ 2 := ne 2 x2
  have n3 : x.toInt ≠ 3 := ne 3 x3
  have n4 : x.toInt ≠ 4 := ne 4 x4
  refine b_swd (by omega) rfl ?_
  repeat refine hP _ _ _ _ ?_
  exact hQ
theorem c_letterOfCell (hG : gC cs n w h) {c j : Nat} (hc : c < n * n) (hj : j < 5) {x y : Int32} (hx : x = nI c) (hy : y = nI j) (hQ : Q (.inl (some (.int (ltI n c j)))) (w_C n cs tl bb)) : x_run sc x_MM x_EX (d + 3) k_X7_letterOfCell [.ref 0, .int x, .int y] (w_C n cs tl bb) Q := by
  subst hx; subst hy
  obtain ⟨g1, g2, g3, g4, g5, g6, g7, g8⟩ := hG.1.le
  refine x_in (M := m_X7_letterOfCell) rfl rfl (Nat.le_of_ble_eq_true rfl) ⟨rfl, rfl, rfl, trivial⟩ ?_
  intro P hP
  repeat refine hP _ _ _ _ ?_
  match j, hj with
  | 0, _ =>
    refine b_sw 0 _ rfl rfl (by decide) ?_
    repeat refine hP _ _ _ _ ?_
    exact hQ
  | 1, _ =>
    refine b_sw 1 _ rfl rfl (by decide) ?_
    repeat refine hP _ _ _ _ ?_
    exact hQ
  | 2, _ =>
    refine b_sw 2 _ rfl rfl (by decide) ?_
    repeat refine hP _ _ _ _ ?_
    refine c_rowOf hG hc ?_
    repeat refine hP _ _ _ _ ?_
    refine x_q1 hQ ?_
    show nI (49 + c / n) = nI 49 + nI (c / n)
    rw [nI_add]
  | 3, _ =>
    refine b_sw 3 _ rfl rfl (by decide) ?_
    repeat refine hP _ _ _ _ ?_
    exact hQ
  | 4, _ =>
    refine b_swd (Or.inr (by decide)) rfl ?_
    repeat refine hP _ _ _ _ ?_
    refine c_columnOf hG hc ?_
    repeat refine hP _ _ _ _ ?_
    refine x_q1 hQ ?_
    show nI (49 + c % n) = nI 49 + nI (c % n)
    rw [nI_add]
  | j9 + 5, hj9 => exact absurd hj9 (by omega)
end KH
