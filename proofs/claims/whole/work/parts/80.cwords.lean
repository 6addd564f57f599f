/-! ===== the class over the pure game: words ===== -/
section KI
variable {sc : Nat × (Nat → Int32)} {cs : x_S} {tl : List x_C} {bb : Nat × Nat} {n w h d : Nat} {Q : x_O → x_H → Prop} {s : pS}
theorem k_words (hbb : bb = (0, 0)) (hR : repC cs n w h s) (hI : inv n w h s) {lg x : Int32} (hQ : Q (.inl (some (.int (wdX n s lg x)))) (w_C n cs tl bb)) : x_run sc x_MM x_EX (d + 4) k_X7_words [.ref 0, .int lg, .int x] (w_C n cs tl bb) Q := by
  obtain ⟨g1, g2, g3, g4, g5, g6, g7, g8⟩ := hI.1.le
  have h0 := fdC_N hR hI
  obtain ⟨r1, r2⟩ := fd_rC hR hI
  have hL := reasonL_le s
  have hx : x_EX (x_run sc x_MM x_EX (d + 3)) k_X7_words [.ref 0, .int lg, .int x] (w_C n cs tl bb) Q := by
    refine ⟨rfl, hbb, lg, x, rfl, .ref 1, .ref 2, .ref 19, .ref 24, .ref 25, cs.1 0, cs.1 1, cs.1 2, cs.1 3, cs.1 4, n * n, cs.2 11, rfl, rfl, rfl, fun hc => ?_, fun hc => ?_⟩
    · refine x_q1 hQ ?_
      unfold wdX
      cases hf : s.fd with
      | none => rfl
      | some p =>
        have hne : ¬ cs.1 0 = -1 := fun e => by rw [h0.mp e] at hf; cases hf
        have hc : lg < 0 ∨ 1 < lg ∨ x < 0 := hc.resolve_left hne
        show (if lg < 0 ∨ 1 < lg ∨ x < 0 then (-1 : Int32) else _) = -1
        rw [if_pos hc]
    · have hne : ¬ cs.1 0 = -1 := fun e => hc (Or.inl e)
      have hc2 : ¬ (lg < 0 ∨ 1 < lg ∨ x < 0) := fun e => hc (Or.inr e)
      have hlg : ¬ lg < 0 := fun e => hc2 (Or.inl e)
      have hlg1 : ¬ 1 < lg := fun e => hc2 (Or.inr (Or.inl e))
      have hx0 : ¬ x < 0 := fun e => hc2 (Or.inr (Or.inr e))
      obtain ⟨g, hg31, rfl⟩ := i32_nn hlg
      obtain ⟨j, hj, rfl⟩ := i32_nn hx0
      have hg : g < 2 := by
        rw [z1, nI_ltI (by omega) hg31] at hlg1
        omega
      rw [h0] at hne
      cases hf : s.fd with
      | none => exact absurd hf hne
      | some p =>
        obtain ⟨k, r⟩ := p
        obtain ⟨hk, hok⟩ := hI.2.2.2.2.2 k r hf
        have f0 : cs.1 0 = nI k := by have h4 := hR.2.2.2.1; rw [hf] at h4; exact h4.1
        have hQ2 : wdX n s (nI g) (nI j) = wdI n (nmT g k) (reasonL s) j := by
          unfold wdX reasonL
          rw [hf]
          show (if nI g < 0 ∨ 1 < nI g ∨ nI j < 0 then (-1 : Int32) else _) = _
          rw [if_neg hc2, nI_clamp hg31, nI_clamp hj]
        rw [hQ2] at hQ
        rw [f0]
        refine ⟨vp_in_nI hk (by omega), fun t ht => ?_⟩
        rw [nI_clamp hg31, nI_clamp (by omega), nm_C g hg] at ht
        have et : nmT g k = t := by
          unfold nmT
          rw [List.getD_eq_getElem?_getD, ht]
          rfl
        have hl24 : t.length < 24 := by rw [← et]; exact nm_len g hg k hk
        rw [et] at hQ
        unfold wdI at hQ
        refine ⟨fun hlt ch hch => ?_, fun hlt => ?_⟩
        · rw [nI_ltI hj (by omega)] at hlt
          rw [nI_clamp hj] at hch
          rw [if_pos hlt, List.getD_eq_getElem?_getD, hch] at hQ
          exact hQ
        · rw [nI_ltI hj (by omega)] at hlt
          rw [if_neg hlt] at hQ
          have e5 : (5 : Int32) = nI 5 := by decide
          have ediv : (nI j - nI t.length) / 5 = nI ((j - t.length) / 5) := by rw [e5, pk_sub (by omega), pk_div (by omega) (by omega) (by omega)]
          have erem : nI j - nI t.length - (nI j - nI t.length) / 5 * 5 = nI ((j - t.length) % 5) := by rw [e5, pk_sub (by omega), pk_rem (by omega) (by omega) (by omega)]
          refine ⟨fun hle => ?_, fun hle => ?_⟩
          · rw [ediv, r1, nI_leI (by omega) (by omega)] at hle
            rw [List.getElem?_eq_none hle] at hQ
            exact hQ
          · rw [ediv, r1, nI_leI (by omega) (by omega)] at hle
            have hq := List.getElem?_eq_getElem (l := reasonL s) (i := (j - t.length) / 5) (by omega)
            generalize (reasonL s)[(j - t.length) / 5] = c at hq
            rw [hq] at hQ
            have hcn : c < n * n := by
              unfold reasonL at hq
              rw [hf] at hq
              have hq : (rsL r.2.2 81)[(j - t.length) / 5]? = some c := hq
              rw [(rsL_81 (rs := r.2.2) g7 hok.2.2.1).1] at hq
              exact (rsL_idx hq).1
            have hlen : (reasonL s).length ≤ n * n := by
              unfold reasonL
              rw [hf]
              show (rsL r.2.2 81).length ≤ n * n
              rw [(rsL_81 (rs := r.2.2) g7 hok.2.2.1).1, rsL_len]
              exact rcN_le _ _
            refine ⟨by rw [ediv]; exact vp_in_nI (by omega) (by omega), ?_⟩
            refine c_letterOfCell hR.1.1 hcn (Nat.mod_lt _ (by decide)) (by rw [ediv, nI_clamp (by omega)]; exact r2 _ c hq) erem ?_
            exact hQ
  unfold x_run
  rw [show x_MM k_X7_words = some m_X7_words from rfl]
  dsimp only
  rw [show m_X7_words.tab 0 = none from rfl]
  exact hx
end KI
