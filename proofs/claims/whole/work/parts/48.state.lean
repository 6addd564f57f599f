/-! ===== the model: state, find, solve ===== -/
section ST
variable {sc : Nat × (Nat → Int32)} {f : Nat → x_C} {ms : x_S} {tl : List x_C} {bb : Nat × Nat} {n w h d : Nat} {Q : x_O → x_H → Prop} {cb : Nat → Nat} {vb : Nat → Option Nat}
theorem dnI_s (dn : Nat → Int32) (k : Nat) : dnI dn (k + 1) = dnI dn k + dn k := rfl
theorem r_state (hG : gM ms n w h) (hC : cM ms n cb) (hV : vM ms n vb) {x : Int32} (hB : x = 2 → ∀ b : Bool, (b = true ↔ brk cb n w h) → Q (.inl (some (.int (bI b)))) (w_M f (sF ms 0 0) tl bb)) (hN : x = 3 → Q (.inl (some (.int (nI n)))) (w_M f (sF ms 0 0) tl bb)) (hR : x ≠ 2 → x ≠ 3 → Q (.inl (some (.int (if x = 0 then nI (openN vb (n * n)) else if x = 1 then nI (canN cb vb (n * n)) else if x = 4 then dnI (ms.2 30) 19 else -1)))) (w_M f (sF ms 0 0) tl bb)) : x_run sc x_MM x_EX (d + 4) k_X8_state [.ref 26, .int x] (w_M f ms tl bb) Q := by
  obtain ⟨g1, g2, g3, g4, g5, g6, g7, g8⟩ := hG.2.2.2.le
  have hG5 : gM (sF ms 0 0) n w h := hG
  have hC5 : cM (sF ms 0 0) n cb := hC
  have h29 : ∀ c, c < n * n → cb c < 512 := fun c hc => Nat.lt_of_lt_of_le (hC c hc).2 (Nat.pow_le_pow_right (by omega) g2)
  refine x_in (M := m_X8_state) rfl rfl (Nat.le_of_ble_eq_true rfl) ⟨rfl, rfl, trivial⟩ ?_
  intro P hP
  repeat refine hP _ _ _ _ ?_
  refine And.intro (fun h2 => ?_) (fun h2 => ?_)
  · have h2 : ¬ x = 2 := h2
    repeat refine hP _ _ _ _ ?_
    refine And.intro (fun h3 => ?_) (fun h3 => ?_)
    · have h3 : ¬ x = 3 := h3
      have hR := hR h2 h3
      have fin : ∀ y : Int32, (y = if x = 0 then nI (openN vb (n * n)) else if x = 1 then nI (canN cb vb (n * n)) else if x = 4 then dnI (ms.2 30) 19 else -1) → ∀ L, P 159 L [.int y] (w_M f (sF ms 0 0) tl bb) := by
        intro y hy L
        subst hy
        repeat refine hP _ _ _ _ ?_
        exact hR
      have lp2 : ∀ k, k ≤ 19 → P 106 [some (.ref 26), some (.int x), some (.int (nI (openN vb (n * n)))), some (.int (nI (canN cb vb (n * n)))), some (.int (dnI (ms.2 30) k)), some (.int (nI k))] [] (w_M f (sF ms 0 0) tl bb) := by
        refine x_lp 19 (fun k hk ih => ?_)
        repeat refine hP _ _ _ _ ?_
        refine b_ge (k) (19) (fun hk9 => ?_) (fun hk9 => ?_) (rfl) (ob19) (by omega) (by omega)
        · have e9 : k = 19 := by omega
          subst e9
          repeat refine hP _ _ _ _ ?_
          refine And.intro (fun h0 => ?_) (fun h0 => ?_)
          · have h0 : ¬ x = 0 := h0
            repeat refine hP _ _ _ _ ?_
            refine And.intro (fun h1 => ?_) (fun h1 => ?_)
            · have h1 : ¬ x = 1 := h1
              repeat refine hP _ _ _ _ ?_
              refine And.intro (fun h4 => ?_) (fun h4 => ?_)
              · have h4 : ¬ x = 4 := h4
                refine hP _ _ _ _ ?_
                exact fin _ (by rw [if_neg h0, if_neg h1, if_neg h4]; rfl) _
              · have h4 : x = 4 := Decidable.of_not_not h4
                iterate 2 refine hP _ _ _ _ ?_
                exact fin _ (by rw [if_neg h0, if_neg h1, if_pos h4]) _
            · have h1 : x = 1 := Decidable.of_not_not h1
              iterate 2 refine hP _ _ _ _ ?_
              exact fin _ (by rw [if_neg h0, if_pos h1]) _
          · have h0 : x = 0 := Decidable.of_not_not h0
            iterate 2 refine hP _ _ _ _ ?_
            exact fin _ (by rw [if_pos h0]) _
        · have ih := ih hk9
          repeat refine hP _ _ _ _ ?_
          refine And.intro (vp_in_nI (by omega) (by omega)) ?_
          rw [ldv (f := (sF ms 0 0).2 30) (v := ms.2 30 k) rfl (by omega)]
          iterate 4 refine hP _ _ _ _ ?_
          refine x_p4 (P := P) (ih) ?_ rfl ?_ <;> try (first | rfl | (rw [nI_succ]; rfl))
      have lp1 : ∀ c, c ≤ n * n → P 43 [some (.ref 26), some (.int x), some (.int (nI (openN vb c))), some (.int (nI (canN cb vb c))), some (.int 0), some (.int (nI c))] [] (w_M f (sF ms 0 0) tl bb) := by
        refine x_lp (n * n) (fun c hc ih => ?_)
        repeat refine hP _ _ _ _ ?_
        refine r_cells hG5 ?_
        repeat refine hP _ _ _ _ ?_
        refine b_ge (c) ((n*n)) (fun hc9 => ?_) (fun hc9 => ?_) (rfl) (rfl) (by omega) (by omega)
        · have e9 : c = n * n := by omega
          subst e9
          iterate 2 refine hP _ _ _ _ ?_
          refine x_p4 (P := P) (lp2 0 (by omega)) ?_ rfl ?_ <;> try (first | rfl | (rw [nI_succ]; rfl))
        · have ih := ih hc9
          have inn : vp_in (nI c) 81 := vp_in_nI (by omega) (by omega)
          have hvc := hV c hc9
          have hcc := hC c hc9
          have ho : ∀ s, vb c = some s → s < 2 ^ 31 := fun s hs => by have := hvc.2 s hs; omega
          repeat refine hP _ _ _ _ ?_
          refine And.intro inn ?_
          rw [ldv (f := (sF ms 0 0).2 28) hvc.1 (by omega)]
          repeat refine hP _ _ _ _ ?_
          refine b_vge (fun hv => ?_) (fun hv => ?_) (rfl) (ho)
          · have eo : openN vb (c + 1) = openN vb c + 0 := by show openN vb c + _ = _; rw [if_neg hv]
            have ec : canN cb vb (c + 1) = canN cb vb c + 0 := by show canN cb vb c + _ = _; rw [if_neg hv]
            rw [eo, ec, ← nI_add, ← nI_add, nI_succ] at ih
            repeat refine hP _ _ _ _ ?_
            refine And.intro inn ?_
            rw [ldv (f := (sF ms 0 0).2 28) hvc.1 (by omega)]
            repeat refine hP _ _ _ _ ?_
            refine b_vge (fun hv2 => ?_) (fun hv2 => ?_) (rfl) (ho)
            · iterate 5 refine hP _ _ _ _ ?_
              refine x_p4 (P := P) (ih) ?_ rfl ?_ <;> try (first | rfl | (rw [nI_succ]; rfl))
            · exact absurd hv2 hv
          · have eo : openN vb (c + 1) = openN vb c + 1 := by show openN vb c + _ = _; rw [if_pos hv]
            have ec : canN cb vb (c + 1) = canN cb vb c + pcN (cb c) := by show canN cb vb c + _ = _; rw [if_pos hv]
            rw [eo, ec, ← nI_add, ← nI_add, nI_succ] at ih
            repeat refine hP _ _ _ _ ?_
            refine And.intro inn ?_
            rw [ldv (f := (sF ms 0 0).2 28) hvc.1 (by omega)]
            repeat refine hP _ _ _ _ ?_
            refine b_vge (fun hv2 => ?_) (fun hv2 => ?_) (rfl) (ho)
            · exact absurd hv hv2
            · repeat refine hP _ _ _ _ ?_
              refine And.intro inn ?_
              rw [ldv (f := (sF ms 0 0).2 27) hcc.1 (by omega)]
              repeat refine hP _ _ _ _ ?_
              refine r_countOf (h29 c hc9) ?_
              iterate 5 refine hP _ _ _ _ ?_
              refine x_p4 (P := P) (ih) ?_ rfl ?_ <;> try (first | rfl | (rw [nI_succ]; rfl))
      iterate 8 refine hP _ _ _ _ ?_
      refine x_p4 (P := P) (lp1 0 (by omega)) ?_ rfl ?_ <;> try (first | rfl | (rw [nI_succ]; rfl))
    · have h3 : x = 3 := Decidable.of_not_not h3
      repeat refine hP _ _ _ _ ?_
      exact x_q1 (hN h3) hG.1.symm
  · have h2 : x = 2 := Decidable.of_not_not h2
    have hB := hB h2
    repeat refine hP _ _ _ _ ?_
    refine r_isBroken hG5 hC5 (fun hb => ?_) (fun hb => ?_)
    · repeat refine hP _ _ _ _ ?_
      refine And.intro (fun h9 => absurd (show bI true = 0 from h9) (by decide)) (fun _ => ?_)
      repeat refine hP _ _ _ _ ?_
      exact hB true ⟨fun _ => hb, fun _ => rfl⟩
    · repeat refine hP _ _ _ _ ?_
      refine And.intro (fun _ => ?_) (fun h9 => absurd (show bI false = 0 by decide) h9)
      repeat refine hP _ _ _ _ ?_
      exact hB false ⟨fun e => absurd e (by decide), fun e => absurd e hb⟩
end ST
