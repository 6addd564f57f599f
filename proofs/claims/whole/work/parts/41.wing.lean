/-! ===== the model: step wing ===== -/
theorem ff_s' {R : Type} {ev : Nat → Option R} {N k : Nat} {r : R} (hk : k < N) (h : ev k = some r) : ff ev (N - k) k = some r := by
  rw [show N - k = (N - (k + 1)) + 1 by omega]; exact ff_s h
theorem ff_n' {R : Type} {ev : Nat → Option R} {N k : Nat} (hk : k < N) (h : ev k = none) : ff ev (N - k) k = ff ev (N - (k + 1)) (k + 1) := by
  rw [show N - k = (N - (k + 1)) + 1 by omega]; exact ff_n h
theorem ff_e {R : Type} {ev : Nat → Option R} {N k : Nat} (hk : N ≤ k) : ff ev (N - k) k = none := by
  rw [show N - k = 0 by omega]; rfl
def wgB (n w h : Nat) (gr : Bool) (p q r e : Nat) : Bool := seeN n w h e q && seeN n w h e r && (!gr || seeN n w h e p)
def wgG (cb : Nat → Nat) (n w h : Nat) (gr : Bool) (p q r k : Nat) : Nat → Nat := fun e => if decide (e < k) && wgB n w h gr p q r e then cb e &&& (cb q &&& cb r) else 0
def wgR (p q r : Nat) : Nat → Bool := fun e => e == p || e == q || e == r
def wgE (cb : Nat → Nat) (n w h : Nat) (gr : Bool) (p q r : Nat) : Option rS := if pcN (cb q &&& cb r) = 1 ∧ cb p = (if gr then cb q ||| cb r else clr (cb q ||| cb r) (cb q &&& cb r)) then rOf (wgG cb n w h gr p q r (n * n)) (wgR p q r) else none
def wgT (cb : Nat → Nat) (n w h : Nat) (gr : Bool) (p q r : Nat) : Option rS := if seeN n w h p r && pcN (cb r) == 2 then wgE cb n w h gr p q r else none
def wgQ (cb : Nat → Nat) (n w h : Nat) (gr : Bool) (p q : Nat) : Option rS := if seeN n w h p q && pcN (cb q) == 2 then ff (wgT cb n w h gr p q) (n * n - (q + 1)) (q + 1) else none
def wgP (cb : Nat → Nat) (n w h : Nat) (gr : Bool) (p : Nat) : Option rS := if pcN (cb p) = (if gr then 3 else 2) then ff (wgQ cb n w h gr p) (n * n - 0) 0 else none
def wgS (cb : Nat → Nat) (n w h : Nat) (gr : Bool) : Option rS := ff (wgP cb n w h gr) (n * n - 0) 0
section WG
variable {sc : Nat × (Nat → Int32)} {f : Nat → x_C} {ms : x_S} {tl : List x_C} {bb : Nat × Nat} {n w h d : Nat} {Q : x_O → x_H → Prop} {cb : Nat → Nat}
theorem r_isWing (hG : gM ms n w h) (hC : cM ms n cb) {gr : Bool} {p q r : Nat} (hp : p < n * n) (hq : q < n * n) (hr : r < n * n) (hT : ∀ ms' e, scr ms ms' → wgE cb n w h gr p q r = some e → resM ms' n e → Q (.inl (some (.int (bI true)))) (w_M f ms' tl bb)) (hF : ∀ ms', scr ms ms' → wgE cb n w h gr p q r = none → Q (.inl (some (.int (bI false)))) (w_M f ms' tl bb)) : x_run sc x_MM x_EX (d + 3) k_X8_isWing [.ref 26, .int (nI p), .int (nI q), .int (nI r), .int (bI gr)] (w_M f ms tl bb) Q := by
  obtain ⟨g1, g2, g3, g4, g5, g6, g7, g8⟩ := hG.2.2.2.le
  have hq5 := hC.lt g2 hq
  have hr5 := hC.lt g2 hr
  have hp5 := hC.lt g2 hp
  have hb5 : cb q &&& cb r < 512 := Nat.lt_of_le_of_lt Nat.and_le_left hq5
  have ha5 : cb q ||| cb r < 512 := Nat.or_lt_two_pow (n := 9) hq5 hr5
  have hpc : pcN (cb q &&& cb r) ≤ 9 := pcA_le _ _
  have hc5 : clr (cb q ||| cb r) (cb q &&& cb r) < 512 := Nat.lt_of_le_of_lt (clr_le _ _) ha5
  refine x_in (M := m_X8_isWing) rfl rfl (Nat.le_of_ble_eq_true rfl) ⟨rfl, rfl, rfl, rfl, rfl, trivial⟩ ?_
  intro P hP
  generalize hbo : cb q &&& cb r = bo at *
  generalize hal : cb q ||| cb r = al at *
  have no : wgE cb n w h gr p q r = none → P 65 [some (.ref 26), some (.int (nI p)), some (.int (nI q)), some (.int (nI r)), some (.int (bI gr)), some (.int (nI bo)), some (.int (nI al)), none] [] (w_M f ms tl bb) := by
    intro he
    repeat refine hP _ _ _ _ ?_
    exact And.intro rfl (hF ms (scr.rf ms) he)
  have yes : pcN bo = 1 → cb p = (if gr then al else clr al bo) → P 67 [some (.ref 26), some (.int (nI p)), some (.int (nI q)), some (.int (nI r)), some (.int (bI gr)), some (.int (nI bo)), some (.int (nI al)), none] [] (w_M f ms tl bb) := by
    intro h1 h2
    have hE : wgE cb n w h gr p q r = rOf (wgG cb n w h gr p q r (n * n)) (wgR p q r) := by unfold wgE; rw [hbo, hal, if_pos ⟨h1, h2⟩]
    have loop : ∀ k, k ≤ n * n → ∀ g : Nat → Int32, oM (sA (noneM ms) 32 g) (wgG cb n w h gr p q r k) → P 74 [some (.ref 26), some (.int (nI p)), some (.int (nI q)), some (.int (nI r)), some (.int (bI gr)), some (.int (nI bo)), some (.int (nI al)), some (.int (nI k))] [] (w_M f (sA (noneM ms) 32 g) tl bb) := by
      refine x_lp (n * n) (fun k hk ih g hO => ?_)
      have hG2 : gM (sA (noneM ms) 32 g) n w h := ((noneM_scr ms).tr (scr.a (by decide))).g hG
      have hC2 : cM (sA (noneM ms) 32 g) n cb := ((noneM_scr ms).tr (scr.a (by decide))).c hC
      repeat refine hP _ _ _ _ ?_
      refine r_cells hG2 ?_
      repeat refine hP _ _ _ _ ?_
      refine b_ge (k) ((n*n)) (fun hk9 => ?_) (fun hk9 => ?_) (rfl) (rfl) (by omega) (by omega)
      · have hkn : k = n * n := by omega
        subst hkn
        repeat refine hP _ _ _ _ ?_
        refine And.intro (vp_in_nI (by omega) (by omega)) ?_
        repeat refine hP _ _ _ _ ?_
        refine And.intro (vp_in_nI (by omega) (by omega)) ?_
        repeat refine hP _ _ _ _ ?_
        refine And.intro (vp_in_nI (by omega) (by omega)) ?_
        repeat refine hP _ _ _ _ ?_
        refine x_rX (r_takesN (f := f) (tl := tl) (bb := (0, 0)) (ms := sA (sA (noneM ms) 32 g) 31 (upd (upd (upd ((noneM ms).2 31) (nI p).toNatClampNeg (vp_nar .boolean (Int32.ofInt 1))) (nI q).toNatClampNeg (vp_nar .boolean (Int32.ofInt 1))) (nI r).toNatClampNeg (vp_nar .boolean (Int32.ofInt 1)))) (go := wgG cb n w h gr p q r (n * n)) hO ?_) rfl rfl
        repeat refine hP _ _ _ _ ?_
        refine And.intro (bI_nar _) ?_
        have hR : rM (sA (sA (noneM ms) 32 g) 31 (upd (upd (upd ((noneM ms).2 31) (nI p).toNatClampNeg (vp_nar .boolean (Int32.ofInt 1))) (nI q).toNatClampNeg (vp_nar .boolean (Int32.ofInt 1))) (nI r).toNatClampNeg (vp_nar .boolean (Int32.ofInt 1)))) (wgR p q r) := by
          intro e he
          show upd (upd (upd ((noneM ms).2 31) (nI p).toNatClampNeg (vp_nar .boolean (Int32.ofInt 1))) (nI q).toNatClampNeg (vp_nar .boolean (Int32.ofInt 1))) (nI r).toNatClampNeg (vp_nar .boolean (Int32.ofInt 1)) e = _
          rw [upv (by omega), upv (by omega), upv (by omega)]
          have hz := ((noneM_cl ms).2.2 e he).1
          unfold wgR
          by_cases e1 : e = r
          · subst e1; rw [pk_us, beq_self_eq_true, Bool.or_true]; rfl
          · rw [pk_un e1, beq_eq_false_iff_ne.mpr e1, Bool.or_false]
            by_cases e2 : e = q
            · subst e2; rw [pk_us, beq_self_eq_true, Bool.or_true]; rfl
            · rw [pk_un e2, beq_eq_false_iff_ne.mpr e2, Bool.or_false]
              by_cases e3 : e = p
              · subst e3; rw [pk_us, beq_self_eq_true]; rfl
              · rw [pk_un e3, beq_eq_false_iff_ne.mpr e3, hz]; rfl
        have hs3 : scr ms (sA (sA (noneM ms) 32 g) 31 (upd (upd (upd ((noneM ms).2 31) (nI p).toNatClampNeg (vp_nar .boolean (Int32.ofInt 1))) (nI q).toNatClampNeg (vp_nar .boolean (Int32.ofInt 1))) (nI r).toNatClampNeg (vp_nar .boolean (Int32.ofInt 1)))) := ((noneM_scr ms).tr (scr.a (by decide))).tr (scr.a (by decide))
        cases ha : anyG (wgG cb n w h gr p q r (n * n)) with
        | true => exact hT _ (none, wgG cb n w h gr p q r (n * n), wgR p q r) hs3 (by rw [hE]; unfold rOf; rw [ha]; rfl) ⟨⟨(noneM_cl ms).1, (noneM_cl ms).2.1⟩, hO, hR⟩
        | false => exact hF _ hs3 (by rw [hE]; unfold rOf; rw [ha]; rfl)
      · have ih := ih hk9
        have keep : wgB n w h gr p q r k = false → P 126 [some (.ref 26), some (.int (nI p)), some (.int (nI q)), some (.int (nI r)), some (.int (bI gr)), some (.int (nI bo)), some (.int (nI al)), some (.int (nI k))] [] (w_M f (sA (noneM ms) 32 g) tl bb) := by
          intro hw
          iterate 2 refine hP _ _ _ _ ?_
          refine x_p4 (P := P) (ih g (oM_congr hO ?_)) ?_ rfl ?_ <;> try (first | rfl | (rw [nI_succ]; rfl))
          intro e he
          unfold wgG
          by_cases hek : e = k
          · subst hek; rw [hw, Bool.and_false, Bool.and_false]
          · rw [show decide (e < k + 1) = decide (e < k) by congr 1; apply propext; constructor <;> omega]
        have take : wgB n w h gr p q r k = true → P 118 [some (.ref 26), some (.int (nI p)), some (.int (nI q)), some (.int (nI r)), some (.int (bI gr)), some (.int (nI bo)), some (.int (nI al)), some (.int (nI k))] [] (w_M f (sA (noneM ms) 32 g) tl bb) := by
          intro hw
          repeat refine hP _ _ _ _ ?_
          refine r_leavesN hC2 g2 hO hk9 (by omega) rfl (fun gg hgg => ?_)
          iterate 2 refine hP _ _ _ _ ?_
          refine x_p4 (P := P) (ih gg (oM_congr hgg ?_)) ?_ rfl ?_ <;> try (first | rfl | (rw [nI_succ]; rfl))
          intro e he
          by_cases hek : e = k
          · subst hek
            simp only [if_true]
            unfold wgG
            rw [hw, hbo, decide_eq_false (Nat.lt_irrefl e), decide_eq_true (Nat.lt_succ_self e)]
            simp
          · simp only [hek, if_false]
            unfold wgG
            rw [show decide (e < k + 1) = decide (e < k) by congr 1; apply propext; constructor <;> omega]
        repeat refine hP _ _ _ _ ?_
        refine r_sees hG2 hk9 hq ?_
        repeat refine hP _ _ _ _ ?_
        refine b_ifeq (fun h7 => ?_) (fun h7 => ?_) (rfl)
        · exact keep (by unfold wgB; rw [h7]; rfl)
        · repeat refine hP _ _ _ _ ?_
          refine r_sees hG2 hk9 hr ?_
          repeat refine hP _ _ _ _ ?_
          refine b_ifeq (fun h8 => ?_) (fun h8 => ?_) (rfl)
          · exact keep (by unfold wgB; rw [h7, h8]; rfl)
          · repeat refine hP _ _ _ _ ?_
            refine b_ifeq (fun h9 => ?_) (fun h9 => ?_) (rfl)
            · exact take (by unfold wgB; rw [h7, h8, h9]; rfl)
            · repeat refine hP _ _ _ _ ?_
              refine r_sees hG2 hk9 hp ?_
              repeat refine hP _ _ _ _ ?_
              refine b_ifeq (fun h10 => ?_) (fun h10 => ?_) (rfl)
              · exact keep (by unfold wgB; rw [h7, h8, h9, h10]; rfl)
              · exact take (by unfold wgB; rw [h7, h8, h9, h10]; rfl)
    repeat refine hP _ _ _ _ ?_
    refine r_none ?_
    iterate 2 refine hP _ _ _ _ ?_
    refine x_p4 (P := P) (loop 0 (by omega) ((noneM ms).2 32) (fun e he => ?_)) ?_ rfl ?_ <;> try (first | rfl | (rw [nI_succ]; rfl))
    refine ⟨?_, by unfold wgG; simp⟩
    show (noneM ms).2 32 e = _
    rw [((noneM_cl ms).2.2 e he).2]; unfold wgG; simp; rfl
  have hb : ∀ x y : Int32, x = nI (cb q) → y = nI (cb r) → x &&& y = nI bo := fun x y hx hy => by rw [hx, hy, nx_and, hbo]
  have ha : ∀ x y : Int32, x = nI (cb q) → y = nI (cb r) → x ||| y = nI al := fun x y hx hy => by rw [hx, hy, nx_or, hal]
  have tail : P 30 [some (.ref 26), some (.int (nI p)), some (.int (nI q)), some (.int (nI r)), some (.int (bI gr)), some (.int (nI bo)), some (.int (nI al)), none] [] (w_M f ms tl bb) := by
    repeat refine hP _ _ _ _ ?_
    refine r_countOf hb5 ?_
    repeat refine hP _ _ _ _ ?_
    refine b_ne ((pcN bo)) (1) (fun h1 => ?_) (fun h1 => ?_) (rfl) (rfl) (by omega) (by omega)
    · exact no (by unfold wgE; rw [hbo, hal, if_neg (fun h => h1 h.1)])
    · repeat refine hP _ _ _ _ ?_
      refine And.intro (vp_in_nI (by omega) (by omega)) ?_
      rw [ldv (hC p hp).1 (by omega)]
      repeat refine hP _ _ _ _ ?_
      refine b_ifeq (fun h2 => ?_) (fun h2 => ?_) (rfl)
      · repeat refine hP _ _ _ _ ?_
        refine b_eq ((cb p)) ((clr al bo)) (fun h3 => ?_) (fun h3 => ?_) (rfl) (nx_not al bo) (by omega) (by omega)
        · exact yes h1 (by rw [h2]; exact h3)
        · exact no (by unfold wgE; rw [hbo, hal, if_neg (fun h => h3 (by rw [h2] at h; exact h.2))])
      · repeat refine hP _ _ _ _ ?_
        refine b_eq ((cb p)) (al) (fun h3 => ?_) (fun h3 => ?_) (rfl) (rfl) (by omega) (by omega)
        · exact yes h1 (by rw [h2]; exact h3)
        · exact no (by unfold wgE; rw [hbo, hal, if_neg (fun h => h3 (by rw [h2] at h; exact h.2))])
  repeat refine hP _ _ _ _ ?_
  refine And.intro (vp_in_nI (by omega) (by omega)) ?_
  rw [ldv (hC q hq).1 (by omega)]
  repeat refine hP _ _ _ _ ?_
  refine And.intro (vp_in_nI (by omega) (by omega)) ?_
  rw [ldv (hC r hr).1 (by omega)]
  repeat refine hP _ _ _ _ ?_
  refine And.intro (vp_in_nI (by omega) (by omega)) ?_
  rw [ldv (hC q hq).1 (by omega)]
  repeat refine hP _ _ _ _ ?_
  refine And.intro (vp_in_nI (by omega) (by omega)) ?_
  rw [ldv (hC r hr).1 (by omega)]
  iterate 2 refine hP _ _ _ _ ?_
  refine x_p4 (P := P) (tail) ?_ rfl ?_
  · rw [← hb _ _ rfl rfl, ← ha _ _ rfl rfl]; rfl
  · rfl
theorem r_wing (hG : gM ms n w h) (hC : cM ms n cb) {gr : Bool} (hT : ∀ ms' e, scr ms ms' → wgS cb n w h gr = some e → resM ms' n e → Q (.inl (some (.int (bI true)))) (w_M f ms' tl bb)) (hF : ∀ ms', scr ms ms' → wgS cb n w h gr = none → Q (.inl (some (.int (bI false)))) (w_M f ms' tl bb)) : x_run sc x_MM x_EX (d + 4) k_X8_wing [.ref 26, .int (bI gr)] (w_M f ms tl bb) Q := by
  obtain ⟨g1, g2, g3, g4, g5, g6, g7, g8⟩ := hG.2.2.2.le
  refine x_in (M := m_X8_wing) rfl rfl (Nat.le_of_ble_eq_true rfl) ⟨rfl, rfl, trivial⟩ ?_
  intro P hP
  have loop : ∀ p, p ≤ n * n → ∀ m2, scr ms m2 → wgS cb n w h gr = ff (wgP cb n w h gr) (n * n - p) p → ∀ x3 x4 : Option Value, P 2 [some (.ref 26), some (.int (bI gr)), some (.int (nI p)), x3, x4] [] (w_M f m2 tl bb) := by
    refine x_lp (n * n) (fun p hp ih m2 hm hf x3 x4 => ?_)
    have hG2 := hm.g hG
    have hC2 := hm.c hC
    repeat refine hP _ _ _ _ ?_
    refine r_cells hG2 ?_
    repeat refine hP _ _ _ _ ?_
    refine b_ge (p) ((n*n)) (fun hp9 => ?_) (fun hp9 => ?_) (rfl) (rfl) (by omega) (by omega)
    · repeat refine hP _ _ _ _ ?_
      exact And.intro rfl (hF m2 hm (hf.trans (ff_e hp9)))
    · have ih := ih hp9
      have p5 := hC.lt g2 hp9
      have nextp : ∀ m3, scr ms m3 → wgP cb n w h gr p = none → ∀ x3 x4 : Option Value, P 133 [some (.ref 26), some (.int (bI gr)), some (.int (nI p)), x3, x4] [] (w_M f m3 tl bb) := by
        intro m3 hm3 he x3 x4
        iterate 2 refine hP _ _ _ _ ?_
        refine x_p4 (P := P) (ih m3 hm3 (hf.trans (ff_n' hp9 he)) x3 x4) ?_ rfl ?_ <;> try (first | rfl | (rw [nI_succ]; rfl))
      have hpc : pcN (cb p) ≤ 9 := pcA_le _ _
      have lpq : wgP cb n w h gr p = ff (wgQ cb n w h gr p) (n * n - 0) 0 → ∀ q, q ≤ n * n → ∀ m3, scr ms m3 → ff (wgQ cb n w h gr p) (n * n - 0) 0 = ff (wgQ cb n w h gr p) (n * n - q) q → ∀ x4 : Option Value, P 36 [some (.ref 26), some (.int (bI gr)), some (.int (nI p)), some (.int (nI q)), x4] [] (w_M f m3 tl bb) := by
        intro hP9
        refine x_lp (n * n) (fun q hq ih2 m3 hm3 hfq x4 => ?_)
        have hG3 := hm3.g hG
        have hC3 := hm3.c hC
        repeat refine hP _ _ _ _ ?_
        refine r_cells hG3 ?_
        repeat refine hP _ _ _ _ ?_
        refine b_ge (q) ((n*n)) (fun hq9 => ?_) (fun hq9 => ?_) (rfl) (rfl) (by omega) (by omega)
        · exact nextp m3 hm3 (hP9.trans (hfq.trans (ff_e hq9))) _ _
        · have ih2 := ih2 hq9
          have q5 := hC.lt g2 hq9
          have hqc : pcN (cb q) ≤ 9 := pcA_le _ _
          have nextq : ∀ m4, scr ms m4 → wgQ cb n w h gr p q = none → ∀ x4 : Option Value, P 127 [some (.ref 26), some (.int (bI gr)), some (.int (nI p)), some (.int (nI q)), x4] [] (w_M f m4 tl bb) := by
            intro m4 hm4 he x4
            iterate 2 refine hP _ _ _ _ ?_
            refine x_p4 (P := P) (ih2 m4 hm4 (hfq.trans (ff_n' hq9 he)) x4) ?_ rfl ?_ <;> try (first | rfl | (rw [nI_succ]; rfl))
          repeat refine hP _ _ _ _ ?_
          refine r_sees hG3 hp9 hq9 ?_
          repeat refine hP _ _ _ _ ?_
          refine b_ifeq (fun h1 => ?_) (fun h1 => ?_) (rfl)
          · exact nextq m3 hm3 (by unfold wgQ; rw [h1]; rfl) _
          · repeat refine hP _ _ _ _ ?_
            refine And.intro (vp_in_nI (by omega) (by omega)) ?_
            rw [ldv (hC3 q hq9).1 (by omega)]
            repeat refine hP _ _ _ _ ?_
            refine r_countOf q5 ?_
            repeat refine hP _ _ _ _ ?_
            refine b_eq ((pcN (cb q))) (2) (fun h2 => ?_) (fun h2 => ?_) (rfl) (rfl) (by omega) (by omega)
            · have hQ9 : wgQ cb n w h gr p q = ff (wgT cb n w h gr p q) (n * n - (q + 1)) (q + 1) := by unfold wgQ; rw [h1, h2]; rfl
              have lpr : ∀ r, r ≤ n * n → q + 1 ≤ r → ∀ m4, scr ms m4 → ff (wgT cb n w h gr p q) (n * n - (q + 1)) (q + 1) = ff (wgT cb n w h gr p q) (n * n - r) r → P 74 [some (.ref 26), some (.int (bI gr)), some (.int (nI p)), some (.int (nI q)), some (.int (nI r))] [] (w_M f m4 tl bb) := by
                refine x_lp (n * n) (fun r hr ih3 hqr m4 hm4 hfr => ?_)
                have hG4 := hm4.g hG
                have hC4 := hm4.c hC
                repeat refine hP _ _ _ _ ?_
                refine r_cells hG4 ?_
                repeat refine hP _ _ _ _ ?_
                refine b_ge (r) ((n*n)) (fun hr9 => ?_) (fun hr9 => ?_) (rfl) (rfl) (by omega) (by omega)
                · exact nextq m4 hm4 (hQ9.trans (hfr.trans (ff_e hr9))) _
                · have ih3 := ih3 hr9
                  have r5 := hC.lt g2 hr9
                  have hrc : pcN (cb r) ≤ 9 := pcA_le _ _
                  have nextr : ∀ m5, scr ms m5 → wgT cb n w h gr p q r = none → P 121 [some (.ref 26), some (.int (bI gr)), some (.int (nI p)), some (.int (nI q)), some (.int (nI r))] [] (w_M f m5 tl bb) := by
                    intro m5 hm5 he
                    iterate 2 refine hP _ _ _ _ ?_
                    refine x_p4 (P := P) (ih3 (by omega) m5 hm5 (hfr.trans (ff_n' hr9 he))) ?_ rfl ?_ <;> try (first | rfl | (rw [nI_succ]; rfl))
                  repeat refine hP _ _ _ _ ?_
                  refine r_sees hG4 hp9 hr9 ?_
                  repeat refine hP _ _ _ _ ?_
                  refine b_ifeq (fun h3 => ?_) (fun h3 => ?_) (rfl)
                  · exact nextr m4 hm4 (by unfold wgT; rw [h3]; rfl)
                  · repeat refine hP _ _ _ _ ?_
                    refine And.intro (vp_in_nI (by omega) (by omega)) ?_
                    rw [ldv (hC4 r hr9).1 (by omega)]
                    repeat refine hP _ _ _ _ ?_
                    refine r_countOf r5 ?_
                    repeat refine hP _ _ _ _ ?_
                    refine b_ne ((pcN (cb r))) (2) (fun h4 => ?_) (fun h4 => ?_) (rfl) (rfl) (by omega) (by omega)
                    · exact nextr m4 hm4 (by unfold wgT; rw [h3, beq_eq_false_iff_ne.mpr h4]; rfl)
                    · have hTe : wgT cb n w h gr p q r = wgE cb n w h gr p q r := by unfold wgT; rw [h3, h4]; rfl
                      repeat refine hP _ _ _ _ ?_
                      refine r_isWing hG4 hC4 hp9 hq9 hr9 (fun m5 e hm5 he hres => ?_) (fun m5 hm5 he => ?_)
                      · repeat refine hP _ _ _ _ ?_
                        refine And.intro (fun h9 => absurd (show bI true = 0 from h9) (by decide)) (fun _ => ?_)
                        repeat refine hP _ _ _ _ ?_
                        exact And.intro rfl (hT m5 e (hm4.tr hm5) (hf.trans (ff_s' hp9 (hP9.trans (hfq.trans (ff_s' hq9 (hQ9.trans (hfr.trans (ff_s' hr9 (hTe.trans he))))))))) hres)
                      · repeat refine hP _ _ _ _ ?_
                        refine And.intro (fun _ => ?_) (fun h9 => absurd (show bI false = 0 by decide) h9)
                        exact nextr m5 (hm4.tr hm5) (hTe.trans he)
              iterate 4 refine hP _ _ _ _ ?_
              refine x_p4 (P := P) (lpr (q + 1) (by omega) (Nat.le_refl _) m3 hm3 rfl) ?_ rfl ?_ <;> try (first | rfl | (rw [nI_succ]; rfl))
            · refine hP _ _ _ _ ?_
              refine x_p4 (P := P) (nextq m3 hm3 (by unfold wgQ; rw [h1, beq_eq_false_iff_ne.mpr h2]; rfl) x4) ?_ rfl ?_ <;> try (first | rfl | (rw [nI_succ]; rfl))
      have test : ∀ x : Int32, x = nI (if gr then 3 else 2) → P 28 [some (.ref 26), some (.int (bI gr)), some (.int (nI p)), x3, x4] [.int x, .int (nI (pcN (cb p)))] (w_M f m2 tl bb) := by
        intro x hx
        repeat refine hP _ _ _ _ ?_
        refine b_eq (pcN (cb p)) (if gr then 3 else 2) (fun h1 => ?_) (fun h1 => ?_) rfl hx (by omega) (by split <;> omega)
        · iterate 2 refine hP _ _ _ _ ?_
          refine x_p4 (P := P) (lpq (by unfold wgP; rw [if_pos h1]) 0 (by omega) m2 hm rfl x4) ?_ rfl ?_ <;> try (first | rfl | (rw [nI_succ]; rfl))
        · refine hP _ _ _ _ ?_
          refine x_p4 (P := P) (nextp m2 hm (by unfold wgP; rw [if_neg h1]) x3 x4) ?_ rfl ?_ <;> try (first | rfl | (rw [nI_succ]; rfl))
      repeat refine hP _ _ _ _ ?_
      refine And.intro (vp_in_nI (by omega) (by omega)) ?_
      rw [ldv (hC2 p hp9).1 (by omega)]
      repeat refine hP _ _ _ _ ?_
      refine r_countOf p5 ?_
      repeat refine hP _ _ _ _ ?_
      refine b_ifeq (fun h1 => ?_) (fun h1 => ?_) (rfl)
      · subst h1
        refine hP _ _ _ _ ?_
        refine x_p4 (P := P) (test _ oi2) ?_ rfl ?_ <;> try (first | rfl | (rw [nI_succ]; rfl))
      · subst h1
        iterate 2 refine hP _ _ _ _ ?_
        refine x_p4 (P := P) (test _ oi3) ?_ rfl ?_ <;> try (first | rfl | (rw [nI_succ]; rfl))
  iterate 2 refine hP _ _ _ _ ?_
  refine x_p4 (P := P) (loop 0 (by omega) ms (scr.rf ms) rfl none none) ?_ rfl ?_ <;> try (first | rfl | (rw [nI_succ]; rfl))
end WG
