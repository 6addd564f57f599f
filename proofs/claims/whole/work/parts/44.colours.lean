/-! ===== the model: step colours ===== -/
def clB (n w h : Nat) (x : Nat → Bool) (N : Nat) : Bool := (List.range N).any fun a => (List.range a).any fun b => seeN n w h a b && (x a && x b)
def soB (n w h : Nat) (x : Nat → Bool) (c : Nat) : Bool := (List.range (n * n)).any fun e => seeN n w h c e && x e
def clI (n w h : Nat) (lt dk : Nat → Bool) (e : Nat) : Bool := if clB n w h lt (n * n) then lt e else if clB n w h dk (n * n) then dk e else !(lt e || dk e) && soB n w h lt e && soB n w h dk e
def clG (cb : Nat → Nat) (n w h s : Nat) (lt dk : Nat → Bool) (k : Nat) : Nat → Nat := fun e => if decide (e < k) && clI n w h lt dk e then cb e &&& 2 ^ s else 0
def clR (lt dk : Nat → Bool) (k : Nat) : Nat → Bool := fun e => decide (e < k) && (lt e || dk e)
def lsB (lt dk : Nat → Bool) (fr k : Nat) : Bool := (List.range k).all fun c => !(lt c || dk c) || decide (fr ≤ c)
def clE (cb : Nat → Nat) (n w h s fr : Nat) (lt dk : Nat → Bool) : Option rS := if (cb fr).testBit s = true ∧ 2 ≤ rcN (fun c => lt c || dk c) (n * n) ∧ lsB lt dk fr (n * n) = true then rOf (clG cb n w h s lt dk (n * n)) (clR lt dk (n * n)) else none
noncomputable def clF (cb : Nat → Nat) (n w h s fr : Nat) : Option rS := clE cb n w h s fr (rcB (lkN cb n w h s) (n * n) fr true) (rcB (lkN cb n w h s) (n * n) fr false)
noncomputable def clS (cb : Nat → Nat) (n w h : Nat) : Option rS := ff (fun s => ff (clF cb n w h s) (n * n - 0) 0) (n - 0) 0
theorem all_s (p : Nat → Bool) (k : Nat) : (List.range (k + 1)).all p = ((List.range k).all p && p k) := by
  rw [List.range_succ, List.all_append]
  simp
section CL3
variable {sc : Nat × (Nat → Int32)} {f : Nat → x_C} {ms : x_S} {tl : List x_C} {bb : Nat × Nat} {n w h d : Nat} {Q : x_O → x_H → Prop} {cb : Nat → Nat} {lt dk : Nat → Bool}
theorem r_clash (hG : gM ms n w h) (hL : ldM ms lt dk) {li : Bool} (hQ : Q (.inl (some (.int (bI (clB n w h (fun c => if li then lt c else dk c) (n * n)))))) (w_M f ms tl bb)) : x_run sc x_MM x_EX (d + 3) k_X8_clash [.ref 26, .int (bI li)] (w_M f ms tl bb) Q := by
  obtain ⟨g1, g2, g3, g4, g5, g6, g7, g8⟩ := hG.2.2.2.le
  generalize hx : (fun c => if li then lt c else dk c) = x at hQ
  have hxe : ∀ c, x c = if li then lt c else dk c := fun c => by rw [← hx]
  refine x_in (M := m_X8_clash) rfl rfl (Nat.le_of_ble_eq_true rfl) ⟨rfl, rfl, trivial⟩ ?_
  intro P hP
  have loop : ∀ a, a ≤ n * n → clB n w h x a = false → ∀ x3 : Option Value, P 2 [some (.ref 26), some (.int (bI li)), some (.int (nI a)), x3] [] (w_M f ms tl bb) := by
    refine x_lp (n * n) (fun a ha ih hz x3 => ?_)
    repeat refine hP _ _ _ _ ?_
    refine r_cells hG ?_
    repeat refine hP _ _ _ _ ?_
    refine b_ge (a) ((n*n)) (fun ha9 => ?_) (fun ha9 => ?_) (rfl) (rfl) (by omega) (by omega)
    · have e : a = n * n := by omega
      subst e
      rw [hz] at hQ
      repeat refine hP _ _ _ _ ?_
      exact And.intro rfl hQ
    · have ih := ih ha9
      unfold clB at ih hz
      rw [any_s, hz, Bool.false_or] at ih
      have la := hL a (by omega)
      have ina : vp_in (nI a) 81 := vp_in_nI (by omega) (by omega)
      have lpb : ∀ b, b ≤ a → ((List.range b).any fun b => seeN n w h a b && (x a && x b)) = false → P 12 [some (.ref 26), some (.int (bI li)), some (.int (nI a)), some (.int (nI b))] [] (w_M f ms tl bb) := by
        refine x_lp a (fun b hb ihb hzb => ?_)
        repeat refine hP _ _ _ _ ?_
        refine b_ge (b) (a) (fun hb9 => ?_) (fun hb9 => ?_) (rfl) (rfl) (by omega) (by omega)
        · have e : b = a := by omega
          subst e
          iterate 2 refine hP _ _ _ _ ?_
          refine x_p4 (P := P) (ih hzb (some (.int (nI b)))) ?_ rfl ?_ <;> try (first | rfl | (rw [nI_succ]; rfl))
        · have ihb := ihb hb9
          rw [any_s, hzb, Bool.false_or] at ihb
          have lb := hL b (by omega)
          have inb : vp_in (nI b) 81 := vp_in_nI (by omega) (by omega)
          have next : (seeN n w h a b && (x a && x b)) = false → P 71 [some (.ref 26), some (.int (bI li)), some (.int (nI a)), some (.int (nI b))] [] (w_M f ms tl bb) := by
            intro h0
            iterate 2 refine hP _ _ _ _ ?_
            refine x_p4 (P := P) (ihb h0) ?_ rfl ?_ <;> try (first | rfl | (rw [nI_succ]; rfl))
          have yes : (seeN n w h a b && (x a && x b)) = true → P 69 [some (.ref 26), some (.int (bI li)), some (.int (nI a)), some (.int (nI b))] [] (w_M f ms tl bb) := by
            intro h0
            have hy : clB n w h x (n * n) = true := by
              unfold clB
              exact List.any_eq_true.mpr ⟨a, List.mem_range.mpr ha9, List.any_eq_true.mpr ⟨b, List.mem_range.mpr hb9, h0⟩⟩
            rw [hy] at hQ
            repeat refine hP _ _ _ _ ?_
            exact And.intro rfl hQ
          repeat refine hP _ _ _ _ ?_
          refine r_sees hG ha9 (by omega) ?_
          repeat refine hP _ _ _ _ ?_
          refine b_ifeq (fun h1 => ?_) (fun h1 => ?_) (rfl)
          · exact next (by rw [h1]; rfl)
          · repeat refine hP _ _ _ _ ?_
            refine b_ifeq (fun h2 => ?_) (fun h2 => ?_) (rfl)
            · have ea : x a = dk a := by rw [hxe, h2]; rfl
              have eb : x b = dk b := by rw [hxe, h2]; rfl
              repeat refine hP _ _ _ _ ?_
              refine And.intro ina ?_
              rw [ldv la.2.2 (by omega)]
              repeat refine hP _ _ _ _ ?_
              refine b_ifeq (fun h3 => ?_) (fun h3 => ?_) (rfl)
              · exact next (by rw [h1, ea, h3]; rfl)
              · repeat refine hP _ _ _ _ ?_
                refine And.intro inb ?_
                rw [ldv lb.2.2 (by omega)]
                repeat refine hP _ _ _ _ ?_
                refine b_ifeq (fun h4 => ?_) (fun h4 => ?_) (rfl)
                · exact next (by rw [h1, ea, eb, h3, h4]; rfl)
                · exact yes (by rw [h1, ea, eb, h3, h4]; rfl)
            · have ea : x a = lt a := by rw [hxe, h2]; rfl
              have eb : x b = lt b := by rw [hxe, h2]; rfl
              repeat refine hP _ _ _ _ ?_
              refine And.intro ina ?_
              rw [ldv la.2.1 (by omega)]
              repeat refine hP _ _ _ _ ?_
              refine b_ifeq (fun h3 => ?_) (fun h3 => ?_) (rfl)
              · exact next (by rw [h1, ea, h3]; rfl)
              · repeat refine hP _ _ _ _ ?_
                refine And.intro inb ?_
                rw [ldv lb.2.1 (by omega)]
                repeat refine hP _ _ _ _ ?_
                refine b_ifeq (fun h4 => ?_) (fun h4 => ?_) (rfl)
                · exact next (by rw [h1, ea, eb, h3, h4]; rfl)
                · refine hP _ _ _ _ ?_
                  refine x_p4 (P := P) (yes (by rw [h1, ea, eb, h3, h4]; rfl)) ?_ rfl ?_ <;> try (first | rfl | (rw [nI_succ]; rfl))
      iterate 2 refine hP _ _ _ _ ?_
      refine x_p4 (P := P) (lpb 0 (by omega) rfl) ?_ rfl ?_ <;> try (first | rfl | (rw [nI_succ]; rfl))
  iterate 2 refine hP _ _ _ _ ?_
  refine x_p4 (P := P) (loop 0 (by omega) rfl none) ?_ rfl ?_ <;> try (first | rfl | (rw [nI_succ]; rfl))
theorem r_seesOne (hG : gM ms n w h) (hL : ldM ms lt dk) {li : Bool} {c : Nat} (hc : c < n * n) (hQ : Q (.inl (some (.int (bI (soB n w h (fun c => if li then lt c else dk c) c))))) (w_M f ms tl bb)) : x_run sc x_MM x_EX (d + 3) k_X8_seesOne [.ref 26, .int (nI c), .int (bI li)] (w_M f ms tl bb) Q := by
  obtain ⟨g1, g2, g3, g4, g5, g6, g7, g8⟩ := hG.2.2.2.le
  generalize hx : (fun c => if li then lt c else dk c) = x at hQ
  have hxe : ∀ c, x c = if li then lt c else dk c := fun c => by rw [← hx]
  unfold soB at hQ
  refine x_in (M := m_X8_seesOne) rfl rfl (Nat.le_of_ble_eq_true rfl) ⟨rfl, rfl, rfl, trivial⟩ ?_
  intro P hP
  have loop : ∀ e, e ≤ n * n → ((List.range e).any fun e => seeN n w h c e && x e) = false → P 2 [some (.ref 26), some (.int (nI c)), some (.int (bI li)), some (.int (nI e))] [] (w_M f ms tl bb) := by
    refine x_lp (n * n) (fun e he ih hz => ?_)
    repeat refine hP _ _ _ _ ?_
    refine r_cells hG ?_
    repeat refine hP _ _ _ _ ?_
    refine b_ge (e) ((n*n)) (fun he9 => ?_) (fun he9 => ?_) (rfl) (rfl) (by omega) (by omega)
    · have e9 : e = n * n := by omega
      subst e9
      rw [hz] at hQ
      repeat refine hP _ _ _ _ ?_
      exact And.intro rfl hQ
    · have ih := ih he9
      rw [any_s, hz, Bool.false_or] at ih
      have le := hL e (by omega)
      have ine : vp_in (nI e) 81 := vp_in_nI (by omega) (by omega)
      have next : (seeN n w h c e && x e) = false → P 46 [some (.ref 26), some (.int (nI c)), some (.int (bI li)), some (.int (nI e))] [] (w_M f ms tl bb) := by
        intro h0
        iterate 2 refine hP _ _ _ _ ?_
        refine x_p4 (P := P) (ih h0) ?_ rfl ?_ <;> try (first | rfl | (rw [nI_succ]; rfl))
      have yes : (seeN n w h c e && x e) = true → P 44 [some (.ref 26), some (.int (nI c)), some (.int (bI li)), some (.int (nI e))] [] (w_M f ms tl bb) := by
        intro h0
        have hy : ((List.range (n * n)).any fun e => seeN n w h c e && x e) = true := List.any_eq_true.mpr ⟨e, List.mem_range.mpr he9, h0⟩
        rw [hy] at hQ
        repeat refine hP _ _ _ _ ?_
        exact And.intro rfl hQ
      repeat refine hP _ _ _ _ ?_
      refine r_sees hG hc he9 ?_
      repeat refine hP _ _ _ _ ?_
      refine b_ifeq (fun h1 => ?_) (fun h1 => ?_) (rfl)
      · exact next (by rw [h1]; rfl)
      · repeat refine hP _ _ _ _ ?_
        refine b_ifeq (fun h2 => ?_) (fun h2 => ?_) (rfl)
        · have ea : x e = dk e := by rw [hxe, h2]; rfl
          repeat refine hP _ _ _ _ ?_
          refine And.intro ine ?_
          rw [ldv le.2.2 (by omega)]
          repeat refine hP _ _ _ _ ?_
          refine b_ifeq (fun h3 => ?_) (fun h3 => ?_) (rfl)
          · exact next (by rw [h1, ea, h3]; rfl)
          · exact yes (by rw [h1, ea, h3]; rfl)
        · have ea : x e = lt e := by rw [hxe, h2]; rfl
          repeat refine hP _ _ _ _ ?_
          refine And.intro ine ?_
          rw [ldv le.2.1 (by omega)]
          repeat refine hP _ _ _ _ ?_
          refine b_ifeq (fun h3 => ?_) (fun h3 => ?_) (rfl)
          · exact next (by rw [h1, ea, h3]; rfl)
          · refine hP _ _ _ _ ?_
            refine x_p4 (P := P) (yes (by rw [h1, ea, h3]; rfl)) ?_ rfl ?_ <;> try (first | rfl | (rw [nI_succ]; rfl))
  iterate 2 refine hP _ _ _ _ ?_
  refine x_p4 (P := P) (loop 0 (by omega) rfl) ?_ rfl ?_ <;> try (first | rfl | (rw [nI_succ]; rfl))
theorem r_colours (hG : gM ms n w h) (hC : cM ms n cb) (hT : ∀ ms' r, scr ms ms' → clS cb n w h = some r → resM ms' n r → Q (.inl (some (.int (bI true)))) (w_M f ms' tl bb)) (hF : ∀ ms', scr ms ms' → clS cb n w h = none → Q (.inl (some (.int (bI false)))) (w_M f ms' tl bb)) : x_run sc x_MM x_EX (d + 5) k_X8_colours [.ref 26] (w_M f ms tl bb) Q := by
  obtain ⟨g1, g2, g3, g4, g5, g6, g7, g8⟩ := hG.2.2.2.le
  refine x_in (M := m_X8_colours) rfl rfl (Nat.le_of_ble_eq_true rfl) ⟨rfl, trivial⟩ ?_
  intro P hP
  have loop : ∀ s, s ≤ n → ∀ m2, scr ms m2 → clS cb n w h = ff (fun s => ff (clF cb n w h s) (n * n - 0) 0) (n - s) s → ∀ x2 x3 x4 x5 x6 x7 x8 : Option Value, P 2 [some (.ref 26), some (.int (nI s)), x2, x3, x4, x5, x6, x7, x8] [] (w_M f m2 tl bb) := by
    refine x_lp n (fun s hs ih m2 hm hf x2 x3 x4 x5 x6 x7 x8 => ?_)
    have hG2 := hm.g hG
    repeat refine hP _ _ _ _ ?_
    refine b_ge (s) (n) (fun hs9 => ?_) (fun hs9 => ?_) (rfl) (hG2.1) (by omega) (by omega)
    · repeat refine hP _ _ _ _ ?_
      exact And.intro rfl (hF m2 hm (hf.trans (ff_e hs9)))
    · have ih := ih hs9
      have lpf : ∀ fr, fr ≤ n * n → ∀ m3, scr ms m3 → ff (clF cb n w h s) (n * n - 0) 0 = ff (clF cb n w h s) (n * n - fr) fr → ∀ x3 x4 x5 x6 x7 x8 : Option Value, P 12 [some (.ref 26), some (.int (nI s)), some (.int (nI fr)), x3, x4, x5, x6, x7, x8] [] (w_M f m3 tl bb) := by
        refine x_lp (n * n) (fun fr hfr ihf m3 hm3 hff x3 x4 x5 x6 x7 x8 => ?_)
        have hG3 := hm3.g hG
        have hC3 := hm3.c hC
        repeat refine hP _ _ _ _ ?_
        refine r_cells hG3 ?_
        repeat refine hP _ _ _ _ ?_
        refine b_ge (fr) ((n*n)) (fun hf9 => ?_) (fun hf9 => ?_) (rfl) (rfl) (by omega) (by omega)
        · iterate 2 refine hP _ _ _ _ ?_
          refine x_p4 (P := P) (ih m3 hm3 (hf.trans (ff_n' hs9 (hff.trans (ff_e hf9)))) (some (.int (nI fr))) x3 x4 x5 x6 x7 x8) ?_ rfl ?_ <;> try (first | rfl | (rw [nI_succ]; rfl))
        · have ihf := ihf hf9
          have next : ∀ m4, scr ms m4 → clF cb n w h s fr = none → ∀ x3 x4 x5 x6 x7 x8 : Option Value, P 273 [some (.ref 26), some (.int (nI s)), some (.int (nI fr)), x3, x4, x5, x6, x7, x8] [] (w_M f m4 tl bb) := by
            intro m4 hm4 he x3 x4 x5 x6 x7 x8
            iterate 2 refine hP _ _ _ _ ?_
            refine x_p4 (P := P) (ihf m4 hm4 (hff.trans (ff_n' hf9 he)) x3 x4 x5 x6 x7 x8) ?_ rfl ?_ <;> try (first | rfl | (rw [nI_succ]; rfl))
          repeat refine hP _ _ _ _ ?_
          refine r_has (b := cb fr) (by omega) (by omega) (hC3 fr hf9).1 (hC.lt g2 hf9) ?_
          repeat refine hP _ _ _ _ ?_
          refine b_ifne (fun hb => ?_) (fun hb => ?_) (rfl)
          · repeat refine hP _ _ _ _ ?_
            refine r_colour hG3 hC3 hf9 hs9 (fun m4 hm4' hld => ?_)
            have hm4 := hm3.tr hm4'
            have hG4 := hm4.g hG
            have hC4 := hm4.c hC
            have hFe : clF cb n w h s fr = clE cb n w h s fr (rcB (lkN cb n w h s) (n * n) fr true) (rcB (lkN cb n w h s) (n * n) fr false) := rfl
            generalize rcB (lkN cb n w h s) (n * n) fr true = lt at hld hFe
            generalize rcB (lkN cb n w h s) (n * n) fr false = dk at hld hFe
            have cnt : ∀ c, c ≤ n * n → P 46 [some (.ref 26), some (.int (nI s)), some (.int (nI fr)), some (.int (nI (rcN (fun c => lt c || dk c) c))), some (.int (bI (lsB lt dk fr c))), some (.int (nI c)), x6, x7, x8] [] (w_M f m4 tl bb) := by
              refine x_lp (n * n) (fun c hc ihc => ?_)
              repeat refine hP _ _ _ _ ?_
              refine r_cells hG4 ?_
              repeat refine hP _ _ _ _ ?_
              refine b_ge (c) ((n*n)) (fun hc9 => ?_) (fun hc9 => ?_) (rfl) (rfl) (by omega) (by omega)
              · have e9 : c = n * n := by omega
                subst e9
                have hrl := rcN_le (fun c => lt c || dk c) (n * n)
                repeat refine hP _ _ _ _ ?_
                refine b_lt ((rcN (fun c => lt c || dk c) (n * n))) (2) (fun h1 => ?_) (fun h1 => ?_) (rfl) (rfl) (by omega) (by omega)
                · exact next m4 hm4 (hFe.trans (by unfold clE; rw [if_neg (fun h => by omega)])) _ _ _ _ _ _
                · repeat refine hP _ _ _ _ ?_
                  refine b_ifne (fun h2 => ?_) (fun h2 => ?_) (rfl)
                  · have hE : clF cb n w h s fr = rOf (clG cb n w h s lt dk (n * n)) (clR lt dk (n * n)) := hFe.trans (by unfold clE; rw [if_pos ⟨hb, h1, h2⟩])
                    have hs5 : scr ms (noneM m4) := hm4.tr (noneM_scr m4)
                    have hld5 : ldM (noneM m4) lt dk := hld
                    have hG5 := hs5.g hG
                    have lp : ∀ (da : Bool), (∀ e, clI n w h lt dk e = if clB n w h lt (n * n) then lt e else if da then dk e else !(lt e || dk e) && soB n w h lt e && soB n w h dk e) → ∀ e, e ≤ n * n → ∀ m6, scr ms m6 → ldM m6 lt dk → m6.1 11 = -1 → m6.1 12 = -1 → oM m6 (clG cb n w h s lt dk e) → rM m6 (clR lt dk e) → ∀ x8 : Option Value, P 154 [some (.ref 26), some (.int (nI s)), some (.int (nI fr)), some (.int (nI (rcN (fun c => lt c || dk c) (n * n)))), some (.int (bI true)), some (.int (bI (clB n w h lt (n * n)))), some (.int (bI da)), some (.int (nI e)), x8] [] (w_M f m6 tl bb) := by
                      intro da hda
                      refine x_lp (n * n) (fun e he ihe m6 hm6 hl6 h11 h12 hO hR x8 => ?_)
                      have hG6 := hm6.g hG
                      have hC6 := hm6.c hC
                      repeat refine hP _ _ _ _ ?_
                      refine r_cells hG6 ?_
                      repeat refine hP _ _ _ _ ?_
                      refine b_ge (e) ((n*n)) (fun he9 => ?_) (fun he9 => ?_) (rfl) (rfl) (by omega) (by omega)
                      · have e9 : e = n * n := by omega
                        subst e9
                        repeat refine hP _ _ _ _ ?_
                        refine r_takesN hO ?_
                        repeat refine hP _ _ _ _ ?_
                        refine b_ifeq (fun h3 => ?_) (fun h3 => ?_) (rfl)
                        · exact next m6 hm6 (hE.trans (by unfold rOf; rw [h3]; rfl)) _ _ _ _ _ _
                        · repeat refine hP _ _ _ _ ?_
                          exact And.intro rfl (hT m6 (none, clG cb n w h s lt dk (n * n), clR lt dk (n * n)) hm6 (hf.trans (ff_s' hs9 (hff.trans (ff_s' hf9 (hE.trans (by unfold rOf; rw [h3]; rfl)))))) ⟨⟨h11, h12⟩, hO, hR⟩)
                      · have ihe := ihe he9
                        have le := hl6 e (by omega)
                        have ine : vp_in (nI e) 81 := vp_in_nI (by omega) (by omega)
                        have le7 : ∀ u v, ldM (sA (sA m6 31 u) 32 v) lt dk := fun _ _ => hl6
                        repeat refine hP _ _ _ _ ?_
                        refine And.intro ine ?_
                        rw [ldv le.1 (by omega)]
                        repeat refine hP _ _ _ _ ?_
                        refine And.intro ine ?_
                        rw [show upd (m6.2 31) (nI e).toNatClampNeg (vp_nar .boolean (bI (lt e || dk e))) = upd (m6.2 31) e (bI (lt e || dk e)) by rw [upv (by omega), bI_nb]]
                        have hR7 : rM (sA m6 31 (upd (m6.2 31) e (bI (lt e || dk e)))) (clR lt dk (e + 1)) := by
                          intro c hc
                          show upd (m6.2 31) e (bI (lt e || dk e)) c = _
                          unfold clR
                          by_cases hce : c = e
                          · subst hce; rw [pk_us, decide_eq_true (Nat.lt_succ_self c), Bool.true_and]
                          · rw [pk_un hce, hR c hc]
                            unfold clR
                            rw [show decide (c < e + 1) = decide (c < e) by congr 1; apply propext; constructor <;> omega]
                        have fin : ∀ x : Int32, x = bI (clI n w h lt dk e) → P 242 [some (.ref 26), some (.int (nI s)), some (.int (nI fr)), some (.int (nI (rcN (fun c => lt c || dk c) (n * n)))), some (.int (bI true)), some (.int (bI (clB n w h lt (n * n)))), some (.int (bI da)), some (.int (nI e)), x8] [.int x] (w_M f (sA m6 31 (upd (m6.2 31) e (bI (lt e || dk e)))) tl bb) := by
                          intro x hx
                          subst hx
                          repeat refine hP _ _ _ _ ?_
                          refine b_ifeq (fun h4 => ?_) (fun h4 => ?_) (rfl)
                          · iterate 2 refine hP _ _ _ _ ?_
                            refine x_p4 (P := P) (ihe (sA m6 31 (upd (m6.2 31) e (bI (lt e || dk e)))) (hm6.tr (scr.a (by decide))) hl6 h11 h12 (oM_congr (show oM _ (clG cb n w h s lt dk e) from hO) ?_) hR7 (some (.int (bI (clI n w h lt dk e))))) ?_ rfl ?_ <;> try (first | rfl | (rw [nI_succ]; rfl))
                            intro c hc
                            unfold clG
                            by_cases hce : c = e
                            · subst hce; rw [h4, Bool.and_false, Bool.and_false]
                            · rw [show decide (c < e + 1) = decide (c < e) by congr 1; apply propext; constructor <;> omega]
                          · repeat refine hP _ _ _ _ ?_
                            refine r_leavesN (ms := sA m6 31 (upd (m6.2 31) e (bI (lt e || dk e)))) hC6 g2 hO he9 (by omega) (sh1 (by omega)) (fun gg hgg => ?_)
                            iterate 2 refine hP _ _ _ _ ?_
                            refine x_p4 (P := P) (ihe (sA (sA m6 31 (upd (m6.2 31) e (bI (lt e || dk e)))) 32 gg) (hm6.tr ((scr.a (by decide)).tr (scr.a (by decide)))) hl6 h11 h12 (oM_congr hgg ?_) hR7 (some (.int (bI (clI n w h lt dk e))))) ?_ rfl ?_ <;> try (first | rfl | (rw [nI_succ]; rfl))
                            intro c hc
                            by_cases hce : c = e
                            · subst hce
                              simp only [if_true]
                              unfold clG
                              rw [h4, decide_eq_false (Nat.lt_irrefl c), decide_eq_true (Nat.lt_succ_self c)]
                              simp
                            · simp only [hce, if_false]
                              unfold clG
                              rw [show decide (c < e + 1) = decide (c < e) by congr 1; apply propext; constructor <;> omega]
                        have hda := hda e
                        repeat refine hP _ _ _ _ ?_
                        refine b_ifeq (fun h4 => ?_) (fun h4 => ?_) (rfl)
                        · rw [h4] at hda
                          repeat refine hP _ _ _ _ ?_
                          refine b_ifeq (fun h5 => ?_) (fun h5 => ?_) (rfl)
                          · rw [h5] at hda
                            repeat refine hP _ _ _ _ ?_
                            refine And.intro ine ?_
                            rw [ldv (f := m6.2 38) le.1 (by omega)]
                            repeat refine hP _ _ _ _ ?_
                            refine b_ifne (fun h6 => ?_) (fun h6 => ?_) (rfl)
                            · refine hP _ _ _ _ ?_
                              refine x_p4 (P := P) (fin (bI false) (by rw [hda, h6]; rfl)) ?_ rfl ?_ <;> try (first | rfl | (rw [nI_succ]; rfl))
                            · repeat refine hP _ _ _ _ ?_
                              refine r_seesOne (ms := sA m6 31 (upd (m6.2 31) e (bI (lt e || dk e)))) (li := true) hG6 hl6 he9 ?_
                              repeat refine hP _ _ _ _ ?_
                              refine b_ifeq (fun h7 => ?_) (fun h7 => ?_) (rfl)
                              · refine hP _ _ _ _ ?_
                                refine x_p4 (P := P) (fin (bI false) (by rw [hda, h6]; rw [show soB n w h lt e = false from h7]; rfl)) ?_ rfl ?_ <;> try (first | rfl | (rw [nI_succ]; rfl))
                              · repeat refine hP _ _ _ _ ?_
                                refine r_seesOne (ms := sA m6 31 (upd (m6.2 31) e (bI (lt e || dk e)))) (li := false) hG6 hl6 he9 ?_
                                repeat refine hP _ _ _ _ ?_
                                refine b_ifeq (fun h8 => ?_) (fun h8 => ?_) (rfl)
                                · refine hP _ _ _ _ ?_
                                  refine x_p4 (P := P) (fin (bI false) (by rw [hda, h6]; rw [show soB n w h lt e = true from h7, show soB n w h dk e = false from h8]; rfl)) ?_ rfl ?_ <;> try (first | rfl | (rw [nI_succ]; rfl))
                                · iterate 2 refine hP _ _ _ _ ?_
                                  refine x_p4 (P := P) (fin (bI true) (by rw [hda, h6]; rw [show soB n w h lt e = true from h7, show soB n w h dk e = true from h8]; rfl)) ?_ rfl ?_ <;> try (first | rfl | (rw [nI_succ]; rfl))
                          · rw [h5] at hda
                            repeat refine hP _ _ _ _ ?_
                            refine And.intro ine ?_
                            rw [ldv (f := m6.2 40) le.2.2 (by omega)]
                            refine hP _ _ _ _ ?_
                            refine x_p4 (P := P) (fin (bI (dk e)) (by rw [hda]; rfl)) ?_ rfl ?_ <;> try (first | rfl | (rw [nI_succ]; rfl))
                        · rw [h4] at hda
                          repeat refine hP _ _ _ _ ?_
                          refine And.intro ine ?_
                          rw [ldv (f := m6.2 39) le.2.1 (by omega)]
                          refine hP _ _ _ _ ?_
                          refine x_p4 (P := P) (fin (bI (lt e)) (by rw [hda]; rfl)) ?_ rfl ?_ <;> try (first | rfl | (rw [nI_succ]; rfl))
                    have st : ∀ (da : Bool), (∀ e, clI n w h lt dk e = if clB n w h lt (n * n) then lt e else if da then dk e else !(lt e || dk e) && soB n w h lt e && soB n w h dk e) → ∀ x7 : Option Value, P 149 [some (.ref 26), some (.int (nI s)), some (.int (nI fr)), some (.int (nI (rcN (fun c => lt c || dk c) (n * n)))), some (.int (bI true)), some (.int (bI (clB n w h lt (n * n)))), x6, x7, x8] [.int (bI da)] (w_M f (noneM m4) tl bb) := by
                      intro da hda x7
                      iterate 3 refine hP _ _ _ _ ?_
                      refine x_p4 (P := P) (lp da hda 0 (by omega) (noneM m4) hs5 hld5 (noneM_cl m4).1 (noneM_cl m4).2.1 (fun c hc => ⟨by rw [((noneM_cl m4).2.2 c hc).2]; unfold clG; simp; rfl, by unfold clG; simp⟩) (fun c hc => by rw [((noneM_cl m4).2.2 c hc).1]; unfold clR; simp; rfl) x8) ?_ rfl ?_ <;> try (first | rfl | (rw [nI_succ]; rfl))
                    rw [h2]
                    repeat refine hP _ _ _ _ ?_
                    refine r_none ?_
                    repeat refine hP _ _ _ _ ?_
                    refine r_clash (li := true) hG5 hld5 ?_
                    repeat refine hP _ _ _ _ ?_
                    refine b_ifne (fun h3 => ?_) (fun h3 => ?_) (rfl)
                    · refine hP _ _ _ _ ?_
                      refine x_p4 (P := P) (st false (fun e => by unfold clI; rw [show clB n w h lt (n * n) = true from h3]; rfl) x7) ?_ rfl ?_ <;> try (first | rfl | (rw [nI_succ]; rfl))
                    · repeat refine hP _ _ _ _ ?_
                      refine r_clash (li := false) hG5 hld5 ?_
                      repeat refine hP _ _ _ _ ?_
                      refine b_ifeq (fun h4 => ?_) (fun h4 => ?_) (rfl)
                      · refine hP _ _ _ _ ?_
                        refine x_p4 (P := P) (st false (fun e => by unfold clI; rw [show clB n w h lt (n * n) = false from h3, show clB n w h dk (n * n) = false from h4]) x7) ?_ rfl ?_ <;> try (first | rfl | (rw [nI_succ]; rfl))
                      · iterate 2 refine hP _ _ _ _ ?_
                        refine x_p4 (P := P) (st true (fun e => by unfold clI; rw [show clB n w h lt (n * n) = false from h3, show clB n w h dk (n * n) = true from h4]) x7) ?_ rfl ?_ <;> try (first | rfl | (rw [nI_succ]; rfl))
                  · refine hP _ _ _ _ ?_
                    exact next m4 hm4 (hFe.trans (by unfold clE; rw [if_neg (fun h => by rw [h2] at h; exact absurd h.2.2 (by decide))])) _ _ _ _ _ _
              · have ihc := ihc hc9
                have lc := hld c (by omega)
                have inc : vp_in (nI c) 81 := vp_in_nI (by omega) (by omega)
                have ls : lsB lt dk fr (c + 1) = (lsB lt dk fr c && (!(lt c || dk c) || decide (fr ≤ c))) := by unfold lsB; rw [all_s]
                have rs : rcN (fun c => lt c || dk c) (c + 1) = rcN (fun c => lt c || dk c) c + (if (lt c || dk c) then 1 else 0) := rfl
                have fin : ∀ x : Int32, x = bI (lsB lt dk fr (c + 1)) → P 99 [some (.ref 26), some (.int (nI s)), some (.int (nI fr)), some (.int (nI (rcN (fun c => lt c || dk c) (c + 1)))), some (.int (bI (lsB lt dk fr c))), some (.int (nI c)), x6, x7, x8] [.int x] (w_M f m4 tl bb) := by
                  intro x hx
                  subst hx
                  iterate 3 refine hP _ _ _ _ ?_
                  refine x_p4 (P := P) (ihc) ?_ rfl ?_ <;> try (first | rfl | (rw [nI_succ]; rfl))
                have mid : ∀ x : Int32, x = nI (if (lt c || dk c) then 1 else 0) → P 71 [some (.ref 26), some (.int (nI s)), some (.int (nI fr)), some (.int (nI (rcN (fun c => lt c || dk c) c))), some (.int (bI (lsB lt dk fr c))), some (.int (nI c)), x6, x7, x8] [.int x, .int (nI (rcN (fun c => lt c || dk c) c))] (w_M f m4 tl bb) := by
                  intro x hx
                  subst hx
                  have fin2 : ∀ x : Int32, x = bI (lsB lt dk fr (c + 1)) → P 99 [some (.ref 26), some (.int (nI s)), some (.int (nI fr)), some (.int (nI (rcN (fun c => lt c || dk c) c) + nI (if (lt c || dk c) then 1 else 0))), some (.int (bI (lsB lt dk fr c))), some (.int (nI c)), x6, x7, x8] [.int x] (w_M f m4 tl bb) := fun x hx => by
                    have h9 := fin x hx
                    rw [rs, ← nI_add] at h9
                    exact h9
                  repeat refine hP _ _ _ _ ?_
                  refine b_ifeq (fun h1 => ?_) (fun h1 => ?_) (rfl)
                  · refine hP _ _ _ _ ?_
                    refine x_p4 (P := P) (fin2 (bI false) (by rw [ls, h1]; rfl)) ?_ rfl ?_ <;> try (first | rfl | (rw [nI_succ]; rfl))
                  · repeat refine hP _ _ _ _ ?_
                    refine And.intro inc ?_
                    rw [ldv lc.1 (by omega)]
                    repeat refine hP _ _ _ _ ?_
                    refine b_ifeq (fun h2 => ?_) (fun h2 => ?_) (rfl)
                    · iterate 2 refine hP _ _ _ _ ?_
                      refine x_p4 (P := P) (fin2 (bI true) (by rw [ls, h1, h2]; rfl)) ?_ rfl ?_ <;> try (first | rfl | (rw [nI_succ]; rfl))
                    · repeat refine hP _ _ _ _ ?_
                      refine b_lt (c) (fr) (fun h3 => ?_) (fun h3 => ?_) (rfl) (rfl) (by omega) (by omega)
                      · refine hP _ _ _ _ ?_
                        refine x_p4 (P := P) (fin2 (bI false) (by rw [ls, h1, h2, decide_eq_false (by omega)]; rfl)) ?_ rfl ?_ <;> try (first | rfl | (rw [nI_succ]; rfl))
                      · iterate 2 refine hP _ _ _ _ ?_
                        refine x_p4 (P := P) (fin2 (bI true) (by rw [ls, h1, h2, decide_eq_true h3]; rfl)) ?_ rfl ?_ <;> try (first | rfl | (rw [nI_succ]; rfl))
                repeat refine hP _ _ _ _ ?_
                refine And.intro inc ?_
                rw [ldv lc.1 (by omega)]
                repeat refine hP _ _ _ _ ?_
                refine b_ifeq (fun h1 => ?_) (fun h1 => ?_) (rfl)
                · refine hP _ _ _ _ ?_
                  refine x_p4 (P := P) (mid (nI 0) (by rw [h1]; rfl)) ?_ rfl ?_ <;> try (first | rfl | (rw [nI_succ]; rfl))
                · iterate 2 refine hP _ _ _ _ ?_
                  refine x_p4 (P := P) (mid (nI 1) (by rw [h1]; rfl)) ?_ rfl ?_ <;> try (first | rfl | (rw [nI_succ]; rfl))
            iterate 6 refine hP _ _ _ _ ?_
            refine x_p4 (P := P) (cnt 0 (by omega)) ?_ rfl ?_ <;> try (first | rfl | (rw [nI_succ]; rfl))
          · refine hP _ _ _ _ ?_
            refine x_p4 (P := P) (next m3 hm3 (by unfold clF clE; rw [if_neg (fun h => by rw [hb] at h; exact absurd h.1 (by decide))]) x3 x4 x5 x6 x7 x8) ?_ rfl ?_ <;> try (first | rfl | (rw [nI_succ]; rfl))
      iterate 2 refine hP _ _ _ _ ?_
      refine x_p4 (P := P) (lpf 0 (by omega) m2 hm rfl x3 x4 x5 x6 x7 x8) ?_ rfl ?_ <;> try (first | rfl | (rw [nI_succ]; rfl))
  iterate 2 refine hP _ _ _ _ ?_
  refine x_p4 (P := P) (loop 0 (by omega) ms (scr.rf ms) rfl none none none none none none none) ?_ rfl ?_ <;> try (first | rfl | (rw [nI_succ]; rfl))
end CL3
