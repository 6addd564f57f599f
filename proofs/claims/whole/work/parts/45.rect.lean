/-! ===== the model: step rectangle ===== -/
def coC (a b c d k : Nat) : Nat := if k = 0 then a else if k = 1 then b else if k = 2 then c else d
def saN (cb : Nat → Nat) (two : Nat) (C : Nat → Nat) : Nat → Nat
  | 0 => 0
  | k + 1 => saN cb two C k + (if cb (C k) = two then 1 else 0)
def moN (cb : Nat → Nat) (two : Nat) (C : Nat → Nat) : Nat → Option Nat
  | 0 => none
  | k + 1 => if cb (C k) = two then moN cb two C k else some (C k)
theorem saN_le (cb : Nat → Nat) (two : Nat) (C : Nat → Nat) : ∀ k, saN cb two C k ≤ k
  | 0 => Nat.le_refl _
  | k + 1 => by have := saN_le cb two C k; unfold saN; split <;> omega
theorem moN_s {cb : Nat → Nat} {two : Nat} {C : Nat → Nat} {N : Nat} (hC : ∀ k, C k < N) : ∀ k, (saN cb two C k < k → ∃ x, moN cb two C k = some x ∧ x < N) ∧ ∀ x, moN cb two C k = some x → x < N
  | 0 => ⟨fun h => absurd h (Nat.lt_irrefl 0), fun x h => by cases h⟩
  | k + 1 => by
    have ih := moN_s (cb := cb) (two := two) hC k
    unfold saN moN
    by_cases he : cb (C k) = two
    · rw [if_pos he, if_pos he]
      exact ⟨fun h => ih.1 (by omega), ih.2⟩
    · rw [if_neg he, if_neg he]
      exact ⟨fun _ => ⟨C k, rfl, hC k⟩, fun x h => by cases h; exact hC k⟩
def rcR (a b c d : Nat) : Nat → Bool := fun e => e == a || e == b || e == c || e == d
def coE (cb : Nat → Nat) (vb : Nat → Option Nat) (n w h a b c d : Nat) : Option rS := if ((boxN n w h a == boxN n w h b) != (boxN n w h a == boxN n w h c)) = true ∧ vb a = none ∧ vb b = none ∧ vb c = none ∧ vb d = none ∧ pcN (cb a &&& cb b &&& cb c &&& cb d) = 2 ∧ saN cb (cb a &&& cb b &&& cb c &&& cb d) (coC a b c d) 4 = 3 then match moN cb (cb a &&& cb b &&& cb c &&& cb d) (coC a b c d) 4 with
    | some x => some (none, fun e => if e = x then cb x &&& (cb a &&& cb b &&& cb c &&& cb d) else 0, rcR a b c d)
    | none => none
  else none
def reY (cb : Nat → Nat) (vb : Nat → Option Nat) (n w h r t x : Nat) : Option rS := ff (fun y => coE cb vb n w h (n * r + x) (n * r + y) (n * t + x) (n * t + y)) (n - (x + 1)) (x + 1)
def reX (cb : Nat → Nat) (vb : Nat → Option Nat) (n w h r t : Nat) : Option rS := ff (reY cb vb n w h r t) (n - 0) 0
def reT (cb : Nat → Nat) (vb : Nat → Option Nat) (n w h r : Nat) : Option rS := ff (reX cb vb n w h r) (n - (r + 1)) (r + 1)
def reS (cb : Nat → Nat) (vb : Nat → Option Nat) (n w h : Nat) : Option rS := ff (reT cb vb n w h) (n - 0) 0
section RC
variable {sc : Nat × (Nat → Int32)} {f : Nat → x_C} {ms : x_S} {tl : List x_C} {bb : Nat × Nat} {n w h d : Nat} {Q : x_O → x_H → Prop} {cb : Nat → Nat} {vb : Nat → Option Nat}
theorem coC_lt {a b c e N : Nat} (ha : a < N) (hb : b < N) (hc : c < N) (he : e < N) (k : Nat) : coC a b c e k < N := by
  unfold coC
  split
  · exact ha
  · split
    · exact hb
    · split
      · exact hc
      · exact he
theorem r_corners (hG : gM ms n w h) (hC : cM ms n cb) (hV : vM ms n vb) {a b c e : Nat} (ha : a < n * n) (hb : b < n * n) (hc : c < n * n) (he : e < n * n) (hT : ∀ ms' r, scr ms ms' → coE cb vb n w h a b c e = some r → resM ms' n r → Q (.inl (some (.int (bI true)))) (w_M f ms' tl bb)) (hF : coE cb vb n w h a b c e = none → Q (.inl (some (.int (bI false)))) (w_M f ms tl bb)) : x_run sc x_MM x_EX (d + 2) k_X8_corners [.ref 26, .int (nI a), .int (nI b), .int (nI c), .int (nI e)] (w_M f ms tl bb) Q := by
  obtain ⟨g1, g2, g3, g4, g5, g6, g7, g8⟩ := hG.2.2.2.le
  have ba := boxN_lt hG.2.2.2 ha
  have bbx := boxN_lt hG.2.2.2 hb
  have bc := boxN_lt hG.2.2.2 hc
  have hin : ∀ x, x < n * n → vp_in (nI x) 81 := fun x hx => vp_in_nI (by omega) (by omega)
  have h5 : ∀ x, x < n * n → cb x < 512 := fun x hx => hC.lt g2 hx
  have hvo : ∀ x, x < n * n → ∀ s, vb x = some s → s < 2 ^ 31 := fun x hx => hV.lt g2 hx
  have htw : cb a &&& cb b &&& cb c &&& cb e < 512 := Nat.lt_of_le_of_lt Nat.and_le_left (Nat.lt_of_le_of_lt Nat.and_le_left (Nat.lt_of_le_of_lt Nat.and_le_left (h5 a ha)))
  have hcc := coC_lt ha hb hc he
  refine x_in (M := m_X8_corners) rfl rfl (Nat.le_of_ble_eq_true rfl) ⟨rfl, rfl, rfl, rfl, rfl, trivial⟩ ?_
  intro P hP
  generalize htwo : cb a &&& cb b &&& cb c &&& cb e = two at *
  have no : coE cb vb n w h a b c e = none → ∀ x5 x6 x7 x8 x9 x10 : Option Value, P 82 [some (.ref 26), some (.int (nI a)), some (.int (nI b)), some (.int (nI c)), some (.int (nI e)), x5, x6, x7, x8, x9, x10] [] (w_M f ms tl bb) := by
    intro h0 x5 x6 x7 x8 x9 x10
    repeat refine hP _ _ _ _ ?_
    exact And.intro rfl (hF h0)
  have body : ((boxN n w h a == boxN n w h b) != (boxN n w h a == boxN n w h c)) = true → vb a = none → vb b = none → vb c = none → vb e = none → ∀ x5 : Option Value, P 84 [some (.ref 26), some (.int (nI a)), some (.int (nI b)), some (.int (nI c)), some (.int (nI e)), x5, none, none, none, none, none] [] (w_M f ms tl bb) := by
    intro hbo va vb' vc ve x5
    have hsl := saN_le cb two (coC a b c e) 4
    have lp : ∀ k, k ≤ 4 → ∀ x10 : Option Value, P 123 [some (.ref 26), some (.int (nI a)), some (.int (nI b)), some (.int (nI c)), some (.int (nI e)), x5, some (.int (nI two)), some (.int (vI (moN cb two (coC a b c e) k))), some (.int (nI (saN cb two (coC a b c e) k))), some (.int (nI k)), x10] [] (w_M f ms tl bb) := by
      refine x_lp 4 (fun k hk ih x10 => ?_)
      repeat refine hP _ _ _ _ ?_
      refine b_ge (k) (4) (fun hk9 => ?_) (fun hk9 => ?_) (rfl) (oi4) (by omega) (by omega)
      · have e4 : k = 4 := by omega
        subst e4
        have hpt : pcN two ≤ 9 := pcA_le _ _
        have no2 : coE cb vb n w h a b c e = none → P 205 [some (.ref 26), some (.int (nI a)), some (.int (nI b)), some (.int (nI c)), some (.int (nI e)), x5, some (.int (nI two)), some (.int (vI (moN cb two (coC a b c e) 4))), some (.int (nI (saN cb two (coC a b c e) 4))), some (.int (nI 4)), x10] [] (w_M f ms tl bb) := by
          intro h0
          repeat refine hP _ _ _ _ ?_
          exact And.intro rfl (hF h0)
        repeat refine hP _ _ _ _ ?_
        refine r_countOf htw ?_
        repeat refine hP _ _ _ _ ?_
        refine b_ne ((pcN two)) (2) (fun h1 => ?_) (fun h1 => ?_) (rfl) (rfl) (by omega) (by omega)
        · exact no2 (by unfold coE; rw [htwo, if_neg (fun h => h1 h.2.2.2.2.2.1)])
        · repeat refine hP _ _ _ _ ?_
          refine b_eq ((saN cb two (coC a b c e) 4)) (3) (fun h2 => ?_) (fun h2 => ?_) (rfl) (rfl) (by omega) (by omega)
          · obtain ⟨x, hx, hxn⟩ := (moN_s (cb := cb) (two := two) hcc 4).1 (by omega)
            have hE : coE cb vb n w h a b c e = some (none, fun e => if e = x then cb x &&& two else 0, rcR a b c e) := by unfold coE; rw [htwo, if_pos ⟨hbo, va, vb', vc, ve, h1, h2⟩, hx]
            rw [hx]
            have hs5 := noneM_scr ms
            have hcl := noneM_cl ms
            repeat refine hP _ _ _ _ ?_
            refine r_none ?_
            repeat refine hP _ _ _ _ ?_
            refine r_leavesN (ms := noneM ms) (go := fun _ => 0) (m := two) (hs5.c hC) g2 (fun e he => ⟨(hcl.2.2 e he).2, show 0 < 512 by decide⟩) hxn (by omega) rfl (fun gg hgg => ?_)
            repeat refine hP _ _ _ _ ?_
            refine And.intro (hin a ha) ?_
            repeat refine hP _ _ _ _ ?_
            refine And.intro (hin b hb) ?_
            repeat refine hP _ _ _ _ ?_
            refine And.intro (hin c hc) ?_
            repeat refine hP _ _ _ _ ?_
            refine And.intro (hin e he) ?_
            repeat refine hP _ _ _ _ ?_
            refine And.intro rfl (hT (sA (sA (noneM ms) 32 gg) 31 (upd (upd (upd (upd ((noneM ms).2 31) (nI a).toNatClampNeg (vp_nar .boolean (Int32.ofInt 1))) (nI b).toNatClampNeg (vp_nar .boolean (Int32.ofInt 1))) (nI c).toNatClampNeg (vp_nar .boolean (Int32.ofInt 1))) (nI e).toNatClampNeg (vp_nar .boolean (Int32.ofInt 1)))) _ ((hs5.tr (scr.a (by decide))).tr (scr.a (by decide))) hE ⟨⟨hcl.1, hcl.2.1⟩, oM_congr hgg ?_, ?_⟩)
            · intro t ht
              by_cases htx : t = x
              · subst htx; simp
              · simp [htx]
            · intro t ht
              show upd (upd (upd (upd ((noneM ms).2 31) (nI a).toNatClampNeg (vp_nar .boolean (Int32.ofInt 1))) (nI b).toNatClampNeg (vp_nar .boolean (Int32.ofInt 1))) (nI c).toNatClampNeg (vp_nar .boolean (Int32.ofInt 1))) (nI e).toNatClampNeg (vp_nar .boolean (Int32.ofInt 1)) t = bI (rcR a b c e t)
              rw [upv (by omega), upv (by omega), upv (by omega), upv (by omega)]
              have hz := (hcl.2.2 t ht).1
              unfold rcR
              by_cases e1 : t = e
              · subst e1; rw [pk_us, beq_self_eq_true, Bool.or_true]; rfl
              · rw [pk_un e1, beq_eq_false_iff_ne.mpr e1, Bool.or_false]
                by_cases e2 : t = c
                · subst e2; rw [pk_us, beq_self_eq_true, Bool.or_true]; rfl
                · rw [pk_un e2, beq_eq_false_iff_ne.mpr e2, Bool.or_false]
                  by_cases e3 : t = b
                  · subst e3; rw [pk_us, beq_self_eq_true, Bool.or_true]; rfl
                  · rw [pk_un e3, beq_eq_false_iff_ne.mpr e3, Bool.or_false]
                    by_cases e4 : t = a
                    · subst e4; rw [pk_us, beq_self_eq_true]; rfl
                    · rw [pk_un e4, beq_eq_false_iff_ne.mpr e4, hz]; rfl
          · exact no2 (by unfold coE; rw [htwo, if_neg (fun h => h2 h.2.2.2.2.2.2)])
      · have ih := ih hk9
        have fin : ∀ y, y = coC a b c e k → P 160 [some (.ref 26), some (.int (nI a)), some (.int (nI b)), some (.int (nI c)), some (.int (nI e)), x5, some (.int (nI two)), some (.int (vI (moN cb two (coC a b c e) k))), some (.int (nI (saN cb two (coC a b c e) k))), some (.int (nI k)), x10] [.int (nI y)] (w_M f ms tl bb) := by
          intro y hy
          have hyn : y < n * n := by rw [hy]; exact hcc k
          have y5 := h5 y hyn
          repeat refine hP _ _ _ _ ?_
          refine And.intro (hin y hyn) ?_
          rw [ldv (hC y hyn).1 (by omega)]
          repeat refine hP _ _ _ _ ?_
          refine b_ne ((cb y)) (two) (fun h1 => ?_) (fun h1 => ?_) (rfl) (rfl) (by omega) (by omega)
          · have e1 : saN cb two (coC a b c e) (k + 1) = saN cb two (coC a b c e) k := by show saN cb two (coC a b c e) k + (if cb (coC a b c e k) = two then 1 else 0) = _; rw [if_neg (by rw [← hy]; exact h1)]; rfl
            have e2 : moN cb two (coC a b c e) (k + 1) = some y := by unfold moN; rw [if_neg (by rw [← hy]; exact h1), hy]
            rw [e1, e2] at ih
            iterate 4 refine hP _ _ _ _ ?_
            refine x_p4 (P := P) (ih (some (.int (nI y)))) ?_ rfl ?_ <;> try (first | rfl | (rw [nI_succ]; rfl))
          · have e1 : saN cb two (coC a b c e) (k + 1) = saN cb two (coC a b c e) k + 1 := by show saN cb two (coC a b c e) k + (if cb (coC a b c e k) = two then 1 else 0) = _; rw [if_pos (by rw [← hy]; exact h1)]
            have e2 : moN cb two (coC a b c e) (k + 1) = moN cb two (coC a b c e) k := by unfold moN; rw [if_pos (by rw [← hy]; exact h1)]; cases k <;> rfl
            rw [e1, e2] at ih
            iterate 4 refine hP _ _ _ _ ?_
            refine x_p4 (P := P) (ih (some (.int (nI y)))) ?_ rfl ?_
            · rw [nI_succ, nI_succ]; rfl
            · rfl
        repeat refine hP _ _ _ _ ?_
        refine b_ne k 0 (fun h1 => ?_) (fun h1 => ?_) rfl z0 (by omega) (by omega)
        · repeat refine hP _ _ _ _ ?_
          refine b_ne (k) (1) (fun h2 => ?_) (fun h2 => ?_) (rfl) (oi1) (by omega) (by omega)
          · repeat refine hP _ _ _ _ ?_
            refine b_ne (k) (2) (fun h3 => ?_) (fun h3 => ?_) (rfl) (oi2) (by omega) (by omega)
            · refine hP _ _ _ _ ?_
              refine x_p4 (P := P) (fin e (by unfold coC; rw [if_neg h1, if_neg h2, if_neg h3])) ?_ rfl ?_ <;> try (first | rfl | (rw [nI_succ]; rfl))
            · iterate 2 refine hP _ _ _ _ ?_
              refine x_p4 (P := P) (fin c (by unfold coC; rw [if_neg h1, if_neg h2, if_pos h3])) ?_ rfl ?_ <;> try (first | rfl | (rw [nI_succ]; rfl))
          · iterate 2 refine hP _ _ _ _ ?_
            refine x_p4 (P := P) (fin b (by unfold coC; rw [if_neg h1, if_pos h2])) ?_ rfl ?_ <;> try (first | rfl | (rw [nI_succ]; rfl))
        · iterate 2 refine hP _ _ _ _ ?_
          refine x_p4 (P := P) (fin a (by unfold coC; rw [if_pos h1])) ?_ rfl ?_ <;> try (first | rfl | (rw [nI_succ]; rfl))
    have etw : ∀ x1 x2 x3 x4 : Int32, x1 = nI (cb a) → x2 = nI (cb b) → x3 = nI (cb c) → x4 = nI (cb e) → x1 &&& x2 &&& x3 &&& x4 = nI two := fun x1 x2 x3 x4 i1 i2 i3 i4 => by rw [i1, i2, i3, i4, nx_and, nx_and, nx_and, htwo]
    repeat refine hP _ _ _ _ ?_
    refine And.intro (hin a ha) ?_
    rw [ldv (hC a ha).1 (by omega)]
    repeat refine hP _ _ _ _ ?_
    refine And.intro (hin b hb) ?_
    rw [ldv (hC b hb).1 (by omega)]
    repeat refine hP _ _ _ _ ?_
    refine And.intro (hin c hc) ?_
    rw [ldv (hC c hc).1 (by omega)]
    repeat refine hP _ _ _ _ ?_
    refine And.intro (hin e he) ?_
    rw [ldv (hC e he).1 (by omega)]
    iterate 8 refine hP _ _ _ _ ?_
    refine x_p4 (P := P) (lp 0 (by omega) none) ?_ rfl ?_
    · rw [← etw _ _ _ _ rfl rfl rfl rfl]; rfl
    · rfl
  have hbI : ∀ p q : Bool, (nI (if p then 1 else 0) + nI (if q then 1 else 0) = nI 1) ↔ (p != q) = true := by decide
  have test : ∀ x : Int32, x = nI (if boxN n w h a == boxN n w h b then 1 else 0) + nI (if boxN n w h a == boxN n w h c then 1 else 0) → P 37 [some (.ref 26), some (.int (nI a)), some (.int (nI b)), some (.int (nI c)), some (.int (nI e)), none, none, none, none, none, none] [.int x] (w_M f ms tl bb) := by
    intro x hx
    subst hx
    repeat refine hP _ _ _ _ ?_
    refine And.intro (fun h1 => ?_) (fun h1 => ?_)
    · have h1 : ¬ (nI (if boxN n w h a == boxN n w h b then 1 else 0) + nI (if boxN n w h a == boxN n w h c then 1 else 0) = nI 1) := h1
      rw [hbI] at h1
      exact no (by unfold coE; rw [if_neg (fun h => h1 h.1)]) _ _ _ _ _ _
    · have h1 : nI (if boxN n w h a == boxN n w h b then 1 else 0) + nI (if boxN n w h a == boxN n w h c then 1 else 0) = nI 1 := Decidable.of_not_not h1
      rw [hbI] at h1
      repeat refine hP _ _ _ _ ?_
      refine And.intro (hin a ha) ?_
      rw [ldv (hV a ha).1 (by omega)]
      repeat refine hP _ _ _ _ ?_
      refine b_vge (fun v1 => ?_) (fun v1 => ?_) (rfl) (hvo a ha)
      · exact no (by unfold coE; rw [if_neg (fun h => v1 h.2.1)]) _ _ _ _ _ _
      · repeat refine hP _ _ _ _ ?_
        refine And.intro (hin b hb) ?_
        rw [ldv (hV b hb).1 (by omega)]
        repeat refine hP _ _ _ _ ?_
        refine b_vge (fun v2 => ?_) (fun v2 => ?_) (rfl) (hvo b hb)
        · exact no (by unfold coE; rw [if_neg (fun h => v2 h.2.2.1)]) _ _ _ _ _ _
        · repeat refine hP _ _ _ _ ?_
          refine And.intro (hin c hc) ?_
          rw [ldv (hV c hc).1 (by omega)]
          repeat refine hP _ _ _ _ ?_
          refine b_vge (fun v3 => ?_) (fun v3 => ?_) (rfl) (hvo c hc)
          · exact no (by unfold coE; rw [if_neg (fun h => v3 h.2.2.2.1)]) _ _ _ _ _ _
          · repeat refine hP _ _ _ _ ?_
            refine And.intro (hin e he) ?_
            rw [ldv (hV e he).1 (by omega)]
            repeat refine hP _ _ _ _ ?_
            refine b_vlt (fun v4 => ?_) (fun v4 => ?_) (rfl) (hvo e he)
            · exact body h1 v1 v2 v3 v4 _
            · exact no (by unfold coE; rw [if_neg (fun h => v4 h.2.2.2.2.1)]) _ _ _ _ _ _
  have mid : ∀ x : Int32, x = nI (if boxN n w h a == boxN n w h b then 1 else 0) → P 18 [some (.ref 26), some (.int (nI a)), some (.int (nI b)), some (.int (nI c)), some (.int (nI e)), none, none, none, none, none, none] [.int x] (w_M f ms tl bb) := by
    intro x hx
    subst hx
    repeat refine hP _ _ _ _ ?_
    refine r_boxOf hG (by omega) ?_
    repeat refine hP _ _ _ _ ?_
    refine r_boxOf hG (by omega) ?_
    repeat refine hP _ _ _ _ ?_
    refine b_ne ((boxN n w h a)) ((boxN n w h c)) (fun h1 => ?_) (fun h1 => ?_) (rfl) (rfl) (by omega) (by omega)
    · iterate 2 refine hP _ _ _ _ ?_
      exact test _ (by rw [beq_eq_false_iff_ne.mpr h1]; rfl)
    · iterate 3 refine hP _ _ _ _ ?_
      exact test _ (by rw [beq_iff_eq.mpr h1]; rfl)
  repeat refine hP _ _ _ _ ?_
  refine r_boxOf hG (by omega) ?_
  repeat refine hP _ _ _ _ ?_
  refine r_boxOf hG (by omega) ?_
  repeat refine hP _ _ _ _ ?_
  refine b_ne ((boxN n w h a)) ((boxN n w h b)) (fun h1 => ?_) (fun h1 => ?_) (rfl) (rfl) (by omega) (by omega)
  · refine hP _ _ _ _ ?_
    exact mid _ (by rw [beq_eq_false_iff_ne.mpr h1]; rfl)
  · iterate 2 refine hP _ _ _ _ ?_
    exact mid _ (by rw [beq_iff_eq.mpr h1]; rfl)
theorem r_rectangle (hG : gM ms n w h) (hC : cM ms n cb) (hV : vM ms n vb) (hT : ∀ ms' r, scr ms ms' → reS cb vb n w h = some r → resM ms' n r → Q (.inl (some (.int (bI true)))) (w_M f ms' tl bb)) (hF : reS cb vb n w h = none → Q (.inl (some (.int (bI false)))) (w_M f ms tl bb)) : x_run sc x_MM x_EX (d + 3) k_X8_rectangle [.ref 26] (w_M f ms tl bb) Q := by
  obtain ⟨g1, g2, g3, g4, g5, g6, g7, g8⟩ := hG.2.2.2.le
  have hcl : ∀ r x, r < n → x < n → n * r + x < n * n := fun r x hr hx => by
    have : n * (r + 1) ≤ n * n := Nat.mul_le_mul_left n hr
    rw [Nat.mul_succ] at this
    omega
  have hce : ∀ r x, ms.1 1 * nI r + nI x = nI (n * r + x) := fun r x => by rw [hG.1, pk_mul, nI_add]
  refine x_in (M := m_X8_rectangle) rfl rfl (Nat.le_of_ble_eq_true rfl) ⟨rfl, trivial⟩ ?_
  intro P hP
  have loop : ∀ r, r ≤ n → reS cb vb n w h = ff (reT cb vb n w h) (n - r) r → ∀ x2 x3 x4 : Option Value, P 2 [some (.ref 26), some (.int (nI r)), x2, x3, x4] [] (w_M f ms tl bb) := by
    refine x_lp n (fun r hr ih hf x2 x3 x4 => ?_)
    repeat refine hP _ _ _ _ ?_
    refine b_ge (r) (n) (fun hr9 => ?_) (fun hr9 => ?_) (rfl) (hG.1) (by omega) (by omega)
    · repeat refine hP _ _ _ _ ?_
      exact And.intro rfl (hF (hf.trans (ff_e hr9)))
    · have ih := ih hr9
      have lpt : ∀ t, t ≤ n → r + 1 ≤ t → reT cb vb n w h r = ff (reX cb vb n w h r) (n - t) t → ∀ x3 x4 : Option Value, P 14 [some (.ref 26), some (.int (nI r)), some (.int (nI t)), x3, x4] [] (w_M f ms tl bb) := by
        refine x_lp n (fun t ht iht hrt hft x3 x4 => ?_)
        repeat refine hP _ _ _ _ ?_
        refine b_ge (t) (n) (fun ht9 => ?_) (fun ht9 => ?_) (rfl) (hG.1) (by omega) (by omega)
        · iterate 2 refine hP _ _ _ _ ?_
          refine x_p4 (P := P) (ih (hf.trans (ff_n' hr9 (hft.trans (ff_e ht9)))) (some (.int (nI t))) x3 x4) ?_ rfl ?_ <;> try (first | rfl | (rw [nI_succ]; rfl))
        · have iht := iht ht9
          have lpx : ∀ x, x ≤ n → reX cb vb n w h r t = ff (reY cb vb n w h r t) (n - x) x → ∀ x4 : Option Value, P 24 [some (.ref 26), some (.int (nI r)), some (.int (nI t)), some (.int (nI x)), x4] [] (w_M f ms tl bb) := by
            refine x_lp n (fun x hx ihx hfx x4 => ?_)
            repeat refine hP _ _ _ _ ?_
            refine b_ge (x) (n) (fun hx9 => ?_) (fun hx9 => ?_) (rfl) (hG.1) (by omega) (by omega)
            · iterate 2 refine hP _ _ _ _ ?_
              refine x_p4 (P := P) (iht (by omega) (hft.trans (ff_n' ht9 (hfx.trans (ff_e hx9)))) (some (.int (nI x))) x4) ?_ rfl ?_ <;> try (first | rfl | (rw [nI_succ]; rfl))
            · have ihx := ihx hx9
              have lpy : ∀ y, y ≤ n → x + 1 ≤ y → reY cb vb n w h r t x = ff (fun y => coE cb vb n w h (n * r + x) (n * r + y) (n * t + x) (n * t + y)) (n - y) y → P 37 [some (.ref 26), some (.int (nI r)), some (.int (nI t)), some (.int (nI x)), some (.int (nI y))] [] (w_M f ms tl bb) := by
                refine x_lp n (fun y hy ihy hxy hfy => ?_)
                repeat refine hP _ _ _ _ ?_
                refine b_ge (y) (n) (fun hy9 => ?_) (fun hy9 => ?_) (rfl) (hG.1) (by omega) (by omega)
                · iterate 2 refine hP _ _ _ _ ?_
                  refine x_p4 (P := P) (ihx (hfx.trans (ff_n' hx9 (hfy.trans (ff_e hy9)))) (some (.int (nI y)))) ?_ rfl ?_ <;> try (first | rfl | (rw [nI_succ]; rfl))
                · have ihy := ihy hy9
                  repeat refine hP _ _ _ _ ?_
                  rw [hce, hce, hce, hce]
                  refine r_corners hG hC hV (hcl r x hr9 hx9) (hcl r y hr9 hy9) (hcl t x ht9 hx9) (hcl t y ht9 hy9) (fun m5 e hm5 he hres => ?_) (fun he => ?_)
                  · repeat refine hP _ _ _ _ ?_
                    refine And.intro (fun h9 => absurd (show bI true = 0 from h9) (by decide)) (fun _ => ?_)
                    repeat refine hP _ _ _ _ ?_
                    exact And.intro rfl (hT m5 e hm5 (hf.trans (ff_s' hr9 (hft.trans (ff_s' ht9 (hfx.trans (ff_s' hx9 (hfy.trans (ff_s' hy9 he)))))))) hres)
                  · repeat refine hP _ _ _ _ ?_
                    refine And.intro (fun _ => ?_) (fun h9 => absurd (show bI false = 0 by decide) h9)
                    iterate 2 refine hP _ _ _ _ ?_
                    refine x_p4 (P := P) (ihy (by omega) (hfy.trans (ff_n' hy9 he))) ?_ rfl ?_ <;> try (first | rfl | (rw [nI_succ]; rfl))
              iterate 4 refine hP _ _ _ _ ?_
              refine x_p4 (P := P) (lpy (x + 1) (by omega) (Nat.le_refl _) rfl) ?_ rfl ?_ <;> try (first | rfl | (rw [nI_succ]; rfl))
          iterate 2 refine hP _ _ _ _ ?_
          refine x_p4 (P := P) (lpx 0 (by omega) rfl x4) ?_ rfl ?_ <;> try (first | rfl | (rw [nI_succ]; rfl))
      iterate 4 refine hP _ _ _ _ ?_
      refine x_p4 (P := P) (lpt (r + 1) (by omega) (Nat.le_refl _) rfl x3 x4) ?_ rfl ?_ <;> try (first | rfl | (rw [nI_succ]; rfl))
  iterate 2 refine hP _ _ _ _ ?_
  refine x_p4 (P := P) (loop 0 (by omega) rfl none none none) ?_ rfl ?_ <;> try (first | rfl | (rw [nI_succ]; rfl))
end RC
