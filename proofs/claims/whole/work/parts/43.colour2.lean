/-! ===== the model: the cells that are joined, in two colours ===== -/
theorem Rch.lt {lk : Nat → Nat → Bool} {N fr c : Nat} {x : Bool} (hf : fr < N) (h : Rch lk N fr c x) : c < N := h.ind (S := fun a _ => a < N) hf (fun _ _ _ _ _ hb _ => hb)
def cntL (lt dk : Nat → Bool) : Nat := rcN lt 81 + rcN dk 81
theorem cntL_le (lt dk : Nat → Bool) : cntL lt dk ≤ 162 := by have h1 := rcN_le lt 81; have h2 := rcN_le dk 81; unfold cntL; omega
def InvL (lk : Nat → Nat → Bool) (N fr : Nat) (lt dk : Nat → Bool) : Prop := (∀ c, lt c = true → Rch lk N fr c true) ∧ (∀ c, dk c = true → Rch lk N fr c false) ∧ lt fr = true
/-- one pass over all pairs, up to a, b -/
def PSt (lk : Nat → Nat → Bool) (N : Nat) (lt0 dk0 : Nat → Bool) (a b : Nat) (lt dk : Nat → Bool) (mo : Bool) : Prop := cntL lt0 dk0 ≤ cntL lt dk ∧ (mo = true → cntL lt0 dk0 < cntL lt dk) ∧ (mo = false → lt = lt0 ∧ dk = dk0 ∧ ∀ a' b', b' < N → (a' < a ∨ (a' = a ∧ b' < b)) → lk a' b' = true → (lt0 a' = true → dk0 b' = true) ∧ (dk0 a' = true → lt0 b' = true))
theorem PSt.skip {lk : Nat → Nat → Bool} {N : Nat} {lt0 dk0 : Nat → Bool} {a b : Nat} {lt dk : Nat → Bool} {mo : Bool} (h : PSt lk N lt0 dk0 a b lt dk mo) (hl : lk a b = false) : PSt lk N lt0 dk0 a (b + 1) lt dk mo := by
  refine ⟨h.1, h.2.1, fun hm => ⟨(h.2.2 hm).1, (h.2.2 hm).2.1, fun a' b' hb' hp hk => ?_⟩⟩
  by_cases hab : a' = a ∧ b' = b
  · rw [hab.1, hab.2, hl] at hk; cases hk
  · exact (h.2.2 hm).2.2 a' b' hb' (by omega) hk
theorem PSt.row {lk : Nat → Nat → Bool} {N : Nat} {lt0 dk0 : Nat → Bool} {a b : Nat} {lt dk : Nat → Bool} {mo : Bool} (h : PSt lk N lt0 dk0 a b lt dk mo) (hl : N ≤ b ∨ (lt a || dk a) = false) : PSt lk N lt0 dk0 (a + 1) 0 lt dk mo := by
  refine ⟨h.1, h.2.1, fun hm => ⟨(h.2.2 hm).1, (h.2.2 hm).2.1, fun a' b' hb' hp hk => ?_⟩⟩
  by_cases haa : a' = a
  · subst haa
    rcases hl with hl | hl
    · exact (h.2.2 hm).2.2 a' b' hb' (by omega) hk
    · obtain ⟨e1, e2, -⟩ := h.2.2 hm
      rw [e1, e2] at hl
      constructor
      · intro h9; rw [h9] at hl; cases hl
      · intro h9; rw [h9, Bool.or_true] at hl; cases hl
  · exact (h.2.2 hm).2.2 a' b' hb' (by omega) hk
theorem updB_mono {g : Nat → Bool} {k : Nat} {v : Bool} (h : g k = true → v = true) : ∀ c, g c = true → updB g k v c = true := by
  intro c hc
  by_cases hk : c = k
  · subst hk; rw [updB_s]; exact h hc
  · rw [updB_n hk]; exact hc
theorem PSt_k1 : ∀ p q r s : Bool, (r || s) = true → (false || !(p || q) || ((q || r) != q) || ((p || s) != p)) = true → (p = false ∧ s = true) ∨ (q = false ∧ r = true) := by decide
theorem PSt_k2 : ∀ p q r s : Bool, (false || !(p || q) || ((q || r) != q) || ((p || s) != p)) = false → (q || r) = q ∧ (p || s) = p := by decide
theorem PSt.go {lk : Nat → Nat → Bool} {N : Nat} {lt0 dk0 : Nat → Bool} {a b : Nat} {lt dk : Nat → Bool} {mo : Bool} (hb : b < 81) (h : PSt lk N lt0 dk0 a b lt dk mo) (hj : (lt a || dk a) = true) : PSt lk N lt0 dk0 a (b + 1) (updB lt b (lt b || dk a)) (updB dk b (dk b || lt a)) (mo || !(lt b || dk b) || ((dk b || lt a) != dk b) || ((lt b || dk a) != lt b)) := by
  have m1 : ∀ c, lt c = true → updB lt b (lt b || dk a) c = true := updB_mono (fun h => by rw [h]; rfl)
  have m2 : ∀ c, dk c = true → updB dk b (dk b || lt a) c = true := updB_mono (fun h => by rw [h]; rfl)
  have c1 := rcN_mono m1 81
  have c2 := rcN_mono m2 81
  have hle : cntL lt dk ≤ cntL (updB lt b (lt b || dk a)) (updB dk b (dk b || lt a)) := by unfold cntL; omega
  have s1 : lt b = false → dk a = true → cntL lt dk < cntL (updB lt b (lt b || dk a)) (updB dk b (dk b || lt a)) := by
    intro h1 h2
    have := rcN_lt m1 h1 (by rw [updB_s, h1, h2]; rfl) 81 hb
    unfold cntL; omega
  have s2 : dk b = false → lt a = true → cntL lt dk < cntL (updB lt b (lt b || dk a)) (updB dk b (dk b || lt a)) := by
    intro h1 h2
    have := rcN_lt m2 h1 (by rw [updB_s, h1, h2]; rfl) 81 hb
    unfold cntL; omega
  refine ⟨Nat.le_trans h.1 hle, fun hm => ?_, fun hm => ?_⟩
  · cases hmo : mo with
    | true => exact Nat.lt_of_lt_of_le (h.2.1 hmo) hle
    | false =>
      refine Nat.lt_of_le_of_lt h.1 ?_
      rw [hmo] at hm
      rcases PSt_k1 _ _ _ _ hj hm with ⟨k1, k2⟩ | ⟨k1, k2⟩
      · exact s1 k1 k2
      · exact s2 k1 k2
  · cases hmo : mo with
    | true => rw [hmo, Bool.true_or, Bool.true_or, Bool.true_or] at hm; cases hm
    | false =>
      obtain ⟨e1, e2, e3⟩ := h.2.2 hmo
      rw [hmo] at hm
      obtain ⟨hd, hl⟩ := PSt_k2 _ _ _ _ hm
      refine ⟨by rw [updB_same hl.symm]; exact e1, by rw [updB_same hd.symm]; exact e2, fun a' b' hb' hp hk => ?_⟩
      by_cases hab : a' = a ∧ b' = b
      · obtain ⟨rfl, rfl⟩ := hab
        rw [← e1, ← e2]
        constructor
        · intro h9; rw [h9, Bool.or_true] at hd; exact hd.symm
        · intro h9; rw [h9, Bool.or_true] at hl; exact hl.symm
      · exact e3 a' b' hb' (by omega) hk
theorem InvL.go {lk : Nat → Nat → Bool} {N fr : Nat} {lt dk : Nat → Bool} {a b : Nat} (h : InvL lk N fr lt dk) (hb : b < N) (hk : lk a b = true) : InvL lk N fr (updB lt b (lt b || dk a)) (updB dk b (dk b || lt a)) := by
  refine ⟨fun c hc => ?_, fun c hc => ?_, updB_mono (fun h => by rw [h]; rfl) _ h.2.2⟩
  · by_cases hcb : c = b
    · subst hcb
      rw [updB_s] at hc
      cases h1 : lt c with
      | true => exact h.1 c h1
      | false =>
        rw [h1, Bool.false_or] at hc
        exact (h.2.1 a hc).step hb hk
    · rw [updB_n hcb] at hc; exact h.1 c hc
  · by_cases hcb : c = b
    · subst hcb
      rw [updB_s] at hc
      cases h1 : dk c with
      | true => exact h.2.1 c h1
      | false =>
        rw [h1, Bool.false_or] at hc
        exact (h.1 a hc).step hb hk
    · rw [updB_n hcb] at hc; exact h.2.1 c hc
theorem InvL.done {lk : Nat → Nat → Bool} {N fr : Nat} {lt dk : Nat → Bool} (hf : fr < N) (h : InvL lk N fr lt dk) (hc : ∀ a b, a < N → b < N → lk a b = true → (lt a = true → dk b = true) ∧ (dk a = true → lt b = true)) : (∀ c, lt c = rcB lk N fr true c) ∧ ∀ c, dk c = rcB lk N fr false c := by
  have key : ∀ c x, Rch lk N fr c x → (if x then lt c else dk c) = true := by
    intro c x hr
    refine hr.ind (S := fun c x => (if x then lt c else dk c) = true) h.2.2 (fun a b y h1 h2 hb hl => ?_)
    have := hc a b (h1.lt hf) hb hl
    cases y with
    | true => exact this.1 h2
    | false => exact this.2 h2
  constructor
  · intro c
    rw [Bool.eq_iff_iff, rcB_t]
    exact ⟨h.1 c, fun hr => key c true hr⟩
  · intro c
    rw [Bool.eq_iff_iff, rcB_t]
    exact ⟨h.2.1 c, fun hr => key c false hr⟩
theorem b_ifz {A B : Prop} {x : Int32} (b : Bool) (hx : x = bI b) (f : b = false → A) (g : b = true → B) : (x_ic .eq x 0 → A) ∧ (¬ x_ic .eq x 0 → B) := b_ifeq f g hx
theorem b_bne {A B : Prop} {x y : Int32} (a b : Bool) (hx : x = bI a) (hy : y = bI b) (f : (a != b) = true → A) (g : (a != b) = false → B) : (x_ic .ne x y → A) ∧ (¬ x_ic .ne x y → B) := by
  subst hx; subst hy
  cases a <;> cases b
  · exact ⟨fun h => absurd rfl h, fun _ => g rfl⟩
  · exact ⟨fun _ => f rfl, fun h => absurd (show bI false ≠ bI true by decide) h⟩
  · exact ⟨fun _ => f rfl, fun h => absurd (show bI true ≠ bI false by decide) h⟩
  · exact ⟨fun h => absurd rfl h, fun _ => g rfl⟩
theorem b_beq {A B : Prop} {x y : Int32} (a b : Bool) (hx : x = bI a) (hy : y = bI b) (f : (a != b) = false → A) (g : (a != b) = true → B) : (x_ic .eq x y → A) ∧ (¬ x_ic .eq x y → B) := by
  subst hx; subst hy
  cases a <;> cases b
  · exact ⟨fun _ => f rfl, fun h => absurd rfl h⟩
  · exact ⟨fun h => absurd (show bI false = bI true from h) (by decide), fun _ => g rfl⟩
  · exact ⟨fun h => absurd (show bI true = bI false from h) (by decide), fun _ => g rfl⟩
  · exact ⟨fun _ => f rfl, fun h => absurd rfl h⟩
section CL2
variable {sc : Nat × (Nat → Int32)} {f : Nat → x_C} {ms : x_S} {tl : List x_C} {bb : Nat × Nat} {n w h d : Nat} {Q : x_O → x_H → Prop} {cb : Nat → Nat}
theorem r_colour (hG : gM ms n w h) (hC : cM ms n cb) {fr s : Nat} (hfr : fr < n * n) (hs : s < n) (hQ : ∀ ms', scr ms ms' → ldM ms' (rcB (lkN cb n w h s) (n * n) fr true) (rcB (lkN cb n w h s) (n * n) fr false) → Q (.inl none) (w_M f ms' tl bb)) : x_run sc x_MM x_EX (d + 4) k_X8_colour [.ref 26, .int (nI fr), .int (nI s)] (w_M f ms tl bb) Q := by
  obtain ⟨g1, g2, g3, g4, g5, g6, g7, g8⟩ := hG.2.2.2.le
  generalize hlk : lkN cb n w h s = lk at hQ
  have hlke : ∀ a b, lkN cb n w h s a b = lk a b := fun a b => by rw [hlk]
  refine x_in (M := m_X8_colour) rfl rfl (Nat.le_of_ble_eq_true rfl) ⟨rfl, rfl, rfl, trivial⟩ ?_
  intro P hP
  have whl : ∀ m lt0 dk0 m0, 163 ≤ cntL lt0 dk0 + m → scr ms m0 → ldM m0 lt0 dk0 → InvL lk (n * n) fr lt0 dk0 → ∀ x4 x5 x6 x7 : Option Value, P 55 [some (.ref 26), some (.int (nI fr)), some (.int (nI s)), some (.int (bI true)), x4, x5, x6, x7] [] (w_M f m0 tl bb) := by
    intro m
    induction m with
    | zero =>
      intro lt0 dk0 m0 hcn
      have := cntL_le lt0 dk0
      omega
    | succ m ihm =>
      intro lt0 dk0 m0 hcn hm0 hl0 hi0 x4 x5 x6 x7
      have lpa : ∀ a, a ≤ n * n → ∀ lt dk m2 mo, scr ms m2 → ldM m2 lt dk → InvL lk (n * n) fr lt dk → PSt lk (n * n) lt0 dk0 a 0 lt dk mo → ∀ x5 x6 x7 : Option Value, P 64 [some (.ref 26), some (.int (nI fr)), some (.int (nI s)), some (.int (bI mo)), some (.int (nI a)), x5, x6, x7] [] (w_M f m2 tl bb) := by
        refine x_lp (n * n) (fun a ha iha lt dk m2 mo hm2 hl2 hi2 hp2 x5 x6 x7 => ?_)
        have hG2 := hm2.g hG
        repeat refine hP _ _ _ _ ?_
        refine r_cells hG2 ?_
        repeat refine hP _ _ _ _ ?_
        refine b_ge (a) ((n*n)) (fun ha9 => ?_) (fun ha9 => ?_) (rfl) (rfl) (by omega) (by omega)
        · cases hmo : mo with
          | false =>
            obtain ⟨e1, e2, e3⟩ := hp2.2.2 hmo
            subst e1; subst e2
            obtain ⟨d1, d2⟩ := hi2.done hfr (fun a' b' ha' hb' hk' => e3 a' b' hb' (by omega) hk')
            repeat refine hP _ _ _ _ ?_
            refine And.intro (fun _ => ?_) (fun h9 => absurd (show bI false = 0 by decide) h9)
            repeat refine hP _ _ _ _ ?_
            refine hQ m2 hm2 (fun c hc => ?_)
            rw [← d1, ← d2]
            exact hl2 c hc
          | true =>
            refine hP _ _ _ _ ?_
            refine x_p4 (P := P) (ihm lt dk m2 (by have := hp2.2.1 hmo; omega) hm2 hl2 hi2 (some (.int (nI a))) x5 x6 x7) ?_ rfl ?_ <;> try (first | rfl | (rw [nI_succ]; rfl))
        · have iha := iha ha9
          have rowend : ∀ lt dk m3 mo, scr ms m3 → ldM m3 lt dk → InvL lk (n * n) fr lt dk → PSt lk (n * n) lt0 dk0 (a + 1) 0 lt dk mo → ∀ x5 x6 x7 : Option Value, P 240 [some (.ref 26), some (.int (nI fr)), some (.int (nI s)), some (.int (bI mo)), some (.int (nI a)), x5, x6, x7] [] (w_M f m3 tl bb) := by
            intro lt dk m3 mo hm3 hl3 hi3 hp3 x5 x6 x7
            iterate 2 refine hP _ _ _ _ ?_
            refine x_p4 (P := P) (iha lt dk m3 mo hm3 hl3 hi3 hp3 x5 x6 x7) ?_ rfl ?_ <;> try (first | rfl | (rw [nI_succ]; rfl))
          have lpb : ∀ b, b ≤ n * n → ∀ lt dk m3 mo, scr ms m3 → ldM m3 lt dk → InvL lk (n * n) fr lt dk → PSt lk (n * n) lt0 dk0 a b lt dk mo → ∀ x6 x7 : Option Value, P 76 [some (.ref 26), some (.int (nI fr)), some (.int (nI s)), some (.int (bI mo)), some (.int (nI a)), some (.int (nI b)), x6, x7] [] (w_M f m3 tl bb) := by
            refine x_lp (n * n) (fun b hb ihb lt dk m3 mo hm3 hl3 hi3 hp3 x6 x7 => ?_)
            have hG3 := hm3.g hG
            have hC3 := hm3.c hC
            repeat refine hP _ _ _ _ ?_
            refine r_cells hG3 ?_
            repeat refine hP _ _ _ _ ?_
            refine b_ge (b) ((n*n)) (fun hb9 => ?_) (fun hb9 => ?_) (rfl) (rfl) (by omega) (by omega)
            · exact rowend lt dk m3 mo hm3 hl3 hi3 (hp3.row (Or.inl hb9)) _ _ _
            · have ihb := ihb hb9
              have la := hl3 a (by omega)
              have lb := hl3 b (by omega)
              have ina : vp_in (nI a) 81 := vp_in_nI (by omega) (by omega)
              have inb : vp_in (nI b) 81 := vp_in_nI (by omega) (by omega)
              repeat refine hP _ _ _ _ ?_
              refine And.intro ina ?_
              rw [ldv la.1 (by omega)]
              repeat refine hP _ _ _ _ ?_
              refine b_ifeq (fun hja => ?_) (fun hja => ?_) (rfl)
              · exact rowend lt dk m3 mo hm3 hl3 hi3 (hp3.row (Or.inr hja)) _ _ _
              · repeat refine hP _ _ _ _ ?_
                refine r_isLinked hG3 hC3 ha9 hb9 hs ?_
                rw [hlke]
                repeat refine hP _ _ _ _ ?_
                refine b_ifne (fun hk => ?_) (fun hk => ?_) (rfl)
                · have fin : P 207 [some (.ref 26), some (.int (nI fr)), some (.int (nI s)), some (.int (bI mo)), some (.int (nI a)), some (.int (nI b)), some (.int (bI (dk b || lt a))), some (.int (bI (lt b || dk a)))] [.int (bI (mo || !(lt b || dk b) || ((dk b || lt a) != dk b) || ((lt b || dk a) != lt b)))] (w_M f m3 tl bb) := by
                    repeat refine hP _ _ _ _ ?_
                    refine And.intro inb ?_
                    repeat refine hP _ _ _ _ ?_
                    refine And.intro inb ?_
                    repeat refine hP _ _ _ _ ?_
                    refine And.intro inb ?_
                    iterate 2 refine hP _ _ _ _ ?_
                    refine x_p4 (P := P) (ihb _ _ (sA (sA (sA m3 38 (upd (m3.2 38) (nI b).toNatClampNeg (vp_nar .boolean (Int32.ofInt 1)))) 40 (upd (m3.2 40) (nI b).toNatClampNeg (vp_nar .boolean (bI (dk b || lt a))))) 39 (upd (m3.2 39) (nI b).toNatClampNeg (vp_nar .boolean (bI (lt b || dk a))))) _ (hm3.tr (((scr.a (by decide)).tr (scr.a (by decide))).tr (scr.a (by decide)))) ?_ (hi3.go hb9 hk) (hp3.go (by omega) hja) (some (.int (bI (dk b || lt a)))) (some (.int (bI (lt b || dk a))))) ?_ rfl ?_ <;> try (first | rfl | (rw [nI_succ]; rfl))
                    intro c hc
                    show upd (m3.2 38) (nI b).toNatClampNeg (vp_nar .boolean (Int32.ofInt 1)) c = _ ∧ upd (m3.2 39) (nI b).toNatClampNeg (vp_nar .boolean (bI (lt b || dk a))) c = _ ∧ upd (m3.2 40) (nI b).toNatClampNeg (vp_nar .boolean (bI (dk b || lt a))) c = _
                    rw [upv (by omega), upv (by omega), upv (by omega), bI_nb, bI_nb]
                    by_cases hcb : c = b
                    · subst hcb
                      rw [pk_us, pk_us, pk_us, updB_s, updB_s]
                      refine ⟨?_, rfl, rfl⟩
                      have e : (lt c || dk a || (dk c || lt a)) = true := by
                        cases e1 : lt c <;> cases e2 : dk c <;> cases e3 : lt a <;> cases e4 : dk a <;> first | rfl | (rw [e3, e4] at hja; exact absurd hja (by decide))
                      rw [e]; rfl
                    · rw [pk_un hcb, pk_un hcb, pk_un hcb, updB_n hcb, updB_n hcb]
                      exact hl3 c hc
                  have two : P 162 [some (.ref 26), some (.int (nI fr)), some (.int (nI s)), some (.int (bI mo)), some (.int (nI a)), some (.int (nI b)), some (.int (bI (dk b || lt a))), x7] [.int (bI (lt b || dk a))] (w_M f m3 tl bb) := by
                    have yes : (mo || !(lt b || dk b) || ((dk b || lt a) != dk b) || ((lt b || dk a) != lt b)) = true → P 202 [some (.ref 26), some (.int (nI fr)), some (.int (nI s)), some (.int (bI mo)), some (.int (nI a)), some (.int (nI b)), some (.int (bI (dk b || lt a))), some (.int (bI (lt b || dk a)))] [] (w_M f m3 tl bb) := by
                      intro hy
                      rw [hy] at fin
                      iterate 2 refine hP _ _ _ _ ?_
                      refine x_p4 (P := P) (fin) ?_ rfl ?_ <;> try (first | rfl | (rw [nI_succ]; rfl))
                    repeat refine hP _ _ _ _ ?_
                    refine b_ifne (fun h1 => ?_) (fun h1 => ?_) (rfl)
                    · exact yes (by rw [h1]; rfl)
                    · repeat refine hP _ _ _ _ ?_
                      refine And.intro inb ?_
                      rw [ldv lb.1 (by omega)]
                      repeat refine hP _ _ _ _ ?_
                      refine b_ifeq (fun h2 => ?_) (fun h2 => ?_) (rfl)
                      · exact yes (by rw [h1, h2]; rfl)
                      · repeat refine hP _ _ _ _ ?_
                        refine And.intro inb ?_
                        rw [ldv lb.2.2 (by omega)]
                        repeat refine hP _ _ _ _ ?_
                        refine b_bne (dk b || lt a) (dk b) rfl rfl (fun h3 => ?_) (fun h3 => ?_)
                        · exact yes (by rw [h1, h2, h3]; rfl)
                        · repeat refine hP _ _ _ _ ?_
                          refine And.intro inb ?_
                          rw [ldv lb.2.1 (by omega)]
                          repeat refine hP _ _ _ _ ?_
                          refine b_beq (lt b || dk a) (lt b) rfl rfl (fun h4 => ?_) (fun h4 => ?_)
                          · rw [show (mo || !(lt b || dk b) || ((dk b || lt a) != dk b) || ((lt b || dk a) != lt b)) = false by rw [h1, h2, h3, h4]; rfl] at fin
                            refine hP _ _ _ _ ?_
                            refine x_p4 (P := P) (fin) ?_ rfl ?_ <;> try (first | rfl | (rw [nI_succ]; rfl))
                          · exact yes (by rw [h1, h2, h3, h4]; rfl)
                  have one : P 135 [some (.ref 26), some (.int (nI fr)), some (.int (nI s)), some (.int (bI mo)), some (.int (nI a)), some (.int (nI b)), x6, x7] [.int (bI (dk b || lt a))] (w_M f m3 tl bb) := by
                    repeat refine hP _ _ _ _ ?_
                    refine And.intro inb ?_
                    rw [ldv lb.2.1 (by omega)]
                    repeat refine hP _ _ _ _ ?_
                    refine b_ifne (fun h1 => ?_) (fun h1 => ?_) (rfl)
                    · rw [show (lt b || dk a) = true by rw [h1]; rfl] at two
                      iterate 2 refine hP _ _ _ _ ?_
                      refine x_p4 (P := P) (two) ?_ rfl ?_ <;> try (first | rfl | (rw [nI_succ]; rfl))
                    · repeat refine hP _ _ _ _ ?_
                      refine And.intro ina ?_
                      rw [ldv la.2.2 (by omega)]
                      repeat refine hP _ _ _ _ ?_
                      refine b_ifeq (fun h2 => ?_) (fun h2 => ?_) (rfl)
                      · rw [show (lt b || dk a) = false by rw [h1, h2]; rfl] at two
                        refine hP _ _ _ _ ?_
                        refine x_p4 (P := P) (two) ?_ rfl ?_ <;> try (first | rfl | (rw [nI_succ]; rfl))
                      · rw [show (lt b || dk a) = true by rw [h1, h2]; rfl] at two
                        iterate 2 refine hP _ _ _ _ ?_
                        refine x_p4 (P := P) (two) ?_ rfl ?_ <;> try (first | rfl | (rw [nI_succ]; rfl))
                  repeat refine hP _ _ _ _ ?_
                  refine And.intro inb ?_
                  rw [ldv lb.2.2 (by omega)]
                  repeat refine hP _ _ _ _ ?_
                  refine b_ifne (fun h1 => ?_) (fun h1 => ?_) (rfl)
                  · rw [show (dk b || lt a) = true by rw [h1]; rfl] at one
                    iterate 2 refine hP _ _ _ _ ?_
                    refine x_p4 (P := P) (one) ?_ rfl ?_ <;> try (first | rfl | (rw [nI_succ]; rfl))
                  · repeat refine hP _ _ _ _ ?_
                    refine And.intro ina ?_
                    rw [ldv la.2.1 (by omega)]
                    repeat refine hP _ _ _ _ ?_
                    refine b_ifeq (fun h2 => ?_) (fun h2 => ?_) (rfl)
                    · rw [show (dk b || lt a) = false by rw [h1, h2]; rfl] at one
                      refine hP _ _ _ _ ?_
                      refine x_p4 (P := P) (one) ?_ rfl ?_ <;> try (first | rfl | (rw [nI_succ]; rfl))
                    · rw [show (dk b || lt a) = true by rw [h1, h2]; rfl] at one
                      iterate 2 refine hP _ _ _ _ ?_
                      refine x_p4 (P := P) (one) ?_ rfl ?_ <;> try (first | rfl | (rw [nI_succ]; rfl))
                · iterate 3 refine hP _ _ _ _ ?_
                  refine x_p4 (P := P) (ihb lt dk m3 mo hm3 hl3 hi3 (hp3.skip hk) x6 x7) ?_ rfl ?_ <;> try (first | rfl | (rw [nI_succ]; rfl))
          iterate 2 refine hP _ _ _ _ ?_
          refine x_p4 (P := P) (lpb 0 (by omega) lt dk m2 mo hm2 hl2 hi2 hp2 x6 x7) ?_ rfl ?_ <;> try (first | rfl | (rw [nI_succ]; rfl))
      repeat refine hP _ _ _ _ ?_
      refine And.intro (fun h9 => absurd (show bI true = 0 from h9) (by decide)) (fun _ => ?_)
      iterate 4 refine hP _ _ _ _ ?_
      refine x_p4 (P := P) (lpa 0 (by omega) lt0 dk0 m0 false hm0 hl0 hi0 ⟨Nat.le_refl _, ⟨fun h => absurd h (by decide), fun _ => ⟨rfl, ⟨rfl, fun a' b' _ hp _ => by omega⟩⟩⟩⟩ x5 x6 x7) ?_ rfl ?_ <;> try (first | rfl | (rw [nI_succ]; rfl))
  have ini : ∀ c, c ≤ 81 → ∀ j1 j2 j3 : Nat → Int32, (∀ t, t < c → j1 t = bI (t == fr) ∧ j2 t = bI (t == fr) ∧ j3 t = 0) → P 2 [some (.ref 26), some (.int (nI fr)), some (.int (nI s)), some (.int (nI c)), none, none, none, none] [] (w_M f (sA (sA (sA ms 38 j1) 39 j2) 40 j3) tl bb) := by
    refine x_lp 81 (fun c hc ih j1 j2 j3 hj => ?_)
    repeat refine hP _ _ _ _ ?_
    refine b_ge (c) (81) (fun hc9 => ?_) (fun hc9 => ?_) (rfl) (ob81) (by omega) (by omega)
    · iterate 2 refine hP _ _ _ _ ?_
      refine x_p4 (P := P) (whl 163 (fun t => t == fr) (fun _ => false) (sA (sA (sA ms 38 j1) 39 j2) 40 j3) (by omega) (((scr.a (by decide)).tr (scr.a (by decide))).tr (scr.a (by decide))) (fun t ht => ?_) ⟨fun t ht => by rw [beq_iff_eq.mp ht]; exact Rch.base, ⟨fun t ht => absurd ht (show ¬ false = true by decide), beq_self_eq_true fr⟩⟩ none none none none) ?_ rfl ?_ <;> try (first | rfl | (rw [nI_succ]; rfl))
      have := hj t (by omega)
      exact ⟨by rw [Bool.or_false]; exact this.1, this.2.1, this.2.2⟩
    · have ih := ih hc9
      have inc : vp_in (nI c) 81 := vp_in_nI (by omega) (by omega)
      have fin : ∀ x : Int32, x = bI (c == fr) → P 39 [some (.ref 26), some (.int (nI fr)), some (.int (nI s)), some (.int (nI c)), none, none, none, none] [.int x, .int (nI c), .ref 39] (w_M f (sA (sA (sA ms 38 (upd j1 c (bI (c == fr)))) 39 j2) 40 j3) tl bb) := by
        intro x hx
        subst hx
        repeat refine hP _ _ _ _ ?_
        refine And.intro inc ?_
        repeat refine hP _ _ _ _ ?_
        refine And.intro inc ?_
        iterate 2 refine hP _ _ _ _ ?_
        refine x_p4 (P := P) (ih (upd j1 c (bI (c == fr))) (upd j2 (nI c).toNatClampNeg (vp_nar .boolean (bI (c == fr)))) (upd j3 (nI c).toNatClampNeg (vp_nar .boolean (Int32.ofInt 0))) ?_) ?_ rfl ?_ <;> try (first | rfl | (rw [nI_succ]; rfl))
        intro t ht
        rw [upv (by omega), upv (by omega), bI_nb]
        by_cases htc : t = c
        · subst htc
          rw [pk_us, pk_us, pk_us]
          exact ⟨rfl, rfl, rfl⟩
        · rw [pk_un htc, pk_un htc, pk_un htc]
          exact hj t (by omega)
      have mid : ∀ x : Int32, x = bI (c == fr) → P 23 [some (.ref 26), some (.int (nI fr)), some (.int (nI s)), some (.int (nI c)), none, none, none, none] [.int x, .int (nI c), .ref 38] (w_M f (sA (sA (sA ms 38 j1) 39 j2) 40 j3) tl bb) := by
        intro x hx
        subst hx
        have hU : upd j1 (nI c).toNatClampNeg (vp_nar .boolean (bI (c == fr))) = upd j1 c (bI (c == fr)) := by rw [upv (by omega), bI_nb]
        repeat refine hP _ _ _ _ ?_
        refine And.intro inc ?_
        repeat refine hP _ _ _ _ ?_
        refine b_ne (c) (fr) (fun h1 => ?_) (fun h1 => ?_) (rfl) (rfl) (by omega) (by omega)
        · refine hP _ _ _ _ ?_
          refine x_p4 (P := P) (fin (bI false) (by rw [beq_eq_false_iff_ne.mpr h1])) ?_ rfl ?_
          · rfl
          · rw [← hU]; rfl
        · iterate 2 refine hP _ _ _ _ ?_
          refine x_p4 (P := P) (fin (bI true) (by rw [beq_iff_eq.mpr h1])) ?_ rfl ?_
          · rfl
          · rw [← hU]; rfl
      repeat refine hP _ _ _ _ ?_
      refine b_ne (c) (fr) (fun h1 => ?_) (fun h1 => ?_) (rfl) (rfl) (by omega) (by omega)
      · refine hP _ _ _ _ ?_
        refine x_p4 (P := P) (mid (bI false) (by rw [beq_eq_false_iff_ne.mpr h1])) ?_ rfl ?_ <;> try (first | rfl | (rw [nI_succ]; rfl))
      · iterate 2 refine hP _ _ _ _ ?_
        refine x_p4 (P := P) (mid (bI true) (by rw [beq_iff_eq.mpr h1])) ?_ rfl ?_ <;> try (first | rfl | (rw [nI_succ]; rfl))
  iterate 2 refine hP _ _ _ _ ?_
  refine x_p4 (P := P) (ini 0 (by omega) (ms.2 38) (ms.2 39) (ms.2 40) (fun t ht => by omega)) ?_ rfl ?_ <;> try (first | rfl | (rw [nI_succ]; rfl))
end CL2
