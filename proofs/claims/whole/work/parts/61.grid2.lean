/-! ===== the class: the grid changed, broken, counted ===== -/
theorem at_eq {n w h c g i : Nat} (k : KD n w h) (hc : c < n * n) (hg : g < 3 * n) (hi : i < n) : atN n w h g i = c ↔ (g = hoN n w h c (g / n) ∧ i = poN n w h c (g / n)) := by
  have q := gat k hg hi
  constructor
  · intro e
    rw [e] at q
    exact ⟨q.1.symm, q.2.1.symm⟩
  · intro e
    have q2 := geo k hc q.2.2
    rw [e.1, e.2]
    exact q2.2.2.2
theorem plB_up {cb : Nat → Nat} {n w h c g t v : Nat} (k : KD n w h) (hc : c < n * n) (hg : g < 3 * n) (i : Nat) : (plB (updN cb c v) n w h g t n).testBit i = if i < n ∧ g = hoN n w h c (g / n) ∧ i = poN n w h c (g / n) then v.testBit t else (plB cb n w h g t n).testBit i := by
  rw [plB_bit, plB_bit]
  by_cases hi : i < n
  · have q := at_eq k hc hg hi
    unfold updN
    by_cases ha : atN n w h g i = c
    · have q2 := q.mp ha
      rw [if_pos ha, if_pos ⟨hi, q2.1, q2.2⟩, decide_eq_true hi, Bool.true_and]
    · rw [if_neg ha, if_neg (fun e => ha (q.mpr e.2))]
  · rw [if_neg (fun e => hi e.1), decide_eq_false hi, Bool.false_and, Bool.false_and]
theorem plB_dr {cb : Nat → Nat} {n w h c s g t : Nat} (k : KD n w h) (hc : c < n * n) (hg : g < 3 * n) : plB (updN cb c (clr (cb c) (2 ^ s))) n w h g t n = if t = s ∧ g = hoN n w h c (g / n) then clr (plB cb n w h g t n) (2 ^ poN n w h c (g / n)) else plB cb n w h g t n := by
  apply Nat.eq_of_testBit_eq
  intro i
  rw [plB_up k hc hg]
  by_cases hh : i < n ∧ g = hoN n w h c (g / n) ∧ i = poN n w h c (g / n)
  · have ha : atN n w h g i = c := (at_eq k hc hg hh.1).mpr hh.2
    rw [if_pos hh, clr_bit, Nat.testBit_two_pow]
    by_cases ht : t = s
    · subst ht
      rw [if_pos ⟨rfl, hh.2.1⟩, clr_bit, Nat.testBit_two_pow, decide_eq_true hh.2.2.symm]
      simp
    · rw [if_neg (fun e => ht e.1), plB_bit, ha, decide_eq_true hh.1, decide_eq_false (fun e => ht e.symm)]
      simp
  · rw [if_neg hh]
    by_cases ht : t = s ∧ g = hoN n w h c (g / n)
    · rw [if_pos ht, clr_bit, Nat.testBit_two_pow, plB_bit]
      by_cases hi : i < n
      · rw [decide_eq_false (p := poN n w h c (g / n) = i) (fun e => hh ⟨hi, ht.2, e.symm⟩)]
        simp
      · rw [decide_eq_false hi]; rfl
    · rw [if_neg ht]
theorem plB_gb {cb : Nat → Nat} {n w h c s g t : Nat} (k : KD n w h) (hc : c < n * n) (hg : g < 3 * n) : plB (updN cb c (cb c ||| 2 ^ s)) n w h g t n = if t = s ∧ g = hoN n w h c (g / n) then plB cb n w h g t n ||| 2 ^ poN n w h c (g / n) else plB cb n w h g t n := by
  apply Nat.eq_of_testBit_eq
  intro i
  rw [plB_up k hc hg]
  by_cases hh : i < n ∧ g = hoN n w h c (g / n) ∧ i = poN n w h c (g / n)
  · have ha : atN n w h g i = c := (at_eq k hc hg hh.1).mpr hh.2
    rw [if_pos hh, Nat.testBit_or, Nat.testBit_two_pow]
    by_cases ht : t = s
    · subst ht
      rw [if_pos ⟨rfl, hh.2.1⟩, Nat.testBit_or, Nat.testBit_two_pow, decide_eq_true hh.2.2.symm]
      simp
    · rw [if_neg (fun e => ht e.1), plB_bit, ha, decide_eq_true hh.1, decide_eq_false (fun e => ht e.symm)]
      simp
  · rw [if_neg hh]
    by_cases ht : t = s ∧ g = hoN n w h c (g / n)
    · rw [if_pos ht, Nat.testBit_or, Nat.testBit_two_pow, plB_bit]
      by_cases hi : i < n
      · rw [decide_eq_false (p := poN n w h c (g / n) = i) (fun e => hh ⟨hi, ht.2, e.symm⟩)]
        simp
      · have := (geo k hc (gat k hg (show 0 < n by rcases k with ⟨rfl, _⟩ | ⟨rfl, _⟩ | ⟨rfl, _⟩ <;> decide)).2.2).2.2.1
        rw [decide_eq_false hi, decide_eq_false (p := poN n w h c (g / n) = i) (by omega)]; rfl
    · rw [if_neg ht]
theorem all_lt {p : Nat → Prop} {c : Nat} (h : ∀ e, e < c → p e) (hc : p c) : ∀ e, e < c + 1 → p e := fun e he => by
  by_cases h9 : e = c
  · rw [h9]; exact hc
  · exact h e (by omega)
section CG2
variable {sc : Nat × (Nat → Int32)} {cs : x_S} {tl : List x_C} {bb : Nat × Nat} {n w h d : Nat} {Q : x_O → x_H → Prop} {cb : Nat → Nat} {vb : Nat → Option Nat}
theorem cC.lt (hC : cC cs n cb) (hn : n ≤ 9) {c : Nat} (hc : c < n * n) : cb c < 512 := Nat.lt_of_lt_of_le (hC c hc).2 (Nat.pow_le_pow_right (by omega) hn)
theorem c_drop (hG : gC cs n w h) (hC : cC cs n cb) (hP9 : pC cs n w h cb) {c s : Nat} (hc : c < n * n) (hs : s < n) (hQ : ∀ g3 g8, cC (sA (sA cs 3 g3) 8 g8) n (updN cb c (clr (cb c) (2 ^ s))) → pC (sA (sA cs 3 g3) 8 g8) n w h (updN cb c (clr (cb c) (2 ^ s))) → Q (.inl none) (w_C n (sA (sA cs 3 g3) 8 g8) tl bb)) : x_run sc x_MM x_EX (d + 1) k_X2_drop [.ref 2, .int (nI c), .int (nI s)] (w_C n cs tl bb) Q := by
  obtain ⟨g1, g2, g3, g4, g5, g6, g7, g8⟩ := hG.1.le
  obtain ⟨b1, b2, b3, b4, b5, b6, b7⟩ := hG.1.b3
  refine x_in (M := m_X2_drop) rfl rfl (Nat.le_of_ble_eq_true rfl) ⟨rfl, rfl, rfl, trivial⟩ ?_
  intro P hP
  have loop : ∀ k, k ≤ 3 → ∀ A : Nat → Int32, (∀ g t, g < 3 * n → t < n → A (g * n + t) = nI (if t = s ∧ g / n < k ∧ g = hoN n w h c (g / n) then clr (plB cb n w h g t n) (2 ^ poN n w h c (g / n)) else plB cb n w h g t n)) → P 18 [some (.ref 2), some (.int (nI c)), some (.int (nI s)), some (.int (nI (c * 3 + k)))] [] (w_C n (sA (sA cs 3 (upd (cs.2 3) c (nI (clr (cb c) (2 ^ s))))) 8 A) tl bb) := by
    refine x_lp 3 (fun k hk ih A hA => ?_)
    repeat refine hP _ _ _ _ ?_
    refine b_ge (c * 3 + k) ((c + 1) * 3) (fun hk9 => ?_) (fun hk9 => ?_) (rfl) (by rw [oi1, nI_add, oi3, pk_mul]) (by omega) (by omega)
    · have e9 : k = 3 := by omega
      subst e9
      repeat refine hP _ _ _ _ ?_
      refine hQ _ _ (fun e he => ?_) (fun g t hg ht => ?_)
      · show upd (cs.2 3) c (nI (clr (cb c) (2 ^ s))) e = nI (updN cb c (clr (cb c) (2 ^ s)) e) ∧ updN cb c (clr (cb c) (2 ^ s)) e < 2 ^ n
        unfold updN
        by_cases hec : e = c
        · subst hec; rw [pk_us, if_pos rfl]; exact ⟨rfl, Nat.lt_of_le_of_lt (clr_le _ _) (hC e he).2⟩
        · rw [pk_un hec, if_neg hec]; exact hC e he
      · show A (g * n + t) = _
        have q := (gat hG.1 hg ht).2.2
        rw [hA g t hg ht, plB_dr hG.1 hc hg]
        by_cases hh : t = s ∧ g = hoN n w h c (g / n)
        · rw [if_pos ⟨hh.1, q, hh.2⟩, if_pos hh]
        · rw [if_neg (fun e => hh ⟨e.1, e.2.2⟩), if_neg hh]
    · have hk3 : k < 3 := by omega
      have ih := ih hk3
      obtain ⟨q1, q2, q3, q4⟩ := geo hG.1 hc hk3
      have hb := ixB hc hk3
      have hb2 := ixB q2 hs
      have hAk : A (hoN n w h c k * n + s) = nI (plB cb n w h (hoN n w h c k) s n) := by rw [hA _ s q2 hs, q1, if_neg (by omega)]
      repeat refine hP _ _ _ _ ?_
      refine And.intro (vp_in_nI hb (by omega)) ?_
      rw [ldv (f := (sA (sA cs 3 (upd (cs.2 3) c (nI (clr (cb c) (2 ^ s))))) 8 A).2 6) (hG.2.2.1 c k hc hk3) (by omega)]
      repeat refine hP _ _ _ _ ?_
      refine And.intro (vpx (ix _ n s) hb2 (by omega)) ?_
      rw [ldx (f := (sA (sA cs 3 (upd (cs.2 3) c (nI (clr (cb c) (2 ^ s))))) 8 A).2 8) hAk (ix _ n s) (by omega)]
      repeat refine hP _ _ _ _ ?_
      refine And.intro (vp_in_nI hb (by omega)) ?_
      rw [ldv (f := (sA (sA cs 3 (upd (cs.2 3) c (nI (clr (cb c) (2 ^ s))))) 8 A).2 7) (hG.2.2.2 c k hc hk3) (by omega)]
      repeat refine hP _ _ _ _ ?_
      refine And.intro (vpx (ix _ n s) hb2 (by omega)) ?_
      rw [upx (f := (sA (sA cs 3 (upd (cs.2 3) c (nI (clr (cb c) (2 ^ s))))) 8 A).2 8) (ix _ n s) (by omega), sh1 (show poN n w h c k < 10 by omega), oim, nx_not]
      iterate 2 refine hP _ _ _ _ ?_
      refine x_p4 (P := P) (ih (upd A (hoN n w h c k * n + s) (nI (clr (plB cb n w h (hoN n w h c k) s n) (2 ^ poN n w h c k)))) ?_) ?_ rfl ?_
      · intro g t hg ht
        by_cases hgt : g = hoN n w h c k ∧ t = s
        · obtain ⟨rfl, rfl⟩ := hgt
          rw [pk_us, if_pos ⟨rfl, by omega, by rw [q1]⟩, q1]
        · rw [pk_un (fun e => hgt (ixI ht hs e)), hA g t hg ht]
          by_cases hh : t = s ∧ g / n < k ∧ g = hoN n w h c (g / n)
          · rw [if_pos hh, if_pos ⟨hh.1, by omega, hh.2.2⟩]
          · rw [if_neg hh, if_neg (fun e => hh ⟨e.1, by
              rcases Nat.lt_or_ge (g / n) k with h9 | h9
              · exact h9
              · exact absurd ⟨by rw [show k = g / n by omega]; exact e.2.2, e.1⟩ hgt, e.2.2⟩)]
      · rw [show c * 3 + (k + 1) = c * 3 + k + 1 from rfl, nI_succ]; rfl
      · rfl
  repeat refine hP _ _ _ _ ?_
  refine And.intro (vp_in_nI hc (by omega)) ?_
  rw [ldv (f := cs.2 3) (hC c hc).1 (by omega)]
  repeat refine hP _ _ _ _ ?_
  refine And.intro (vp_in_nI hc (by omega)) ?_
  rw [upv (f := cs.2 3) (by omega), sh1 (show s < 10 by omega), oim, nx_not]
  iterate 4 refine hP _ _ _ _ ?_
  refine x_p4 (P := P) (loop 0 (by omega) (cs.2 8) ?_) ?_ rfl ?_
  · intro g t hg ht
    rw [if_neg (fun e => absurd e.2.1 (Nat.not_lt_zero _))]
    exact hP9 g t hg ht
  · rw [oi3, pk_mul]; rfl
  · rfl
theorem or_lt9 {a b n : Nat} (ha : a < 2 ^ n) (hb : b < 2 ^ n) : a ||| b < 2 ^ n := Nat.or_lt_two_pow ha hb
theorem p2_lt {s n : Nat} (hs : s < n) : 2 ^ s < 2 ^ n := Nat.pow_lt_pow_right (by omega) hs
theorem c_giveBack (hG : gC cs n w h) (hC : cC cs n cb) (hP9 : pC cs n w h cb) {c s : Nat} (hc : c < n * n) (hs : s < n) {x y : Int32} (hx : x = nI c) (hy : y = nI s) (hQ : ∀ g3 g8, cC (sA (sA cs 3 g3) 8 g8) n (updN cb c (cb c ||| 2 ^ s)) → pC (sA (sA cs 3 g3) 8 g8) n w h (updN cb c (cb c ||| 2 ^ s)) → Q (.inl none) (w_C n (sA (sA cs 3 g3) 8 g8) tl bb)) : x_run sc x_MM x_EX (d + 1) k_X2_giveBack [.ref 2, .int x, .int y] (w_C n cs tl bb) Q := by
  subst hx; subst hy
  obtain ⟨g1, g2, g3, g4, g5, g6, g7, g8⟩ := hG.1.le
  obtain ⟨b1, b2, b3, b4, b5, b6, b7⟩ := hG.1.b3
  refine x_in (M := m_X2_giveBack) rfl rfl (Nat.le_of_ble_eq_true rfl) ⟨rfl, rfl, rfl, trivial⟩ ?_
  intro P hP
  have loop : ∀ k, k ≤ 3 → ∀ A : Nat → Int32, (∀ g t, g < 3 * n → t < n → A (g * n + t) = nI (if t = s ∧ g / n < k ∧ g = hoN n w h c (g / n) then plB cb n w h g t n ||| 2 ^ poN n w h c (g / n) else plB cb n w h g t n)) → P 16 [some (.ref 2), some (.int (nI c)), some (.int (nI s)), some (.int (nI (c * 3 + k)))] [] (w_C n (sA (sA cs 3 (upd (cs.2 3) c (nI (cb c ||| 2 ^ s)))) 8 A) tl bb) := by
    refine x_lp 3 (fun k hk ih A hA => ?_)
    repeat refine hP _ _ _ _ ?_
    refine b_ge (c * 3 + k) ((c + 1) * 3) (fun hk9 => ?_) (fun hk9 => ?_) (rfl) (by rw [oi1, nI_add, oi3, pk_mul]) (by omega) (by omega)
    · have e9 : k = 3 := by omega
      subst e9
      repeat refine hP _ _ _ _ ?_
      refine hQ _ _ (fun e he => ?_) (fun g t hg ht => ?_)
      · show upd (cs.2 3) c (nI (cb c ||| 2 ^ s)) e = nI (updN cb c (cb c ||| 2 ^ s) e) ∧ updN cb c (cb c ||| 2 ^ s) e < 2 ^ n
        unfold updN
        by_cases hec : e = c
        · subst hec; rw [pk_us, if_pos rfl]; exact ⟨rfl, or_lt9 (hC e he).2 (p2_lt hs)⟩
        · rw [pk_un hec, if_neg hec]; exact hC e he
      · show A (g * n + t) = _
        have q := (gat hG.1 hg ht).2.2
        rw [hA g t hg ht, plB_gb hG.1 hc hg]
        by_cases hh : t = s ∧ g = hoN n w h c (g / n)
        · rw [if_pos ⟨hh.1, q, hh.2⟩, if_pos hh]
        · rw [if_neg (fun e => hh ⟨e.1, e.2.2⟩), if_neg hh]
    · have hk3 : k < 3 := by omega
      have ih := ih hk3
      obtain ⟨q1, q2, q3, q4⟩ := geo hG.1 hc hk3
      have hb := ixB hc hk3
      have hb2 := ixB q2 hs
      have hAk : A (hoN n w h c k * n + s) = nI (plB cb n w h (hoN n w h c k) s n) := by rw [hA _ s q2 hs, q1, if_neg (by omega)]
      repeat refine hP _ _ _ _ ?_
      refine And.intro (vp_in_nI hb (by omega)) ?_
      rw [ldv (f := (sA (sA cs 3 (upd (cs.2 3) c (nI (cb c ||| 2 ^ s)))) 8 A).2 6) (hG.2.2.1 c k hc hk3) (by omega)]
      repeat refine hP _ _ _ _ ?_
      refine And.intro (vpx (ix _ n s) hb2 (by omega)) ?_
      rw [ldx (f := (sA (sA cs 3 (upd (cs.2 3) c (nI (cb c ||| 2 ^ s)))) 8 A).2 8) hAk (ix _ n s) (by omega)]
      repeat refine hP _ _ _ _ ?_
      refine And.intro (vp_in_nI hb (by omega)) ?_
      rw [ldv (f := (sA (sA cs 3 (upd (cs.2 3) c (nI (cb c ||| 2 ^ s)))) 8 A).2 7) (hG.2.2.2 c k hc hk3) (by omega)]
      repeat refine hP _ _ _ _ ?_
      refine And.intro (vpx (ix _ n s) hb2 (by omega)) ?_
      rw [upx (f := (sA (sA cs 3 (upd (cs.2 3) c (nI (cb c ||| 2 ^ s)))) 8 A).2 8) (ix _ n s) (by omega), sh1 (show poN n w h c k < 10 by omega), nx_or]
      iterate 2 refine hP _ _ _ _ ?_
      refine x_p4 (P := P) (ih (upd A (hoN n w h c k * n + s) (nI (plB cb n w h (hoN n w h c k) s n ||| 2 ^ poN n w h c k))) ?_) ?_ rfl ?_
      · intro g t hg ht
        by_cases hgt : g = hoN n w h c k ∧ t = s
        · obtain ⟨rfl, rfl⟩ := hgt
          rw [pk_us, if_pos ⟨rfl, by omega, by rw [q1]⟩, q1]
        · rw [pk_un (fun e => hgt (ixI ht hs e)), hA g t hg ht]
          by_cases hh : t = s ∧ g / n < k ∧ g = hoN n w h c (g / n)
          · rw [if_pos hh, if_pos ⟨hh.1, by omega, hh.2.2⟩]
          · rw [if_neg hh, if_neg (fun e => hh ⟨e.1, by
              rcases Nat.lt_or_ge (g / n) k with h9 | h9
              · exact h9
              · exact absurd ⟨by rw [show k = g / n by omega]; exact e.2.2, e.1⟩ hgt, e.2.2⟩)]
      · rw [show c * 3 + (k + 1) = c * 3 + k + 1 from rfl, nI_succ]; rfl
      · rfl
  repeat refine hP _ _ _ _ ?_
  refine And.intro (vp_in_nI hc (by omega)) ?_
  rw [ldv (f := cs.2 3) (hC c hc).1 (by omega)]
  repeat refine hP _ _ _ _ ?_
  refine And.intro (vp_in_nI hc (by omega)) ?_
  rw [upv (f := cs.2 3) (by omega), sh1 (show s < 10 by omega), nx_or]
  iterate 4 refine hP _ _ _ _ ?_
  refine x_p4 (P := P) (loop 0 (by omega) (cs.2 8) ?_) ?_ rfl ?_
  · intro g t hg ht
    rw [if_neg (fun e => absurd e.2.1 (Nat.not_lt_zero _))]
    exact hP9 g t hg ht
  · rw [oi3, pk_mul]; rfl
  · rfl
theorem nI_z {b : Nat} (hb : b < 2 ^ 31) : nI b = 0 ↔ b = 0 := by rw [z0, nI_eq hb (by omega)]
theorem c_isBroken (hG : gC cs n w h) (hC : cC cs n cb) (hP9 : pC cs n w h cb) (hT : brk cb n w h → Q (.inl (some (.int (bI true)))) (w_C n cs tl bb)) (hF : ¬ brk cb n w h → Q (.inl (some (.int (bI false)))) (w_C n cs tl bb)) : x_run sc x_MM x_EX (d + 1) k_X2_isBroken [.ref 2] (w_C n cs tl bb) Q := by
  obtain ⟨g1, g2, g3, g4, g5, g6, g7, g8⟩ := hG.1.le
  obtain ⟨b1, b2, b3, b4, b5, b6, b7⟩ := hG.1.b3
  refine x_in (M := m_X2_isBroken) rfl rfl (Nat.le_of_ble_eq_true rfl) ⟨rfl, trivial⟩ ?_
  intro P hP
  have lp2 : (∀ c, c < n * n → cb c ≠ 0) → ∀ i, i ≤ 3 * n * n → (∀ j, j < i → plB cb n w h (j / n) (j % n) n ≠ 0) → P 29 [some (.ref 2), some (.int (nI i))] [] (w_C n cs tl bb) := by
    intro hz1
    refine x_lp (3 * n * n) (fun i hi ih hz => ?_)
    repeat refine hP _ _ _ _ ?_
    refine b_ge (i) (3 * n * n) (fun hi9 => ?_) (fun hi9 => ?_) (rfl) (rfl) (by omega) (by omega)
    · repeat refine hP _ _ _ _ ?_
      refine And.intro rfl (hF (fun hb => ?_))
      rcases hb with ⟨c, hc, e⟩ | ⟨g, s, hg, hs, e⟩
      · exact hz1 c hc e
      · have hb := ixB hg hs
        have := hz (g * n + s) (by omega)
        rw [show (g * n + s) / n = g by rw [Nat.mul_comm, Nat.mul_add_div (by omega), Nat.div_eq_of_lt hs]; rfl, show (g * n + s) % n = s by rw [Nat.mul_comm, Nat.mul_add_mod, Nat.mod_eq_of_lt hs]] at this
        exact this e
    · have ih := ih hi9
      have hg : i / n < 3 * n := (Nat.div_lt_iff_lt_mul (by omega)).mpr hi9
      have hs : i % n < n := Nat.mod_lt _ (by omega)
      have hAi : cs.2 8 i = nI (plB cb n w h (i / n) (i % n) n) := by
        have := hP9 _ _ hg hs
        rw [Nat.mul_comm, Nat.div_add_mod] at this
        exact this
      have h512 := plB_9 cb w h (i / n) (i % n) g2
      repeat refine hP _ _ _ _ ?_
      refine And.intro (vp_in_nI hi9 (by omega)) ?_
      rw [ldv (f := cs.2 8) hAi (by omega)]
      repeat refine hP _ _ _ _ ?_
      refine And.intro (fun h9 => ?_) (fun h9 => ?_)
      · have h9 : ¬ nI (plB cb n w h (i / n) (i % n) n) = 0 := h9
        rw [nI_z (by omega)] at h9
        iterate 2 refine hP _ _ _ _ ?_
        refine x_p4 (P := P) (ih (all_lt hz h9)) ?_ rfl ?_ <;> try (first | rfl | (rw [nI_succ]; rfl))
      · have h9 : nI (plB cb n w h (i / n) (i % n) n) = 0 := Decidable.of_not_not h9
        rw [nI_z (by omega)] at h9
        repeat refine hP _ _ _ _ ?_
        exact And.intro rfl (hT (Or.inr ⟨_, _, hg, hs, h9⟩))
  have lp1 : ∀ c, c ≤ n * n → (∀ e, e < c → cb e ≠ 0) → P 2 [some (.ref 2), some (.int (nI c))] [] (w_C n cs tl bb) := by
    refine x_lp (n * n) (fun c hc ih hz => ?_)
    repeat refine hP _ _ _ _ ?_
    refine b_ge (c) (n * n) (fun hc9 => ?_) (fun hc9 => ?_) (rfl) (rfl) (by omega) (by omega)
    · iterate 2 refine hP _ _ _ _ ?_
      refine x_p4 (P := P) (lp2 (fun e he => hz e (by omega)) 0 (by omega) (fun j hj => absurd hj (Nat.not_lt_zero j))) ?_ rfl ?_ <;> try (first | rfl | (rw [nI_succ]; rfl))
    · have ih := ih hc9
      have h512 := hC.lt g2 hc9
      repeat refine hP _ _ _ _ ?_
      refine And.intro (vp_in_nI hc9 (by omega)) ?_
      rw [ldv (f := cs.2 3) (hC c hc9).1 (by omega)]
      repeat refine hP _ _ _ _ ?_
      refine And.intro (fun h9 => ?_) (fun h9 => ?_)
      · have h9 : ¬ nI (cb c) = 0 := h9
        rw [nI_z (by omega)] at h9
        iterate 2 refine hP _ _ _ _ ?_
        refine x_p4 (P := P) (ih (all_lt hz h9)) ?_ rfl ?_ <;> try (first | rfl | (rw [nI_succ]; rfl))
      · have h9 : nI (cb c) = 0 := Decidable.of_not_not h9
        rw [nI_z (by omega)] at h9
        repeat refine hP _ _ _ _ ?_
        exact And.intro rfl (hT (Or.inl ⟨c, hc9, h9⟩))
  iterate 2 refine hP _ _ _ _ ?_
  refine x_p4 (P := P) (lp1 0 (by omega) (fun j hj => absurd hj (Nat.not_lt_zero j))) ?_ rfl ?_ <;> try (first | rfl | (rw [nI_succ]; rfl))
theorem c_openCells (k : KD n w h) (hV : vC cs n vb) (hQ : Q (.inl (some (.int (nI (openN vb (n * n)))))) (w_C n cs tl bb)) : x_run sc x_MM x_EX (d + 2) k_X2_openCells [.ref 2] (w_C n cs tl bb) Q := by
  obtain ⟨g1, g2, g3, g4, g5, g6, g7, g8⟩ := k.le
  refine x_in (M := m_X2_openCells) rfl rfl (Nat.le_of_ble_eq_true rfl) ⟨rfl, trivial⟩ ?_
  intro P hP
  have lp1 : ∀ c, c ≤ n * n → P 4 [some (.ref 2), some (.int (nI (openN vb c))), some (.int (nI c))] [] (w_C n cs tl bb) := by
    refine x_lp (n * n) (fun c hc ih => ?_)
    repeat refine hP _ _ _ _ ?_
    refine b_ge (c) (n * n) (fun hc9 => ?_) (fun hc9 => ?_) (rfl) (rfl) (by omega) (by omega)
    · have e9 : c = n * n := by omega
      subst e9
      repeat refine hP _ _ _ _ ?_
      exact hQ
    · have ih := ih hc9
      repeat refine hP _ _ _ _ ?_
      refine c_isOpen k hV hc9 rfl ?_
      repeat refine hP _ _ _ _ ?_
      refine b_ifeq (fun ho => ?_) (fun ho => ?_) (rfl)
      · have eo : openN vb (c + 1) = openN vb c + 0 := by show openN vb c + _ = _; rw [if_neg (fun e => by rw [e] at ho; cases ho)]
        rw [eo, ← nI_add, nI_succ] at ih
        iterate 5 refine hP _ _ _ _ ?_
        refine x_p4 (P := P) (ih) ?_ rfl ?_ <;> try (first | rfl | (rw [nI_succ]; rfl))
      · have eo : openN vb (c + 1) = openN vb c + 1 := by show openN vb c + _ = _; rw [if_pos (Option.isNone_iff_eq_none.mp ho)]
        rw [eo, ← nI_add, nI_succ] at ih
        iterate 6 refine hP _ _ _ _ ?_
        refine x_p4 (P := P) (ih) ?_ rfl ?_ <;> try (first | rfl | (rw [nI_succ]; rfl))
  iterate 4 refine hP _ _ _ _ ?_
  refine x_p4 (P := P) (lp1 0 (by omega)) ?_ rfl ?_ <;> try (first | rfl | (rw [nI_succ]; rfl))
theorem c_openCandidates (k : KD n w h) (hC : cC cs n cb) (hV : vC cs n vb) (hQ : Q (.inl (some (.int (nI (canN cb vb (n * n)))))) (w_C n cs tl bb)) : x_run sc x_MM x_EX (d + 2) k_X2_openCandidates [.ref 2] (w_C n cs tl bb) Q := by
  obtain ⟨g1, g2, g3, g4, g5, g6, g7, g8⟩ := k.le
  refine x_in (M := m_X2_openCandidates) rfl rfl (Nat.le_of_ble_eq_true rfl) ⟨rfl, trivial⟩ ?_
  intro P hP
  have lp1 : ∀ c, c ≤ n * n → P 4 [some (.ref 2), some (.int (nI (canN cb vb c))), some (.int (nI c))] [] (w_C n cs tl bb) := by
    refine x_lp (n * n) (fun c hc ih => ?_)
    repeat refine hP _ _ _ _ ?_
    refine b_ge (c) (n * n) (fun hc9 => ?_) (fun hc9 => ?_) (rfl) (rfl) (by omega) (by omega)
    · have e9 : c = n * n := by omega
      subst e9
      repeat refine hP _ _ _ _ ?_
      exact hQ
    · have ih := ih hc9
      repeat refine hP _ _ _ _ ?_
      refine c_isOpen k hV hc9 rfl ?_
      repeat refine hP _ _ _ _ ?_
      refine b_ifeq (fun ho => ?_) (fun ho => ?_) (rfl)
      · have eo : canN cb vb (c + 1) = canN cb vb c + 0 := by show canN cb vb c + _ = _; rw [if_neg (fun e => by rw [e] at ho; cases ho)]
        rw [eo, ← nI_add, nI_succ] at ih
        iterate 5 refine hP _ _ _ _ ?_
        refine x_p4 (P := P) (ih) ?_ rfl ?_ <;> try (first | rfl | (rw [nI_succ]; rfl))
      · have eo : canN cb vb (c + 1) = canN cb vb c + pcN (cb c) := by show canN cb vb c + _ = _; rw [if_pos (Option.isNone_iff_eq_none.mp ho)]
        rw [eo, ← nI_add, nI_succ] at ih
        repeat refine hP _ _ _ _ ?_
        refine And.intro (vp_in_nI hc9 (by omega)) ?_
        rw [ldv (f := cs.2 3) (hC c hc9).1 (by omega)]
        repeat refine hP _ _ _ _ ?_
        refine c_bitCount (hC.lt g2 hc9) rfl ?_
        iterate 5 refine hP _ _ _ _ ?_
        refine x_p4 (P := P) (ih) ?_ rfl ?_ <;> try (first | rfl | (rw [nI_succ]; rfl))
  iterate 4 refine hP _ _ _ _ ?_
  refine x_p4 (P := P) (lp1 0 (by omega)) ?_ rfl ?_ <;> try (first | rfl | (rw [nI_succ]; rfl))
end CG2
