/-! ===== the class: the history, steps carried out and taken back ===== -/
theorem plB_congr {cb cb' : Nat → Nat} {n w h g s : Nat} (k : KD n w h) (hg : g < 3 * n) (e : ∀ c, c < n * n → cb c = cb' c) : plB cb n w h g s n = plB cb' n w h g s n := by
  apply Nat.eq_of_testBit_eq
  intro i
  rw [plB_bit, plB_bit]
  by_cases hi : i < n
  · rw [e _ (atN_lt k hg hi)]
  · rw [decide_eq_false hi]; rfl
theorem bC_congr {cs : x_S} {n w h : Nat} {cb cb' : Nat → Nat} {vb vb' : Nat → Option Nat} (hB : bC cs n w h cb vb) (e : ∀ c, c < n * n → cb c = cb' c) (e2 : ∀ c, c < n * n → vb c = vb' c) : bC cs n w h cb' vb' := by
  obtain ⟨h1, h2, h3, h4, h5⟩ := hB
  exact ⟨h1, fun c hc => by rw [← e c hc]; exact h2 c hc, fun c hc => by rw [← e2 c hc]; exact h3 c hc, fun g s hg hs => by rw [← plB_congr h1.1 hg e]; exact h4 g s hg hs, h5⟩
/-- what of go has gone up to cell c and symbol s -/
def gp (go : Nat → Nat) (c s : Nat) : Nat → Nat := fun e => if e < c then go e else if e = c then go c % 2 ^ s else 0
theorem gp_n {go : Nat → Nat} {c n : Nat} (h : go c < 2 ^ n) : gp go c n = gp go (c + 1) 0 := by
  funext e
  unfold gp
  by_cases h1 : e < c
  · rw [if_pos h1, if_pos (by omega)]
  · rw [if_neg h1]
    by_cases h2 : e = c
    · subst h2
      rw [if_pos rfl, if_pos (by omega), Nat.mod_eq_of_lt h]
    · rw [if_neg h2, if_neg (by omega)]
      split
      · rw [Nat.pow_zero, Nat.mod_one]
      · rfl
theorem gp_z {go : Nat → Nat} {c s : Nat} (h : go c = 0) : gp go c s = gp go (c + 1) 0 := by
  funext e
  unfold gp
  by_cases h1 : e < c
  · rw [if_pos h1, if_pos (by omega)]
  · rw [if_neg h1]
    by_cases h2 : e = c
    · subst h2
      rw [if_pos rfl, if_pos (by omega), h, Nat.zero_mod]
    · rw [if_neg h2, if_neg (by omega)]
      split
      · rw [Nat.pow_zero, Nat.mod_one]
      · rfl
theorem gp_no {go : Nat → Nat} {c s : Nat} (h : (go c).testBit s = false) : gp go c (s + 1) = gp go c s := by
  funext e
  unfold gp
  by_cases h1 : e < c
  · rw [if_pos h1, if_pos h1]
  · rw [if_neg h1, if_neg h1]
    by_cases h2 : e = c
    · rw [if_pos h2, if_pos h2]
      apply Nat.eq_of_testBit_eq
      intro t
      rw [Nat.testBit_mod_two_pow, Nat.testBit_mod_two_pow]
      by_cases hts : t = s
      · subst hts; rw [h, Bool.and_false, Bool.and_false]
      · rw [show decide (t < s + 1) = decide (t < s) by rw [decide_eq_decide]; omega]
    · rw [if_neg h2, if_neg h2]
theorem gp_yes {cb go : Nat → Nat} {c s : Nat} (h : (go c).testBit s = true) : updN (leftN cb (gp go c s)) c (clr (leftN cb (gp go c s) c) (2 ^ s)) = leftN cb (gp go c (s + 1)) := by
  funext e
  unfold updN
  by_cases h2 : e = c
  · subst h2
    rw [if_pos rfl]
    apply Nat.eq_of_testBit_eq
    intro t
    rw [clr_bit, leftN_bit, leftN_bit, Nat.testBit_two_pow]
    unfold gp
    rw [if_neg (Nat.lt_irrefl e), if_pos rfl, if_neg (Nat.lt_irrefl e), if_pos rfl, Nat.testBit_mod_two_pow, Nat.testBit_mod_two_pow]
    by_cases hts : t = s
    · subst hts
      rw [h, decide_eq_true rfl, decide_eq_true (Nat.lt_succ_self t)]
      simp
    · rw [show decide (t < s + 1) = decide (t < s) by rw [decide_eq_decide]; omega, decide_eq_false (p := s = t) (fun e9 => hts e9.symm)]
      simp
  · rw [if_neg h2]
    unfold leftN gp
    by_cases h1 : e < c
    · rw [if_pos h1, if_pos h1]
    · rw [if_neg h1, if_neg h2, if_neg h1, if_neg h2]
/-- a note: the cell, four bits for its symbol -/
def cdN (n y : Nat) : Nat := 16 * (y / n) + y % n
theorem cd_ok : ∀ c, c < 81 → ∀ s, s < 16 → (nI c <<< (Int32.ofInt 4 &&& 31)) ||| nI s = nI (16 * c + s) ∧ nI (16 * c + s) >>> (Int32.ofInt 4 &&& 31) = nI c ∧ nI (16 * c + s) &&& (Int8.ofInt 15).toInt32 = nI s := by decide +kernel
theorem cd_eq {n c s : Nat} (hs : s < n) : cdN n (n * c + s) = 16 * c + s := by
  unfold cdN
  rw [Nat.mul_add_div (by omega), Nat.div_eq_of_lt hs, Nat.mul_add_mod, Nat.mod_eq_of_lt hs]
  rfl
/-- the place of a candidate that goes -/
def rk (go : Nat → Nat) (n c s : Nat) : Nat := gbN go n c + pcA (go c) s
theorem glC_at {go : Nat → Nat} {n c s N : Nat} (hc : c < N) (hs : s < n) (h : (go c).testBit s = true) : (glC go n N)[rk go n c s]? = some (n * c + s) := by
  obtain ⟨t, ht⟩ := glC_pre go n (show c + 1 ≤ N from hc)
  have hat := glS_at (go := go) (c := c) hs h
  unfold rk
  rw [ht, show glC go n (c + 1) = glC go n c ++ glS go n c n from rfl, List.append_assoc, ← glC_len, List.getElem?_append_right (by omega), Nat.add_sub_cancel_left, List.getElem?_append_left (List.getElem?_eq_some_iff.mp hat).1]
  exact hat
theorem glS_idx {go : Nat → Nat} {n c j y : Nat} : ∀ {k : Nat}, (glS go n c k)[j]? = some y → ∃ s, s < k ∧ y = n * c + s ∧ (go c).testBit s = true ∧ pcA (go c) s = j
  | 0, h => by cases h
  | k + 1, h => by
    have h : (glS go n c k ++ (if (go c).testBit k then [n * c + k] else []))[j]? = some y := h
    by_cases hj : j < (glS go n c k).length
    · rw [List.getElem?_append_left hj] at h
      obtain ⟨s, h1, h2, h3, h4⟩ := glS_idx h
      exact ⟨s, by omega, h2, h3, h4⟩
    · rw [List.getElem?_append_right (by omega)] at h
      by_cases hr : (go c).testBit k = true
      · rw [if_pos hr] at h
        have h0 : j - (glS go n c k).length = 0 := by
          have := (List.getElem?_eq_some_iff.mp h).1
          simpa using this
        rw [h0] at h
        cases h
        rw [glS_len] at h0 hj
        exact ⟨k, by omega, rfl, hr, by omega⟩
      · rw [if_neg hr] at h; cases h
theorem glC_idx {go : Nat → Nat} {n j y : Nat} : ∀ {N : Nat}, (glC go n N)[j]? = some y → ∃ c s, c < N ∧ s < n ∧ y = n * c + s ∧ (go c).testBit s = true ∧ rk go n c s = j
  | 0, h => by cases h
  | N + 1, h => by
    have h : (glC go n N ++ glS go n N n)[j]? = some y := h
    by_cases hj : j < (glC go n N).length
    · rw [List.getElem?_append_left hj] at h
      obtain ⟨c, s, h1, h2, h3, h4, h5⟩ := glC_idx h
      exact ⟨c, s, by omega, h2, h3, h4, h5⟩
    · rw [List.getElem?_append_right (by omega)] at h
      obtain ⟨s, h1, h2, h3, h4⟩ := glS_idx h
      rw [glC_len] at hj h4
      exact ⟨N, s, by omega, h1, h2, h3, by unfold rk; omega⟩
def hsC (cs : x_S) (n : Nat) : List ((Nat → Nat) × (Nat → Option Nat) × Nat × rS) → Prop
  | [] => True
  | (cb, vb, k, r) :: t => cs.2 21 t.length = nI k ∧ cs.2 22 t.length = vI (r.1.map Prod.fst) ∧ cs.2 23 t.length = nI (szH n ((cb, vb, k, r) :: t)) ∧ (∀ j y, (glC r.2.1 n (n * n))[j]? = some y → cs.2 20 (szH n t + j) = nI (cdN n y)) ∧ hsC cs n t
/-- the arrays of the history as they were below what is there -/
theorem hsC_eq {cs cs' : x_S} {n D z : Nat} (h0 : ∀ j, j < z → cs'.2 20 j = cs.2 20 j) (h1 : ∀ j, j < D → cs'.2 21 j = cs.2 21 j) (h2 : ∀ j, j < D → cs'.2 22 j = cs.2 22 j) (h3 : ∀ j, j < D → cs'.2 23 j = cs.2 23 j) (hn : n ≤ 9) : ∀ hs, hs.length ≤ D → szH n hs ≤ z → (∀ a, a ∈ hs → ∀ c, c < n * n → a.2.2.2.2.1 c < 2 ^ n) → hsC cs n hs → hsC cs' n hs
  | [], _, _, _, _ => trivial
  | (cb, vb, k, r) :: t, hl, hz, hg, hh => by
    obtain ⟨a1, a2, a3, a4, a5⟩ := hh
    have hl : t.length + 1 ≤ D := hl
    have hz : szH n t + gcN r.2.1 (n * n) ≤ z := hz
    refine ⟨by rw [h1 _ (by omega)]; exact a1, by rw [h2 _ (by omega)]; exact a2, by rw [h3 _ (by omega)]; exact a3, fun j y hy => ?_, hsC_eq h0 h1 h2 h3 hn t (by omega) (by omega) (fun a ha => hg a (List.mem_cons_of_mem _ ha)) a5⟩
    have hjl := (List.getElem?_eq_some_iff.mp hy).1
    have hg0 : ∀ c, c < n * n → r.2.1 c < 2 ^ n := hg _ List.mem_cons_self
    rw [glC_len, gb_gc hn hg0 _ (Nat.le_refl _)] at hjl
    rw [h0 _ (by omega)]
    exact a4 j y hy
theorem chn_go {n w h : Nat} : ∀ (hs : List ((Nat → Nat) × (Nat → Option Nat) × Nat × rS)) {cb : Nat → Nat} {vb : Nat → Option Nat}, chn n w h cb vb hs → ∀ a, a ∈ hs → ∀ c, c < n * n → a.2.2.2.2.1 c < 2 ^ n
  | [], _, _, _, a, ha, _, _ => by cases ha
  | (cb0, vb0, k0, r) :: t, cb, vb, hc, a, ha, c, hcn => by
    obtain ⟨c1, c2, c3, c4, c5, c6, c7, c8⟩ := hc
    rcases List.mem_cons.mp ha with e | ha
    · subst e
      exact Nat.lt_of_le_of_lt (sub_le (c1.1 c)) (c3 c hcn)
    · exact chn_go t c8 a ha c hcn
theorem gl_put {A : Nat → Int32} {go : Nat → Nat} {n c s z N : Nat} (hn : n ≤ 9) (hgo : ∀ c, c < N → go c < 2 ^ n) (hc : c < N) (hs : s < n) (hgl : ∀ j y, (glC go n c ++ glS go n c s)[j]? = some y → A (z + j) = nI (cdN n y)) : ∀ j y, (glC go n c ++ (glS go n c s ++ [n * c + s]))[j]? = some y → upd A (z + gcN go c + pcA (go c) s) (nI (16 * c + s)) (z + j) = nI (cdN n y) := by
  intro j y hy
  rw [← List.append_assoc] at hy
  have hlen : (glC go n c ++ glS go n c s).length = gcN go c + pcA (go c) s := by rw [List.length_append, glC_len, glS_len, gb_gc hn hgo c (by omega)]
  generalize glC go n c ++ glS go n c s = L at *
  rcases Nat.lt_or_ge j L.length with h9 | h9
  · rw [List.getElem?_append_left h9] at hy
    rw [pk_un (by omega)]
    exact hgl j y hy
  · rw [List.getElem?_append_right h9] at hy
    have h10 := (List.getElem?_eq_some_iff.mp hy).1
    have h11 : j - L.length = 0 := by simpa using h10
    rw [h11] at hy
    cases hy
    rw [show z + j = z + gcN go c + pcA (go c) s by omega, pk_us, cd_eq hs]
section KE
variable {sc : Nat × (Nat → Int32)} {cs : x_S} {tl : List x_C} {bb : Nat × Nat} {n w h d : Nat} {Q : x_O → x_H → Prop} {cb : Nat → Nat} {vb : Nat → Option Nat}
theorem c_mostSteps (hQ : Q (.inl (some (.int (nI (n * n * n + n * n))))) (w_C n cs tl bb)) : x_run sc x_MM x_EX (d + 1) k_X3_mostSteps [.ref 19] (w_C n cs tl bb) Q := by
  refine x_in (M := m_X3_mostSteps) rfl rfl (Nat.le_of_ble_eq_true rfl) ⟨rfl, trivial⟩ ?_
  intro P hP
  repeat refine hP _ _ _ _ ?_
  exact hQ
theorem c_hclear (hQ : Q (.inl none) (w_C n (sF (sF cs 6 0) 7 0) tl bb)) : x_run sc x_MM x_EX (d + 1) k_X3_clear [.ref 19] (w_C n cs tl bb) Q := by
  refine x_in (M := m_X3_clear) rfl rfl (Nat.le_of_ble_eq_true rfl) ⟨rfl, trivial⟩ ?_
  intro P hP
  repeat refine hP _ _ _ _ ?_
  exact hQ
theorem c_note (k : KD n w h) {z c s : Nat} (hz : cs.1 6 = nI z) (hz9 : z < n * n * n) (hc : c < n * n) (hs : s < n) (hQ : Q (.inl none) (w_C n (sF (sA cs 20 (upd (cs.2 20) z (nI (16 * c + s)))) 6 (nI (z + 1))) tl bb)) : x_run sc x_MM x_EX (d + 1) k_X3_note [.ref 19, .int (nI c), .int (nI s)] (w_C n cs tl bb) Q := by
  obtain ⟨g1, g2, g3, g4, g5, g6, g7, g8⟩ := k.le
  obtain ⟨b1, b2, b3, b4, b5, b6, b7⟩ := k.b3
  have hcd := (cd_ok c (by omega) s (by omega)).1
  refine x_in (M := m_X3_note) rfl rfl (Nat.le_of_ble_eq_true rfl) ⟨rfl, rfl, rfl, trivial⟩ ?_
  intro P hP
  repeat refine hP _ _ _ _ ?_
  refine b_ge (z) (n * n * n) (fun h9 => ?_) (fun h9 => ?_) (hz) (rfl) (by omega) (by omega)
  · omega
  · repeat refine hP _ _ _ _ ?_
    refine And.intro (vpx hz hz9 (by omega)) ?_
    rw [upx (f := cs.2 20) hz (by omega), hcd]
    repeat refine hP _ _ _ _ ?_
    refine x_q2 hQ ?_
    rw [show nI (z + 1) = cs.1 6 + Int32.ofInt 1 by rw [hz, oi1, nI_add]]
    rfl
theorem c_close (k : KD n w h) {D z : Nat} {x y : Int32} (hD : cs.1 7 = nI D) (hD9 : D < n * n * n + n * n) (hQ : Q (.inl none) (w_C n (sF (sA (sA (sA cs 21 (upd (cs.2 21) D x)) 22 (upd (cs.2 22) D y)) 23 (upd (cs.2 23) D (cs.1 6))) 7 (nI (D + 1))) tl bb)) : x_run sc x_MM x_EX (d + 1) k_X3_close [.ref 19, .int x, .int y] (w_C n cs tl bb) Q := by
  obtain ⟨b1, b2, b3, b4, b5, b6, b7⟩ := k.b3
  refine x_in (M := m_X3_close) rfl rfl (Nat.le_of_ble_eq_true rfl) ⟨rfl, rfl, rfl, trivial⟩ ?_
  intro P hP
  repeat refine hP _ _ _ _ ?_
  refine b_ge (D) (n * n * n + n * n) (fun h9 => ?_) (fun h9 => ?_) (hD) (rfl) (by omega) (by omega)
  · omega
  · repeat refine hP _ _ _ _ ?_
    refine And.intro (vpx hD hD9 (by omega)) ?_
    rw [upx (f := cs.2 21) hD (by omega)]
    repeat refine hP _ _ _ _ ?_
    refine And.intro (vpx hD hD9 (by omega)) ?_
    rw [upx (f := cs.2 22) hD (by omega)]
    repeat refine hP _ _ _ _ ?_
    refine And.intro (vpx hD hD9 (by omega)) ?_
    rw [upx (f := cs.2 23) hD (by omega)]
    repeat refine hP _ _ _ _ ?_
    refine x_q2 hQ ?_
    rw [show nI (D + 1) = cs.1 7 + Int32.ofInt 1 by rw [hD, oi1, nI_add]]
    rfl
/-- what a step carried out leaves as it was -/
def frX (cs cs' : x_S) : Prop := (∀ k, k ≠ 6 → cs'.1 k = cs.1 k) ∧ ∀ p, p ≠ 3 → p ≠ 4 → p ≠ 8 → p ≠ 20 → cs'.2 p = cs.2 p
theorem frX.rf (cs : x_S) : frX cs cs := ⟨fun _ _ => rfl, fun _ _ _ _ _ => rfl⟩
theorem frX.tr {a b c : x_S} (h1 : frX a b) (h2 : frX b c) : frX a c := ⟨fun k x => (h2.1 k x).trans (h1.1 k x), fun p x y z u => (h2.2 p x y z u).trans (h1.2 p x y z u)⟩
theorem c_carryOut (hB : bC cs n w h cb vb) {r : rS} (hr : rsC cs n r) (hok : okR cb vb n w h r) {z : Nat} (hz : cs.1 6 = nI z) (hz9 : z + gcN r.2.1 (n * n) ≤ n * n * n) (hQ : ∀ cs', frX cs cs' → bC cs' n w h (leftN cb r.2.1) (setV vb r.1) → cs'.1 6 = nI (z + gcN r.2.1 (n * n)) → (∀ j, j < z → cs'.2 20 j = cs.2 20 j) → (∀ j y, (glC r.2.1 n (n * n))[j]? = some y → cs'.2 20 (z + j) = nI (cdN n y)) → Q (.inl none) (w_C n cs' tl bb)) : x_run sc x_MM x_EX (d + 2) k_X7_carryOut [.ref 0] (w_C n cs tl bb) Q := by
  obtain ⟨r1, go, rs⟩ := r
  have hk := hB.1.1
  obtain ⟨g1, g2, g3, g4, g5, g6, g7, g8⟩ := hk.le
  obtain ⟨b1, b2, b3, b4, b5, b6, b7⟩ := hk.b3
  have hsub : ∀ e t, (go e).testBit t = true → (cb e).testBit t = true := hok.1
  have hgo : ∀ c, c < n * n → go c < 2 ^ n := fun c hc => Nat.lt_of_le_of_lt (sub_le (hsub c)) (hB.2.1 c hc).2
  have hO : oC cs n go := hr.2.1
  have hz9 : z + gcN go (n * n) ≤ n * n * n := hz9
  refine x_in (M := m_X7_carryOut) rfl rfl (Nat.le_of_ble_eq_true rfl) ⟨rfl, trivial⟩ ?_
  intro P hP
  have loop : ∀ c, c ≤ n * n → ∀ cs2 : x_S, frX cs cs2 → bC cs2 n w h (leftN cb (gp go c 0)) vb → cs2.1 6 = nI (z + gcN go c) → (∀ j, j < z → cs2.2 20 j = cs.2 20 j) → (∀ j y, (glC go n c)[j]? = some y → cs2.2 20 (z + j) = nI (cdN n y)) → ∀ x2 x3, P 2 [some (.ref 0), some (.int (nI c)), x2, x3] [] (w_C n cs2 tl bb) := by
    refine x_lp (n * n) (fun c hc ih cs2 hf hB2 hz2 hlo hgl x2 x3 => ?_)
    repeat refine hP _ _ _ _ ?_
    refine b_ge (c) (n * n) (fun hc9 => ?_) (fun hc9 => ?_) (rfl) (rfl) (by omega) (by omega)
    · have e9 : c = n * n := by omega
      subst e9
      have hleft : ∀ e, e < n * n → leftN cb (gp go (n * n) 0) e = leftN cb go e := fun e he => by unfold leftN gp; rw [if_pos he]
      have fc : cs2.1 1 = cs.1 1 := hf.1 1 (by decide)
      have fs : cs2.1 2 = cs.1 2 := hf.1 2 (by decide)
      cases r1 with
      | none =>
        have h1 : cs.1 1 = -1 := hr.1.1
        repeat refine hP _ _ _ _ ?_
        refine And.intro (fun _ => ?_) (fun h9 => absurd (show cs2.1 1 < 0 by rw [fc, h1]; decide) h9)
        repeat refine hP _ _ _ _ ?_
        exact hQ cs2 hf (bC_congr hB2 hleft (fun _ _ => rfl)) hz2 hlo hgl
      | some cy =>
        obtain ⟨c0, y0⟩ := cy
        obtain ⟨h1, h2, h3, h4, h5, h6, h7, h8⟩ := hok
        have q1 : cs2.1 1 = nI c0 := fc.trans hr.1.1
        have q2 : cs2.1 2 = nI y0 := fs.trans hr.1.2
        repeat refine hP _ _ _ _ ?_
        refine And.intro (fun h9 => absurd (show cs2.1 1 < 0 from h9) (by rw [q1]; exact nI_pos (by omega))) (fun _ => ?_)
        repeat refine hP _ _ _ _ ?_
        refine And.intro (vpx q1 h4 (by omega)) ?_
        rw [upx (f := cs2.2 4) q1 (by omega)]
        repeat refine hP _ _ _ _ ?_
        refine x_q2 (hQ (sA cs2 4 (upd (cs2.2 4) c0 (cs2.1 2))) ⟨fun k9 hk9 => hf.1 k9 hk9, fun p9 p3 p4 p8 p20 => by show (if p9 = 4 then _ else cs2.2 p9) = _; rw [if_neg p4]; exact hf.2 p9 p3 p4 p8 p20⟩ ?_ hz2 hlo hgl) rfl
        obtain ⟨hG2, hC2, hV2, hP2, hE2⟩ := bC_congr hB2 hleft (fun _ _ => rfl)
        refine ⟨hG2, hC2, fun e he => ?_, hP2, hE2⟩
        show upd (cs2.2 4) c0 (cs2.1 2) e = vI (updO vb c0 (some y0) e) ∧ ∀ s, updO vb c0 (some y0) e = some s → s < n
        unfold updO
        by_cases hec : e = c0
        · subst hec
          rw [pk_us, if_pos rfl, q2]
          exact ⟨rfl, fun s e9 => by cases e9; exact h5⟩
        · rw [pk_un hec, if_neg hec]
          exact hV2 e he
    · have ih := ih hc9
      have hgc := hgo c hc9
      have hg9 : go c < 512 := Nat.lt_of_lt_of_le hgc (Nat.pow_le_pow_right (by omega) g2)
      have hmo := gcN_ge (go := go) hc9
      have hsum : gcN go (c + 1) ≤ gcN go (n * n) := by
        have : ∀ a b, a ≤ b → gcN go a ≤ gcN go b := by
          intro a b hab
          induction b with
          | zero => rw [show a = 0 by omega]; exact Nat.le_refl _
          | succ b ihb =>
            by_cases h9 : a = b + 1
            · rw [h9]; exact Nat.le_refl _
            · have := ihb (by omega); show _ ≤ gcN go b + _; omega
        exact this _ _ hc9
      have hsum : gcN go c + pcN (go c) ≤ gcN go (n * n) := hsum
      have hpn : ∀ s, pcA (go c) s ≤ pcN (go c) ∨ s ≤ n := fun s => by
        rcases Nat.lt_or_ge n s with h9 | h9
        · exact Or.inl (by have := pcA_hi hgc (s - n); rw [show n + (s - n) = s by omega] at this; have h2 := pcA_hi hgc (9 - n); rw [show n + (9 - n) = 9 by omega] at h2; unfold pcN; omega)
        · exact Or.inr h9
      have hpn2 : pcA (go c) n = pcN (go c) := by have h2 := pcA_hi hgc (9 - n); rw [show n + (9 - n) = 9 by omega] at h2; exact h2.symm
      have hmono : ∀ s, s ≤ n → pcA (go c) s ≤ pcN (go c) := by
        have : ∀ a b, a ≤ b → pcA (go c) a ≤ pcA (go c) b := by
          intro a b hab
          induction b with
          | zero => rw [show a = 0 by omega]; exact Nat.le_refl _
          | succ b ihb =>
            by_cases h9 : a = b + 1
            · rw [h9]; exact Nat.le_refl _
            · have := ihb (by omega); show _ ≤ pcA (go c) b + _; omega
        intro s hs
        rw [← hpn2]
        exact this s n hs
      have hg2 : cs2.2 10 c = nI (go c) := by rw [hf.2 10 (by decide) (by decide) (by decide) (by decide)]; exact (hO.1 c hc9).1
      repeat refine hP _ _ _ _ ?_
      refine And.intro (vp_in_nI hc9 (by omega)) ?_
      rw [ldv (f := cs2.2 10) hg2 (by omega)]
      have inner : ∀ s, s ≤ n → ∀ cs3 : x_S, frX cs cs3 → bC cs3 n w h (leftN cb (gp go c s)) vb → cs3.1 6 = nI (z + gcN go c + pcA (go c) s) → (∀ j, j < z → cs3.2 20 j = cs.2 20 j) → (∀ j y, (glC go n c ++ glS go n c s)[j]? = some y → cs3.2 20 (z + j) = nI (cdN n y)) → P 25 [some (.ref 0), some (.int (nI c)), some (.int (nI (go c))), some (.int (nI s))] [] (w_C n cs3 tl bb) := by
        refine x_lp n (fun s hs ihs cs3 hf3 hB3 hz3 hlo3 hgl3 => ?_)
        repeat refine hP _ _ _ _ ?_
        refine And.intro (fun h0 => ?_) (fun h0 => ?_)
        · have h0 : nI (go c) = 0 := h0
          rw [nI_z (by omega)] at h0
          have hp0 : ∀ s, pcA (go c) s = 0 := by
            intro s
            rw [h0]
            induction s with
            | zero => rfl
            | succ s ih => show pcA 0 s + tbN 0 s = 0; rw [ih]; unfold tbN; rw [Nat.zero_testBit]; rfl
          have hz9 : ∀ k, glS go n c k = [] := by
            intro k
            induction k with
            | zero => rfl
            | succ k ih => show glS go n c k ++ (if (go c).testBit k then [n * c + k] else []) = []; rw [ih, h0, Nat.zero_testBit]; rfl
          rw [gp_z h0] at hB3
          rw [hp0] at hz3
          rw [hz9] at hgl3
          iterate 2 refine hP _ _ _ _ ?_
          refine x_p4 (P := P) (ih cs3 hf3 hB3 (by rw [hz3]; show _ = nI (z + (gcN go c + pcN (go c))); unfold pcN; rw [hp0]; rfl) hlo3 (fun j y hy => hgl3 j y (by rw [show glC go n (c + 1) = glC go n c ++ glS go n c n from rfl, hz9] at hy; exact hy)) (some (.int (nI (go c)))) (some (.int (nI s)))) ?_ rfl ?_ <;> try (first | rfl | (rw [nI_succ]; rfl))
        · skip
          repeat refine hP _ _ _ _ ?_
          refine b_ge (s) (n) (fun hs9 => ?_) (fun hs9 => ?_) (rfl) (rfl) (by omega) (by omega)
          · have e9 : s = n := by omega
            subst e9
            rw [gp_n hgc] at hB3
            iterate 2 refine hP _ _ _ _ ?_
            refine x_p4 (P := P) (ih cs3 hf3 hB3 (by rw [hz3, hpn2]; show _ = nI (z + (gcN go c + pcN (go c))); rw [Nat.add_assoc]) hlo3 hgl3 (some (.int (nI (go c)))) (some (.int (nI s)))) ?_ rfl ?_ <;> try (first | rfl | (rw [nI_succ]; rfl))
          · have ihs := ihs hs9
            repeat refine hP _ _ _ _ ?_
            refine b_ifeq (fun hb => ?_) (fun hb => ?_) (bit1 hg9 (by omega))
            · have e1 : glS go n c (s + 1) = glS go n c s := by show glS go n c s ++ _ = _; rw [hb]; exact List.append_nil _
              have e2 : pcA (go c) (s + 1) = pcA (go c) s := by show pcA (go c) s + tbN (go c) s = _; unfold tbN; rw [hb]; rfl
              rw [gp_no hb, e1, e2] at ihs
              iterate 2 refine hP _ _ _ _ ?_
              refine x_p4 (P := P) (ihs cs3 hf3 hB3 hz3 hlo3 hgl3) ?_ rfl ?_ <;> try (first | rfl | (rw [nI_succ]; rfl))
            · have e1 : glS go n c (s + 1) = glS go n c s ++ [n * c + s] := by show glS go n c s ++ _ = _; rw [hb]; rfl
              have e2 : pcA (go c) (s + 1) = pcA (go c) s + 1 := by show pcA (go c) s + tbN (go c) s = _; unfold tbN; rw [hb]; rfl
              have hle := hmono (s + 1) (by omega)
              obtain ⟨hG3, hC3, hV3, hP3, hE3⟩ := hB3
              repeat refine hP _ _ _ _ ?_
              refine c_drop hG3 hC3 hP3 hc9 hs9 (fun g3 g8 hC4 hP4 => ?_)
              rw [gp_yes hb] at hC4 hP4
              repeat refine hP _ _ _ _ ?_
              have hz4 : (sA (sA cs3 3 g3) 8 g8).1 6 = nI (z + gcN go c + pcA (go c) s) := hz3
              refine c_note hk hz4 (by omega) hc9 hs9 ?_
              iterate 2 refine hP _ _ _ _ ?_
              refine x_p4 (P := P) (ihs (sF (sA (sA (sA cs3 3 g3) 8 g8) 20 (upd (cs3.2 20) (z + gcN go c + pcA (go c) s) (nI (16 * c + s)))) 6 (nI (z + gcN go c + pcA (go c) s + 1))) ⟨fun k9 hk9 => by show upd cs3.1 6 _ k9 = _; rw [pk_un hk9]; exact hf3.1 k9 hk9, fun p9 p3 p4 p8 p20 => by show (if p9 = 20 then _ else if p9 = 8 then _ else if p9 = 3 then _ else cs3.2 p9) = _; rw [if_neg p20, if_neg p8, if_neg p3]; exact hf3.2 p9 p3 p4 p8 p20⟩ ⟨hG3, hC4, hV3, hP4, hE3⟩ (by show nI (z + gcN go c + pcA (go c) s + 1) = _; rw [e2]; rfl) (fun j hj => by show upd (cs3.2 20) _ _ j = _; rw [pk_un (by omega)]; exact hlo3 j hj) (by rw [e1]; exact gl_put g2 hgo hc9 hs9 hgl3)) ?_ rfl ?_ <;> try (first | rfl | (rw [nI_succ]; rfl))
      iterate 3 refine hP _ _ _ _ ?_
      refine x_p4 (P := P) (inner 0 (by omega) cs2 hf hB2 hz2 hlo (fun j y hy => hgl j y (by rw [show glC go n c ++ glS go n c 0 = glC go n c from List.append_nil _] at hy; exact hy))) ?_ rfl ?_ <;> try (first | rfl | (rw [nI_succ]; rfl))
  iterate 2 refine hP _ _ _ _ ?_
  refine x_p4 (P := P) (loop 0 (by omega) cs (frX.rf cs) (bC_congr hB (fun c _ => by unfold leftN gp; rw [if_neg (Nat.not_lt_zero c)]; split; (rw [Nat.pow_zero, Nat.mod_one, clr_z]); (rw [clr_z])) (fun _ _ => rfl)) hz (fun _ _ => rfl) (fun j y hy => by cases hy) none none) ?_ rfl ?_ <;> try (first | rfl | (rw [nI_succ]; rfl))
end KE
