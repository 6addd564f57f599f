/-! ===== the class: the finding ===== -/
def clC (cs : x_S) : x_S := sF (sF (sF (sF (sF cs 0 (-1)) 1 (-1)) 2 (-1)) 3 0) 4 0
/-- what goes, and how many -/
def oC (cs : x_S) (n : Nat) (go : Nat → Nat) : Prop := (∀ c, c < n * n → cs.2 10 c = nI (go c) ∧ go c < 512) ∧ cs.1 3 = nI (gcN go (n * n))
/-- the reason, by rising numbers -/
def rC (cs : x_S) (n : Nat) (rs : Nat → Bool) : Prop := cs.1 4 = nI (rcN rs (n * n)) ∧ ∀ j c, (rsL rs (n * n))[j]? = some c → cs.2 11 j = nI c
theorem oC_congr {cs : x_S} {n : Nat} {g1 g2 : Nat → Nat} (h : oC cs n g1) (e : ∀ c, c < n * n → g1 c = g2 c) : oC cs n g2 := by
  have hg : ∀ k, k ≤ n * n → gcN g1 k = gcN g2 k := by
    intro k
    induction k with
    | zero => exact fun _ => rfl
    | succ k ih =>
      intro hk
      show gcN g1 k + pcN (g1 k) = gcN g2 k + pcN (g2 k)
      rw [ih (by omega), e k (by omega)]
  exact ⟨fun c hc => by rw [← e c hc]; exact h.1 c hc, by rw [← hg (n * n) (Nat.le_refl _)]; exact h.2⟩
theorem rsL_congr {r1 r2 : Nat → Bool} {N : Nat} (e : ∀ c, c < N → r1 c = r2 c) : ∀ k, k ≤ N → rsL r1 k = rsL r2 k ∧ rcN r1 k = rcN r2 k
  | 0, _ => ⟨rfl, rfl⟩
  | k + 1, hk => by
    obtain ⟨h1, h2⟩ := rsL_congr e k (by omega)
    unfold rsL rcN
    rw [h1, h2, e k (by omega)]
    exact ⟨rfl, rfl⟩
theorem rC_congr {cs : x_S} {n : Nat} {r1 r2 : Nat → Bool} (h : rC cs n r1) (e : ∀ c, c < n * n → r1 c = r2 c) : rC cs n r2 := by
  obtain ⟨h1, h2⟩ := rsL_congr e (n * n) (Nat.le_refl _)
  unfold rC at h ⊢
  rw [← h1, ← h2]
  exact h
theorem pcA_or (a m : Nat) : ∀ k, pcA (a ||| m) k = pcA a k + pcA (clr m a) k
  | 0 => rfl
  | k + 1 => by
    have ih := pcA_or a m k
    have e : tbN (a ||| m) k = tbN a k + tbN (clr m a) k := by
      unfold tbN
      rw [clr_bit, Nat.testBit_or]
      cases a.testBit k <;> cases m.testBit k <;> rfl
    show pcA (a ||| m) k + tbN (a ||| m) k = pcA a k + tbN a k + (pcA (clr m a) k + tbN (clr m a) k)
    omega
theorem pcN_or (a m : Nat) : pcN (a ||| m) = pcN a + pcN (clr m a) := pcA_or a m 9
theorem gcN_upd {go : Nat → Nat} {c v : Nat} : ∀ {N}, c < N → gcN (fun e => if e = c then v else go e) N + pcN (go c) = gcN go N + pcN v
  | 0, h => absurd h (Nat.not_lt_zero c)
  | N + 1, h => by
    show gcN (fun e => if e = c then v else go e) N + pcN (if N = c then v else go N) + pcN (go c) = gcN go N + pcN (go N) + pcN v
    by_cases hc : N = c
    · subst hc
      rw [if_pos rfl]
      have : ∀ k, k ≤ N → gcN (fun e => if e = N then v else go e) k = gcN go k := by
        intro k
        induction k with
        | zero => exact fun _ => rfl
        | succ k ih =>
          intro hk
          show gcN (fun e => if e = N then v else go e) k + pcN (if k = N then v else go k) = gcN go k + pcN (go k)
          rw [ih (by omega), if_neg (by omega)]
      rw [this N (Nat.le_refl _)]
      omega
    · have ih := gcN_upd (go := go) (v := v) (show c < N by omega)
      rw [if_neg hc]
      omega
theorem rcN_mo {rs : Nat → Bool} {a : Nat} : ∀ {b}, a ≤ b → rcN rs a ≤ rcN rs b
  | 0, h => by rw [show a = 0 by omega]; exact Nat.le_refl _
  | b + 1, h => by
    by_cases hab : a = b + 1
    · subst hab; exact Nat.le_refl _
    · have := rcN_mo (rs := rs) (show a ≤ b by omega)
      show _ ≤ rcN rs b + _
      omega
theorem rcN_st {rs : Nat → Bool} {a b : Nat} (ha : rs a = true) (h : a < b) : rcN rs a + 1 ≤ rcN rs b := by
  have := rcN_mo (rs := rs) (show a + 1 ≤ b from h)
  have e : rcN rs (a + 1) = rcN rs a + 1 := by show rcN rs a + _ = _; rw [if_pos ha]
  omega
theorem rcN_lo {rs : Nat → Bool} {c : Nat} {v : Bool} : ∀ {y}, y ≤ c → rcN (updB rs c v) y = rcN rs y
  | 0, _ => rfl
  | y + 1, h => by
    show rcN (updB rs c v) y + _ = rcN rs y + _
    rw [rcN_lo (show y ≤ c by omega), updB_n (by omega)]
theorem rcN_hi {rs : Nat → Bool} {c : Nat} (hc : rs c = false) : ∀ {y}, c < y → rcN (updB rs c true) y = rcN rs y + 1
  | 0, h => absurd h (Nat.not_lt_zero c)
  | y + 1, h => by
    show rcN (updB rs c true) y + (if updB rs c true y then 1 else 0) = rcN rs y + (if rs y then 1 else 0) + 1
    by_cases hcy : y = c
    · subst hcy
      rw [rcN_lo (Nat.le_refl _), updB_s, hc]
      simp
    · rw [rcN_hi hc (show c < y by omega), updB_n hcy]
      omega
theorem rcN_all {rs : Nat → Bool} : ∀ {N}, rcN rs N = N → ∀ c, c < N → rs c = true
  | 0, _, c, hc => absurd hc (Nat.not_lt_zero c)
  | N + 1, h, c, hc => by
    have h : rcN rs N + (if rs N then 1 else 0) = N + 1 := h
    have := rcN_le rs N
    cases hN : rs N with
    | false => rw [hN] at h; simp at h; omega
    | true =>
      rw [hN] at h
      by_cases hcN : c = N
      · subst hcN; exact hN
      · exact rcN_all (N := N) (by simpa using h) c (by omega)
/-- all from place i up to len moved up by one -/
def shA (o : Nat → Int32) (i len : Nat) : Nat → Int32 := fun j => if i < j ∧ j ≤ len then o (j - 1) else o j
theorem shA_0 (o : Nat → Int32) (len : Nat) : shA o len len = o := by
  funext j
  unfold shA
  rw [if_neg (by omega)]
theorem shA_st {o : Nat → Int32} {m len : Nat} (h : m + 1 ≤ len) : shA o m len = upd (shA o (m + 1) len) (m + 1) (o m) := by
  funext j
  by_cases hj : j = m + 1
  · subst hj
    rw [pk_us]
    unfold shA
    rw [if_pos (by omega)]
    rfl
  · rw [pk_un hj]
    unfold shA
    by_cases h2 : m < j ∧ j ≤ len
    · rw [if_pos h2, if_pos (by omega)]
    · rw [if_neg h2, if_neg (by omega)]
/-- the lowest j bits off -/
def dl (b : Nat) : Nat → Nat
  | 0 => b
  | j + 1 => dl b j &&& (dl b j - 1)
theorem nth_ok : ∀ b, b < 512 → ∀ j, j < pcN b → b.testBit (lowN (dl b j)) = true ∧ pcA b (lowN (dl b j)) = j ∧ dl b j ≠ 0 ∧ dl b j < 512 := by decide +kernel
theorem glS_at {go : Nat → Nat} {n c s : Nat} (hs : s < n) (h : (go c).testBit s = true) : (glS go n c n)[pcA (go c) s]? = some (n * c + s) := by
  obtain ⟨t, ht⟩ := glS_pre go n c (show s + 1 ≤ n from hs)
  rw [ht]
  show (glS go n c s ++ (if (go c).testBit s then [n * c + s] else []) ++ t)[pcA (go c) s]? = some (n * c + s)
  rw [h, if_pos rfl, List.append_assoc, ← glS_len go n c s, List.getElem?_append_right (Nat.le_refl _)]
  simp
theorem pcA_hi {b n : Nat} (hb : b < 2 ^ n) : ∀ j, pcA b (n + j) = pcA b n
  | 0 => rfl
  | j + 1 => by
    have e : tbN b (n + j) = 0 := by
      unfold tbN
      rw [if_neg]
      intro h9
      have := tb_lt h9 hb
      omega
    show pcA b (n + j) + tbN b (n + j) = _
    rw [e, pcA_hi hb j]
    rfl
theorem gb_gc {go : Nat → Nat} {n N : Nat} (hn : n ≤ 9) (hg : ∀ c, c < N → go c < 2 ^ n) : ∀ k, k ≤ N → gbN go n k = gcN go k
  | 0, _ => rfl
  | k + 1, hk => by
    have e := pcA_hi (hg k (by omega)) (9 - n)
    rw [show n + (9 - n) = 9 by omega] at e
    show gbN go n k + pcA (go k) n = gcN go k + pcN (go k)
    rw [gb_gc hn hg k (by omega), ← e]
    rfl
section FN
variable {sc : Nat × (Nat → Int32)} {cs : x_S} {tl : List x_C} {bb : Nat × Nat} {n w h d : Nat} {Q : x_O → x_H → Prop} {go : Nat → Nat} {rs : Nat → Bool}
theorem c_clear (k : KD n w h) (hQ : ∀ g : Nat → Int32, (∀ c, c < n * n → g c = 0) → Q (.inl none) (w_C n (clC (sA cs 10 g)) tl bb)) : x_run sc x_MM x_EX (d + 1) k_X1_clear [.ref 9] (w_C n cs tl bb) Q := by
  obtain ⟨g1, g2, g3, g4, g5, g6, g7, g8⟩ := k.le
  refine x_in (M := m_X1_clear) rfl rfl (Nat.le_of_ble_eq_true rfl) ⟨rfl, trivial⟩ ?_
  intro P hP
  have loop : ∀ i, i ≤ n * n → P 2 [some (.ref 9), some (.int (nI i))] [] (w_C n (sA cs 10 (zr (cs.2 10) i)) tl bb) := by
    refine x_lp (n * n) (fun i hi ih => ?_)
    repeat refine hP _ _ _ _ ?_
    refine b_ge (i) (n * n) (fun hi9 => ?_) (fun hi9 => ?_) (rfl) (rfl) (by omega) (by omega)
    · repeat refine hP _ _ _ _ ?_
      refine hQ (zr (cs.2 10) i) (fun c hc => ?_)
      unfold zr
      rw [if_pos (by omega)]
    · have ih := ih hi9
      repeat refine hP _ _ _ _ ?_
      refine And.intro (vp_in_nI hi9 (by omega)) ?_
      rw [zr_st (v := Int32.ofInt 0) (by omega) rfl] at ih
      iterate 2 refine hP _ _ _ _ ?_
      refine x_p4 (P := P) (ih) ?_ rfl ?_ <;> try (first | rfl | (rw [nI_succ]; rfl))
  iterate 2 refine hP _ _ _ _ ?_
  refine x_p4 (P := P) (loop 0 (by omega)) ?_ rfl ?_
  · rfl
  · rw [zr_0]; rfl
theorem c_strike (hO : oC cs n go) (k : KD n w h) {c m : Nat} (hc : c < n * n) (hm : m < 512) {x y : Int32} (hx : x = nI c) (hy : y = nI m) (hQ : ∀ g v, oC (sF (sA cs 10 g) 3 v) n (fun e => if e = c then go c ||| m else go e) → Q (.inl none) (w_C n (sF (sA cs 10 g) 3 v) tl bb)) : x_run sc x_MM x_EX (d + 2) k_X1_strike [.ref 9, .int x, .int y] (w_C n cs tl bb) Q := by
  subst hx; subst hy
  obtain ⟨g1, g2, g3, g4, g5, g6, g7, g8⟩ := k.le
  have hoc := hO.1 c hc
  have hlt : clr m (go c) < 512 := Nat.lt_of_le_of_lt (clr_le _ _) hm
  refine x_in (M := m_X1_strike) rfl rfl (Nat.le_of_ble_eq_true rfl) ⟨rfl, rfl, rfl, trivial⟩ ?_
  intro P hP
  repeat refine hP _ _ _ _ ?_
  refine And.intro (vp_in_nI hc (by omega)) ?_
  rw [ldv (f := cs.2 10) hoc.1 (by omega)]
  repeat refine hP _ _ _ _ ?_
  refine c_bitCount hlt (by rw [oim, nx_not]) ?_
  repeat refine hP _ _ _ _ ?_
  refine And.intro (vp_in_nI hc (by omega)) ?_
  rw [ldv (f := cs.2 10) hoc.1 (by omega)]
  repeat refine hP _ _ _ _ ?_
  refine And.intro (vp_in_nI hc (by omega)) ?_
  rw [upv (f := cs.2 10) (by omega), nx_or]
  repeat refine hP _ _ _ _ ?_
  refine x_q2 (hQ (upd (cs.2 10) c (nI (go c ||| m))) (cs.1 3 + nI (pcN (clr m (go c)))) ⟨fun e he => ?_, ?_⟩) rfl
  · show upd (cs.2 10) c (nI (go c ||| m)) e = nI (if e = c then go c ||| m else go e) ∧ (if e = c then go c ||| m else go e) < 512
    by_cases hec : e = c
    · subst hec; rw [pk_us, if_pos rfl]; exact ⟨rfl, Nat.or_lt_two_pow (n := 9) hoc.2 hm⟩
    · rw [pk_un hec, if_neg hec]; exact hO.1 e he
  · show cs.1 3 + nI (pcN (clr m (go c))) = nI (gcN (fun e => if e = c then go c ||| m else go e) (n * n))
    have := gcN_upd (go := go) (v := go c ||| m) hc
    rw [pcN_or] at this
    rw [hO.2, nI_add]
    congr 1
    omega
theorem x_ld {R : Nat → Prop} (p : Nat) (h0 : R p) (hs : ∀ m, p ≤ m → R m → R (m + 1)) : ∀ k, p ≤ k → R k
  | 0, h => by rw [show (0 : Nat) = p by omega]; exact h0
  | k + 1, h => by
    by_cases hk : p = k + 1
    · rw [← hk]; exact h0
    · exact hs k (by omega) (x_ld p h0 hs k (by omega))
theorem c_because (k : KD n w h) (hR : rC cs n rs) {c : Nat} (hc : c < n * n) {x : Int32} (hx : x = nI c) (hQ : ∀ g v, rC (sF (sA cs 11 g) 4 v) n (updB rs c true) → Q (.inl none) (w_C n (sF (sA cs 11 g) 4 v) tl bb)) : x_run sc x_MM x_EX (d + 1) k_X1_because [.ref 9, .int x] (w_C n cs tl bb) Q := by
  subst hx
  obtain ⟨g1, g2, g3, g4, g5, g6, g7, g8⟩ := k.le
  obtain ⟨hl, hA⟩ := hR
  generalize hN : n * n = N at *
  have hlen : rcN rs N ≤ N := rcN_le rs N
  have hpl : rcN rs c ≤ rcN rs N := rcN_mo (by omega)
  have hLl : (rsL rs N).length = rcN rs N := rsL_len rs N
  have hget : ∀ j, j < rcN rs N → ∃ y, y < N ∧ rs y = true ∧ rcN rs y = j ∧ cs.2 11 j = nI y := by
    intro j hj
    have h1 := List.getElem?_eq_getElem (l := rsL rs N) (i := j) (by omega)
    obtain ⟨y1, y2, y3⟩ := rsL_idx h1
    exact ⟨_, y1, y2, y3, hA j _ h1⟩
  refine x_in (M := m_X1_because) rfl rfl (Nat.le_of_ble_eq_true rfl) ⟨rfl, rfl, trivial⟩ ?_
  intro P hP
  have same : rs c = true → P 57 [some (.ref 9), some (.int (nI c)), some (.int (nI (rcN rs c))), none] [] (w_C n cs tl bb) := by
    intro hrc
    repeat refine hP _ _ _ _ ?_
    refine x_q2 (hQ (cs.2 11) (cs.1 4) ?_) rfl
    rw [updB_same hrc]
    unfold rC
    rw [hN]
    exact ⟨hl, hA⟩
  have shift : rs c = false → rcN rs N < N → P 58 [some (.ref 9), some (.int (nI c)), some (.int (nI (rcN rs c))), none] [] (w_C n cs tl bb) := by
    intro hrc hlt
    have lp : ∀ i, rcN rs c ≤ i → i ≤ rcN rs N → P 63 [some (.ref 9), some (.int (nI c)), some (.int (nI (rcN rs c))), some (.int (nI i))] [] (w_C n (sA cs 11 (shA (cs.2 11) i (rcN rs N))) tl bb) := by
      refine x_ld (R := fun i => i ≤ rcN rs N → P 63 [some (.ref 9), some (.int (nI c)), some (.int (nI (rcN rs c))), some (.int (nI i))] [] (w_C n (sA cs 11 (shA (cs.2 11) i (rcN rs N))) tl bb)) (rcN rs c) (fun _ => ?_) (fun m hm ih hm2 => ?_)
      · skip
        repeat refine hP _ _ _ _ ?_
        refine b_le (rcN rs c) (rcN rs c) (fun h9 => ?_) (fun h9 => ?_) (rfl) (rfl) (by omega) (by omega)
        · repeat refine hP _ _ _ _ ?_
          refine And.intro (vp_in_nI (by omega) (by omega)) ?_
          rw [upv (f := (sA cs 11 (shA (cs.2 11) (rcN rs c) (rcN rs N))).2 11) (by omega)]
          repeat refine hP _ _ _ _ ?_
          refine x_q2 (hQ (upd (shA (cs.2 11) (rcN rs c) (rcN rs N)) (rcN rs c) (nI c)) (cs.1 4 + Int32.ofInt 1) ?_) rfl
          unfold rC
          rw [hN]
          refine ⟨?_, fun j y hy => ?_⟩
          · show cs.1 4 + Int32.ofInt 1 = nI (rcN (updB rs c true) N)
            rw [hl, rcN_hi hrc (by omega), oi1, nI_add]
          · show upd (shA (cs.2 11) (rcN rs c) (rcN rs N)) (rcN rs c) (nI c) j = nI y
            obtain ⟨y1, y2, y3⟩ := rsL_idx hy
            rcases Nat.lt_trichotomy y c with h7 | h7 | h7
            · rw [rcN_lo (by omega)] at y3
              rw [updB_n (by omega)] at y2
              have := rcN_st y2 h7
              rw [pk_un (by omega)]
              unfold shA
              rw [if_neg (by omega)]
              exact hA j y (by rw [← y3]; exact rsL_at y1 y2)
            · subst h7
              rw [rcN_lo (Nat.le_refl _)] at y3
              rw [← y3, pk_us]
            · rw [rcN_hi hrc h7] at y3
              rw [updB_n (by omega)] at y2
              have h8 := rcN_st y2 y1
              have h10 := rcN_mo (rs := rs) (show c ≤ y by omega)
              rw [pk_un (by omega)]
              unfold shA
              rw [if_pos (by omega), show j - 1 = rcN rs y by omega]
              exact hA _ y (rsL_at y1 y2)
        · omega
      · have ih := ih (by omega)
        repeat refine hP _ _ _ _ ?_
        refine b_le (m + 1) (rcN rs c) (fun h9 => ?_) (fun h9 => ?_) (rfl) (rfl) (by omega) (by omega)
        · omega
        · have e1 : nI (m + 1) - Int32.ofInt 1 = nI m := by rw [show Int32.ofInt 1 = 1 from rfl, nI_pred]
          repeat refine hP _ _ _ _ ?_
          refine And.intro (vpx e1 (by omega) (by omega)) ?_
          rw [ldx (f := (sA cs 11 (shA (cs.2 11) (m + 1) (rcN rs N))).2 11) (v := cs.2 11 m) (by show shA (cs.2 11) (m + 1) (rcN rs N) m = _; unfold shA; rw [if_neg (by omega)]) e1 (by omega)]
          repeat refine hP _ _ _ _ ?_
          refine And.intro (vp_in_nI (by omega) (by omega)) ?_
          rw [upv (f := (sA cs 11 (shA (cs.2 11) (m + 1) (rcN rs N))).2 11) (by omega)]
          rw [shA_st hm2] at ih
          iterate 2 refine hP _ _ _ _ ?_
          refine x_p4 (P := P) (ih) ?_ rfl ?_
          · rw [show nI (m + 1) + Int32.ofInt (-1) = nI m from pk_m1 m]; rfl
          · rfl
    iterate 3 refine hP _ _ _ _ ?_
    refine x_p4 (P := P) (lp (rcN rs N) hpl (Nat.le_refl _)) ?_ rfl ?_
    · rw [hl]; rfl
    · rw [shA_0]; rfl
  have aft : P 27 [some (.ref 9), some (.int (nI c)), some (.int (nI (rcN rs c))), none] [] (w_C n cs tl bb) := by
    repeat refine hP _ _ _ _ ?_
    refine b_eq (rcN rs N) (N) (fun h1 => ?_) (fun h1 => ?_) (hl) (congrArg nI hN) (by omega) (by omega)
    · exact same (rcN_all h1 c (by omega))
    · repeat refine hP _ _ _ _ ?_
      refine b_ge (rcN rs c) (rcN rs N) (fun h2 => ?_) (fun h2 => ?_) (rfl) (hl) (by omega) (by omega)
      · cases hrc : rs c with
        | false => exact shift hrc (by omega)
        | true => have := rcN_st hrc (show c < N by omega); omega
      · obtain ⟨y, y1, y2, y3, y4⟩ := hget (rcN rs c) h2
        repeat refine hP _ _ _ _ ?_
        refine And.intro (vp_in_nI (by omega) (by omega)) ?_
        rw [ldv (f := cs.2 11) y4 (by omega)]
        repeat refine hP _ _ _ _ ?_
        refine b_ne (y) (c) (fun h3 => ?_) (fun h3 => ?_) (rfl) (rfl) (by omega) (by omega)
        · cases hrc : rs c with
          | false => exact shift hrc (by omega)
          | true =>
            exfalso
            have := hA (rcN rs c) c (rsL_at (by omega) hrc)
            rw [y4, nI_eq (by omega) (by omega)] at this
            exact h3 this
        · subst h3
          exact same y2
  have lp0 : ∀ a, rcN rs c ≤ a → a ≤ rcN rs N → P 5 [some (.ref 9), some (.int (nI c)), some (.int (nI a)), none] [] (w_C n cs tl bb) := by
    refine x_ld (R := fun a => a ≤ rcN rs N → P 5 [some (.ref 9), some (.int (nI c)), some (.int (nI a)), none] [] (w_C n cs tl bb)) (rcN rs c) (fun _ => ?_) (fun m hm ih hm2 => ?_)
    · skip
      repeat refine hP _ _ _ _ ?_
      refine b_le0 (rcN rs c) rfl (by omega) (fun h0 => aft) (fun h0 => ?_)
      obtain ⟨m, hm⟩ : ∃ m, rcN rs c = m + 1 := ⟨rcN rs c - 1, by omega⟩
      have e1 : nI (rcN rs c) - Int32.ofInt 1 = nI m := by rw [hm, show Int32.ofInt 1 = 1 from rfl, nI_pred]
      obtain ⟨y, y1, y2, y3, y4⟩ := hget m (by omega)
      have hyc : y < c := Nat.lt_of_not_le fun h9 => by
        have := rcN_mo (rs := rs) h9
        omega
      repeat refine hP _ _ _ _ ?_
      refine And.intro (vpx e1 (by omega) (by omega)) ?_
      rw [ldx (f := cs.2 11) y4 e1 (by omega)]
      repeat refine hP _ _ _ _ ?_
      refine b_lt (y) (c) (fun h3 => ?_) (fun h3 => ?_) (rfl) (rfl) (by omega) (by omega)
      · exact aft
      · omega
    · have ih := ih (by omega)
      have e1 : nI (m + 1) - Int32.ofInt 1 = nI m := by rw [show Int32.ofInt 1 = 1 from rfl, nI_pred]
      obtain ⟨y, y1, y2, y3, y4⟩ := hget m (by omega)
      have hyc : c ≤ y := Nat.le_of_not_lt fun h9 => by
        have := rcN_st y2 h9
        omega
      repeat refine hP _ _ _ _ ?_
      refine b_le0 (m + 1) rfl (by omega) (fun h0 => absurd h0 (by omega)) (fun h0 => ?_)
      repeat refine hP _ _ _ _ ?_
      refine And.intro (vpx e1 (by omega) (by omega)) ?_
      rw [ldx (f := cs.2 11) y4 e1 (by omega)]
      repeat refine hP _ _ _ _ ?_
      refine b_lt (y) (c) (fun h3 => ?_) (fun h3 => ?_) (rfl) (rfl) (by omega) (by omega)
      · omega
      · iterate 2 refine hP _ _ _ _ ?_
        refine x_p4 (P := P) (ih) ?_ rfl ?_
        · rw [show nI (m + 1) + Int32.ofInt (-1) = nI m from pk_m1 m]; rfl
        · rfl
  iterate 3 refine hP _ _ _ _ ?_
  refine x_p4 (P := P) (lp0 (rcN rs N) hpl (Nat.le_refl _)) ?_ rfl ?_
  · rw [hl]; rfl
  · rfl
theorem c_nthBit {b j : Nat} {X : x_H} (hb : b < 512) (hj : j < pcN b) (hQ : Q (.inl (some (.int (nI (lowN (dl b j)))))) X) : x_run sc x_MM x_EX (d + 2) k_X1_nthBit [.int (nI b), .int (nI j)] X Q := by
  have hp9 := pcA_le b 9
  have hp9 : pcN b ≤ 9 := hp9
  refine x_in (M := m_X1_nthBit) rfl rfl (Nat.le_of_ble_eq_true rfl) ⟨rfl, rfl, trivial⟩ ?_
  intro P hP
  have loop : ∀ i, i ≤ j → P 4 [some (.int (nI b)), some (.int (nI j)), some (.int (nI (dl b i))), some (.int (nI i))] [] X := by
    refine x_lp j (fun i hi ih => ?_)
    have q := nth_ok b hb i (by omega)
    repeat refine hP _ _ _ _ ?_
    refine b_ge (i) (j) (fun hi9 => ?_) (fun hi9 => ?_) (rfl) (rfl) (by omega) (by omega)
    · have e9 : i = j := by omega
      subst e9
      repeat refine hP _ _ _ _ ?_
      refine c_leastBit q.2.2.2 q.2.2.1 rfl ?_
      repeat refine hP _ _ _ _ ?_
      exact hQ
    · have ih := ih hi9
      have e1 : nI (dl b i) &&& (nI (dl b i) - Int32.ofInt 1) = nI (dl b (i + 1)) := by
        show _ = nI (dl b i &&& (dl b i - 1))
        obtain ⟨m, hm⟩ : ∃ m, dl b i = m + 1 := ⟨dl b i - 1, by omega⟩
        rw [hm, show Int32.ofInt 1 = 1 from rfl, nI_pred, nx_and]
        rfl
      rw [← e1] at ih
      iterate 8 refine hP _ _ _ _ ?_
      refine x_p4 (P := P) (ih) ?_ rfl ?_ <;> try (first | rfl | (rw [nI_succ]; rfl))
  iterate 4 refine hP _ _ _ _ ?_
  refine x_p4 (P := P) (loop 0 (by omega)) ?_ rfl ?_ <;> try (first | rfl | (rw [nI_succ]; rfl))
theorem c_goer (k : KD n w h) (hO : oC cs n go) (hg2 : ∀ c, c < n * n → go c < 2 ^ n) {j : Nat} (hj : j < gcN go (n * n)) (hQ : ∀ y, (glC go n (n * n))[j]? = some y → Q (.inl (some (.int (nI y)))) (w_C n cs tl bb)) : x_run sc x_MM x_EX (d + 3) k_X1_goer [.ref 9, .int (nI j), .int (nI n)] (w_C n cs tl bb) Q := by
  obtain ⟨g1, g2, g3, g4, g5, g6, g7, g8⟩ := k.le
  have hjl := gcN_le go (n * n)
  refine x_in (M := m_X1_goer) rfl rfl (Nat.le_of_ble_eq_true rfl) ⟨rfl, rfl, rfl, trivial⟩ ?_
  intro P hP
  have loop : ∀ c, c ≤ n * n → gcN go c ≤ j → ∀ x5, P 5 [some (.ref 9), some (.int (nI j)), some (.int (nI n)), some (.int (nI (j - gcN go c))), some (.int (nI c)), x5] [] (w_C n cs tl bb) := by
    refine x_lp (n * n) (fun c hc ih hcj x5 => ?_)
    repeat refine hP _ _ _ _ ?_
    refine b_ge (c) (n * n) (fun hc9 => ?_) (fun hc9 => ?_) (rfl) (rfl) (by omega) (by omega)
    · have e9 : c = n * n := by omega
      subst e9
      omega
    · have ih := ih hc9
      have hoc := hO.1 c hc9
      have hp9 : pcN (go c) ≤ 9 := pcA_le _ 9
      have es : gcN go (c + 1) = gcN go c + pcN (go c) := rfl
      repeat refine hP _ _ _ _ ?_
      refine And.intro (vp_in_nI hc9 (by omega)) ?_
      rw [ldv (f := cs.2 10) hoc.1 (by omega)]
      repeat refine hP _ _ _ _ ?_
      refine c_bitCount hoc.2 rfl ?_
      repeat refine hP _ _ _ _ ?_
      refine b_ge (j - gcN go c) (pcN (go c)) (fun hl9 => ?_) (fun hl9 => ?_) (rfl) (rfl) (by omega) (by omega)
      · have ih := ih (by omega) (some (.int (nI (pcN (go c)))))
        rw [show j - gcN go (c + 1) = j - gcN go c - pcN (go c) by omega, ← pk_sub (by omega)] at ih
        iterate 6 refine hP _ _ _ _ ?_
        refine x_p4 (P := P) (ih) ?_ rfl ?_ <;> try (first | rfl | (rw [nI_succ]; rfl))
      · have q := nth_ok (go c) hoc.2 _ hl9
        have hsn := tb_lt q.1 (hg2 c hc9)
        repeat refine hP _ _ _ _ ?_
        refine And.intro (vp_in_nI hc9 (by omega)) ?_
        rw [ldv (f := cs.2 10) hoc.1 (by omega)]
        repeat refine hP _ _ _ _ ?_
        refine c_nthBit hoc.2 hl9 ?_
        repeat refine hP _ _ _ _ ?_
        refine x_q1 (hQ (n * c + lowN (dl (go c) (j - gcN go c))) ?_) (by rw [pk_mul, nI_add])
        obtain ⟨t, ht⟩ := glC_pre go n (show c + 1 ≤ n * n from hc9)
        have hlc : (glC go n c).length = gcN go c := by rw [glC_len, gb_gc g2 hg2 c (by omega)]
        have hat := glS_at hsn q.1
        rw [q.2.1] at hat
        rw [ht, show glC go n (c + 1) = glC go n c ++ glS go n c n from rfl, List.append_assoc, List.getElem?_append_right (by omega), hlc, List.getElem?_append_left (List.getElem?_eq_some_iff.mp hat).1]
        exact hat
  iterate 4 refine hP _ _ _ _ ?_
  refine x_p4 (P := P) (loop 0 (by omega) (Nat.zero_le _) none) ?_ rfl ?_ <;> try (first | rfl | (rw [nI_succ]; rfl))
end FN
