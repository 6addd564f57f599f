/-! ===== the class: a step taken back ===== -/
def frY (cs cs' : x_S) : Prop := (∀ k, k ≠ 6 → k ≠ 7 → cs'.1 k = cs.1 k) ∧ ∀ p, p ≠ 3 → p ≠ 4 → p ≠ 8 → cs'.2 p = cs.2 p
theorem pcA_st {b s u : Nat} (h : b.testBit s = true) : s < u → pcA b s + 1 ≤ pcA b u := by
  intro hsu
  induction u with
  | zero => omega
  | succ u ih =>
    show _ ≤ pcA b u + tbN b u
    by_cases hs : s = u
    · subst hs; unfold tbN; rw [if_pos h]; exact Nat.le_refl _
    · have := ih (by omega); omega
theorem tb_step {cb0 cbj go : Nat → Nat} {n c s j : Nat} (hgo : ∀ c, c < n * n → go c < 2 ^ n) (hc : c < n * n) (hs : s < n) (hbs : (go c).testBit s = true) (hrk : rk go n c s = j) (hb0 : (cb0 c).testBit s = true) (hbt : ∀ e, e < n * n → ∀ s, (cbj e).testBit s = ((cb0 e).testBit s && !((go e).testBit s && decide (rk go n e s < j + 1)))) : ∀ e, e < n * n → ∀ u, (updN cbj c (cbj c ||| 2 ^ s) e).testBit u = ((cb0 e).testBit u && !((go e).testBit u && decide (rk go n e u < j))) := by
  intro e he u
  unfold updN
  by_cases hec : e = c
  · subst hec
    rw [if_pos rfl, Nat.testBit_or, Nat.testBit_two_pow, hbt e he u]
    by_cases hus : s = u
    · subst hus
      rw [decide_eq_true rfl, hb0, hrk, decide_eq_false (Nat.lt_irrefl j), Bool.and_false]
      simp
    · rw [decide_eq_false hus, Bool.or_false]
      cases hgu : (go e).testBit u with
      | false => rfl
      | true =>
        have hne : rk go n e u ≠ j := by
          intro h9
          rcases Nat.lt_or_ge u s with h7 | h7
          · have := pcA_st hgu h7
            unfold rk at hrk h9
            omega
          · have := pcA_st hbs (show s < u by omega)
            unfold rk at hrk h9
            omega
        rw [show decide (rk go n e u < j + 1) = decide (rk go n e u < j) by rw [decide_eq_decide]; omega]
  · rw [if_neg hec, hbt e he u]
    cases hgu : (go e).testBit u with
    | false => rfl
    | true =>
      have hun := tb_lt hgu (hgo e he)
      have hne : rk go n e u ≠ j := by
        intro h9
        have x1 := glC_at (N := n * n) he hun hgu
        have x2 := glC_at (N := n * n) hc hs hbs
        rw [h9] at x1
        rw [hrk, x1] at x2
        have x3 : n * e + u = n * c + s := by injection x2
        rw [Nat.mul_comm n e, Nat.mul_comm n c] at x3
        exact hec (ixI hun hs x3).1
      rw [show decide (rk go n e u < j + 1) = decide (rk go n e u < j) by rw [decide_eq_decide]; omega]
section KF
variable {sc : Nat × (Nat → Int32)} {cs : x_S} {tl : List x_C} {bb : Nat × Nat} {n w h d : Nat} {Q : x_O → x_H → Prop}
theorem c_takeBack {cb0 : Nat → Nat} {vb0 : Nat → Option Nat} {k : Nat} {r : rS} {t : List ((Nat → Nat) × (Nat → Option Nat) × Nat × rS)} (hB : bC cs n w h (leftN cb0 r.2.1) (setV vb0 r.1)) (hok : okR cb0 vb0 n w h r) (hcb : cbB cb0 n) (hvb : vbB vb0 n) (hH : hsC cs n ((cb0, vb0, k, r) :: t)) (h7 : cs.1 7 = nI (t.length + 1)) (h6 : cs.1 6 = nI (szH n t + gcN r.2.1 (n * n))) (hl : t.length < n * n * n + n * n) (hz : szH n t + gcN r.2.1 (n * n) ≤ n * n * n) (hQ : ∀ cs', frY cs cs' → bC cs' n w h cb0 vb0 → cs'.1 6 = nI (szH n t) → cs'.1 7 = nI t.length → Q (.inl (some (.int (nI k)))) (w_C n cs' tl bb)) : x_run sc x_MM x_EX (d + 2) k_X3_takeBack [.ref 19, .ref 2] (w_C n cs tl bb) Q := by
  obtain ⟨r1, go, rs⟩ := r
  have hk := hB.1.1
  obtain ⟨g1, g2, g3, g4, g5, g6, g7, g8⟩ := hk.le
  obtain ⟨b1, b2, b3, b4, b5, b6, b7⟩ := hk.b3
  obtain ⟨a1, a2, a3, a4, a5⟩ := hH
  have hsub : ∀ e s, (go e).testBit s = true → (cb0 e).testBit s = true := hok.1
  have hgo : ∀ c, c < n * n → go c < 2 ^ n := fun c hc => Nat.lt_of_le_of_lt (sub_le (hsub c)) (hcb c hc)
  have h6 : cs.1 6 = nI (szH n t + gcN go (n * n)) := h6
  have hz : szH n t + gcN go (n * n) ≤ n * n * n := hz
  have hd : cs.1 7 - Int32.ofInt 1 = nI t.length := by rw [h7, show Int32.ofInt 1 = 1 from rfl, nI_pred]
  have hlen : (glC go n (n * n)).length = gcN go (n * n) := by rw [glC_len, gb_gc g2 hgo _ (Nat.le_refl _)]
  refine x_in (M := m_X3_takeBack) rfl rfl (Nat.le_of_ble_eq_true rfl) ⟨rfl, rfl, trivial⟩ ?_
  intro P hP
  have fin : ∀ (cs2 : x_S), frY cs cs2 → cs2.1 6 = nI (szH n t) → cs2.1 7 = nI t.length → bC cs2 n w h cb0 (setV vb0 r1) → P 81 [some (.ref 19), some (.ref 2), some (.int (nI (szH n t)))] [] (w_C n cs2 tl bb) := by
    intro cs2 hf e6 e7 hB2
    have q21 : cs2.2 21 t.length = nI k := by rw [hf.2 21 (by decide) (by decide) (by decide)]; exact a1
    have q22 : cs2.2 22 t.length = vI (r1.map Prod.fst) := by rw [hf.2 22 (by decide) (by decide) (by decide)]; exact a2
    have ret : ∀ (cs3 : x_S), frY cs cs3 → cs3.2 21 t.length = nI k → cs3.1 6 = nI (szH n t) → cs3.1 7 = nI t.length → bC cs3 n w h cb0 vb0 → P 108 [some (.ref 19), some (.ref 2), some (.int (nI (szH n t)))] [] (w_C n cs3 tl bb) := by
      intro cs3 hf3 p21 p6 p7 hB3
      repeat refine hP _ _ _ _ ?_
      refine And.intro (vpx p7 hl (by omega)) ?_
      rw [ldx (f := cs3.2 21) p21 p7 (by omega)]
      repeat refine hP _ _ _ _ ?_
      exact hQ cs3 hf3 hB3 p6 p7
    cases r1 with
    | none =>
      have q22 : cs2.2 22 t.length = -1 := q22
      repeat refine hP _ _ _ _ ?_
      refine And.intro (vpx e7 hl (by omega)) ?_
      rw [ldx (f := cs2.2 22) q22 e7 (by omega)]
      repeat refine hP _ _ _ _ ?_
      refine And.intro (fun _ => ret cs2 hf q21 e6 e7 hB2) (fun h9 => absurd (show (-1 : Int32) < 0 by decide) h9)
    | some cy =>
      obtain ⟨c0, y0⟩ := cy
      obtain ⟨h1, h2, h3, h4, h5, h6', h7', h8⟩ := hok
      have q22 : cs2.2 22 t.length = nI c0 := q22
      repeat refine hP _ _ _ _ ?_
      refine And.intro (vpx e7 hl (by omega)) ?_
      rw [ldx (f := cs2.2 22) q22 e7 (by omega)]
      repeat refine hP _ _ _ _ ?_
      refine And.intro (fun h9 => absurd (show nI c0 < 0 from h9) (nI_pos (by omega))) (fun _ => ?_)
      repeat refine hP _ _ _ _ ?_
      refine And.intro (vpx e7 hl (by omega)) ?_
      rw [ldx (f := cs2.2 22) q22 e7 (by omega)]
      repeat refine hP _ _ _ _ ?_
      refine And.intro (vp_in_nI h4 (by omega)) ?_
      rw [upv (f := cs2.2 4) (by omega)]
      obtain ⟨hG2, hC2, hV2, hP2, hE2⟩ := hB2
      refine x_p4 (P := P) (ret (sA cs2 4 (upd (cs2.2 4) c0 (Int32.ofInt (-1)))) ⟨fun k9 x y => hf.1 k9 x y, fun p9 p3 p4 p8 => by show (if p9 = 4 then _ else cs2.2 p9) = _; rw [if_neg p4]; exact hf.2 p9 p3 p4 p8⟩ q21 e6 e7 ⟨hG2, hC2, fun e he => by show upd (cs2.2 4) c0 (Int32.ofInt (-1)) e = vI (vb0 e) ∧ _; by_cases hec : e = c0; (subst hec; have h6' : vb0 e = none := h6'; rw [pk_us, h6']; exact ⟨rfl, fun s e9 => by cases e9⟩); (rw [pk_un hec]; have hv := hV2 e he; have hv : cs2.2 4 e = vI (updO vb0 c0 (some y0) e) ∧ ∀ s, updO vb0 c0 (some y0) e = some s → s < n := hv; unfold updO at hv; rw [if_neg hec] at hv; exact hv), hP2, hE2⟩) ?_ rfl ?_ <;> try (first | rfl | (rw [nI_succ]; rfl))
  have loop : ∀ j, 0 ≤ j → j ≤ gcN go (n * n) → ∀ (cs2 : x_S) (cbj : Nat → Nat), frY cs cs2 → cs2.1 6 = nI (szH n t + j) → cs2.1 7 = nI t.length → bC cs2 n w h cbj (setV vb0 r1) → (∀ e, e < n * n → ∀ s, (cbj e).testBit s = ((cb0 e).testBit s && !((go e).testBit s && decide (rk go n e s < j)))) → P 33 [some (.ref 19), some (.ref 2), some (.int (nI (szH n t)))] [] (w_C n cs2 tl bb) := by
    refine x_ld (R := fun j => j ≤ gcN go (n * n) → ∀ (cs2 : x_S) (cbj : Nat → Nat), frY cs cs2 → cs2.1 6 = nI (szH n t + j) → cs2.1 7 = nI t.length → bC cs2 n w h cbj (setV vb0 r1) → (∀ e, e < n * n → ∀ s, (cbj e).testBit s = ((cb0 e).testBit s && !((go e).testBit s && decide (rk go n e s < j)))) → P 33 [some (.ref 19), some (.ref 2), some (.int (nI (szH n t)))] [] (w_C n cs2 tl bb)) 0 (fun _ cs2 cbj hf e6 e7 hB2 hbt => ?_) (fun j _ ih hj cs2 cbj hf e6 e7 hB2 hbt => ?_)
    · have e6 : cs2.1 6 = nI (szH n t) := e6
      repeat refine hP _ _ _ _ ?_
      refine b_le (szH n t) (szH n t) (fun h9 => ?_) (fun h9 => ?_) (e6) (rfl) (by omega) (by omega)
      · refine fin cs2 hf e6 e7 (bC_congr hB2 (fun e he => ?_) (fun _ _ => rfl))
        apply Nat.eq_of_testBit_eq
        intro s
        rw [hbt e he s, decide_eq_false (Nat.not_lt_zero _), Bool.and_false]
        simp
      · omega
    · have ih := ih (by omega)
      have hyl : j < (glC go n (n * n)).length := by omega
      have hy := List.getElem?_eq_getElem hyl
      obtain ⟨c, s, hc, hs, ey, hbs, hrk⟩ := glC_idx hy
      have hgone : cs2.2 20 (szH n t + j) = nI (16 * c + s) := by
        rw [hf.2 20 (by decide) (by decide) (by decide), a4 j _ hy, ey, cd_eq hs]
      have hcd := cd_ok c (by omega) s (by omega)
      have e61 : cs2.1 6 - Int32.ofInt 1 = nI (szH n t + j) := by rw [e6, show szH n t + (j + 1) = szH n t + j + 1 from rfl, show Int32.ofInt 1 = 1 from rfl, nI_pred]
      repeat refine hP _ _ _ _ ?_
      refine b_le (szH n t + (j + 1)) (szH n t) (fun h9 => ?_) (fun h9 => ?_) (e6) (rfl) (by omega) (by omega)
      · omega
      · repeat refine hP _ _ _ _ ?_
        refine And.intro (vpx e61 (show szH n t + j < n * n * n by omega) (by omega)) ?_
        rw [ldx (f := cs2.2 20) hgone e61 (by omega)]
        repeat refine hP _ _ _ _ ?_
        refine And.intro (vpx e61 (show szH n t + j < n * n * n by omega) (by omega)) ?_
        rw [ldx (f := cs2.2 20) hgone e61 (by omega)]
        repeat refine hP _ _ _ _ ?_
        obtain ⟨hG2, hC2, hV2, hP2, hE2⟩ := hB2
        have hG3 : gC (sF cs2 6 (cs2.1 6 - Int32.ofInt 1)) n w h := hG2
        have hC3 : cC (sF cs2 6 (cs2.1 6 - Int32.ofInt 1)) n cbj := hC2
        have hP3 : pC (sF cs2 6 (cs2.1 6 - Int32.ofInt 1)) n w h cbj := hP2
        refine c_giveBack (cs := sF cs2 6 (cs2.1 6 - Int32.ofInt 1)) hG3 hC3 hP3 hc hs hcd.2.1 hcd.2.2 (fun q3 q8 hC4 hP4 => ?_)
        refine hP _ _ _ _ ?_
        refine x_p4 (P := P) (ih (sA (sA (sF cs2 6 (cs2.1 6 - Int32.ofInt 1)) 3 q3) 8 q8) (updN cbj c (cbj c ||| 2 ^ s)) ⟨fun k9 x y => by show upd cs2.1 6 _ k9 = _; rw [pk_un x]; exact hf.1 k9 x y, fun p9 p3 p4 p8 => by show (if p9 = 8 then _ else if p9 = 3 then _ else cs2.2 p9) = _; rw [if_neg p8, if_neg p3]; exact hf.2 p9 p3 p4 p8⟩ e61 e7 ⟨hG2, hC4, hV2, hP4, hE2⟩ (tb_step hgo hc hs hbs hrk (hsub c s hbs) hbt)) ?_ rfl ?_ <;> try (first | rfl | (rw [nI_succ]; rfl))
  repeat refine hP _ _ _ _ ?_
  have hf0 : frY cs (sF cs 7 (cs.1 7 - Int32.ofInt 1)) := ⟨fun k9 _ y => by show upd cs.1 7 _ k9 = _; rw [pk_un y], fun _ _ _ _ => rfl⟩
  have start : P 33 [some (.ref 19), some (.ref 2), some (.int (nI (szH n t)))] [] (w_C n (sF cs 7 (cs.1 7 - Int32.ofInt 1)) tl bb) := by
    refine loop (gcN go (n * n)) (Nat.zero_le _) (Nat.le_refl _) (sF cs 7 (cs.1 7 - Int32.ofInt 1)) (leftN cb0 go) hf0 h6 hd hB (fun e he s => ?_)
    rw [leftN_bit]
    cases hb : (go e).testBit s with
    | false => rfl
    | true =>
      have hs := tb_lt hb (hgo e he)
      have h9 := (List.getElem?_eq_some_iff.mp (glC_at he hs hb)).1
      rw [hlen] at h9
      rw [decide_eq_true h9]
      rfl
  refine b_le0 t.length hd (by omega) (fun h0 => ?_) (fun h0 => ?_)
  · have ht : t = [] := List.length_eq_zero_iff.mp h0
    subst ht
    iterate 2 refine hP _ _ _ _ ?_
    refine x_p4 (P := P) (start) ?_ rfl ?_ <;> try (first | rfl | (rw [nI_succ]; rfl))
  · cases t with
    | nil => exact absurd rfl h0
    | cons a t2 =>
      obtain ⟨cb2, vb2, k2, r2⟩ := a
      have hd2 : cs.1 7 - Int32.ofInt 1 - Int32.ofInt 1 = nI t2.length := by rw [hd]; show nI (t2.length + 1) - _ = _; rw [show Int32.ofInt 1 = 1 from rfl, nI_pred]
      have hl2 : t2.length + 1 < n * n * n + n * n := hl
      have q23 : cs.2 23 t2.length = nI (szH n ((cb2, vb2, k2, r2) :: t2)) := a5.2.2.1
      repeat refine hP _ _ _ _ ?_
      refine And.intro (vpx hd2 (show t2.length < n * n * n + n * n by omega) (by omega)) ?_
      rw [ldx (f := cs.2 23) q23 hd2 (by omega)]
      iterate 2 refine hP _ _ _ _ ?_
      refine x_p4 (P := P) (start) ?_ rfl ?_ <;> try (first | rfl | (rw [nI_succ]; rfl))
end KF
