/-! ===== the class: joining what is linked ===== -/
theorem lk_bit {cb : Nat → Nat} {n w h s a b : Nat} (h9 : lkN cb n w h s a b = true) : (cb b).testBit s = true := by
  unfold lkN at h9
  rw [Bool.and_eq_true, Bool.and_eq_true, Bool.and_eq_true] at h9
  exact h9.1.1.2
theorem lk_irr (cb : Nat → Nat) (n w h s a : Nat) : lkN cb n w h s a a = false := by
  unfold lkN seeN
  simp
theorem rc_bit {cb : Nat → Nat} {n w h s N fr c : Nat} {x : Bool} (hb : (cb fr).testBit s = true) (hr : Rch (lkN cb n w h s) N fr c x) : (cb c).testBit s = true := hr.ind (S := fun c _ => (cb c).testBit s = true) hb (fun _ _ _ _ _ _ hl => lk_bit hl)
section KA
variable {sc : Nat × (Nat → Int32)} {cs : x_S} {tl : List x_C} {bb : Nat × Nat} {n w h d : Nat} {Q : x_O → x_H → Prop} {cb : Nat → Nat} {vb : Nat → Option Nat} {lf : Nat → Bool}
theorem c_join (hB : bC cs n w h cb vb) {s fr : Nat} (hs : s < n) (hfr : fr < n * n) (hbit : (cb fr).testBit s = true) (hK : mrC cs n (fun _ => false) (fun _ => false) lf) (hQ : ∀ cs' m J, frJ cs cs' → joC cs' n m J (rcB (lkN cb n w h s) (n * n) fr true) (rcB (lkN cb n w h s) (n * n) fr false) → mrC cs' n (rcB (lkN cb n w h s) (n * n) fr true) (rcB (lkN cb n w h s) (n * n) fr false) lf → Q (.inl none) (w_C n cs' tl bb)) : x_run sc x_MM x_EX (d + 3) k_X0_join [.ref 15, .ref 2, .int (nI s), .int (nI fr)] (w_C n cs tl bb) Q := by
  have hk := hB.1.1
  obtain ⟨g1, g2, g3, g4, g5, g6, g7, g8⟩ := hk.le
  generalize hlk : lkN cb n w h s = lk at hQ
  refine x_in (M := m_X0_join) rfl rfl (Nat.le_of_ble_eq_true rfl) ⟨rfl, rfl, rfl, rfl, trivial⟩ ?_
  intro P hP
  have loop : ∀ i, i ≤ 2 * (n * n) → ∀ (cs2 : x_S) (m : Nat) (J : Nat → Nat) (lt dk : Nat → Bool), frJ cs cs2 → joC cs2 n m J lt dk → mrC cs2 n lt dk lf → (∀ y c, xc lt dk y c = true → Rch lk (n * n) fr c y) → lt fr = true → (∀ j, j < i → ∀ b, b < n * n → lk (J j / 2) b = true → xc lt dk (!(J j % 2 == 0)) b = true) → i ≤ m → ∀ x5 x6 x7 x8, P 14 [some (.ref 15), some (.ref 2), some (.int (nI s)), some (.int (nI fr)), some (.int (nI i)), x5, x6, x7, x8] [] (w_C n cs2 tl bb) := by
    refine x_lp (2 * (n * n)) (fun i hi ih cs2 m J lt dk hf hJ hK2 hS hl hcl him x5 x6 x7 x8 => ?_)
    have hr1 := rcN_le lt (n * n)
    have hr2 := rcN_le dk (n * n)
    have hmm := hJ.2.1
    repeat refine hP _ _ _ _ ?_
    refine b_ge (i) (m) (fun hi9 => ?_) (fun hi9 => ?_) (rfl) (hJ.1) (by omega) (by omega)
    · have e9 : i = m := by omega
      subst e9
      have hdone := InvL.done (lk := lk) (N := n * n) (fr := fr) (lt := lt) (dk := dk) hfr ⟨fun c hc => hS true c hc, fun c hc => hS false c hc, hl⟩ (fun a b ha hb hab => by
        constructor
        · intro hla
          obtain ⟨j, hj, ej⟩ := hJ.2.2.2 a true ha hla
          have ej : J j = 2 * a + 0 := ej
          have := hcl j hj b hb (by rw [ej, show (2 * a + 0) / 2 = a by omega]; exact hab)
          rw [ej, show ((2 * a + 0) % 2 == 0) = true by simp] at this
          exact this
        · intro hda
          obtain ⟨j, hj, ej⟩ := hJ.2.2.2 a false ha hda
          have ej : J j = 2 * a + 1 := ej
          have := hcl j hj b hb (by rw [ej, show (2 * a + 1) / 2 = a by omega]; exact hab)
          rw [ej, show ((2 * a + 1) % 2 == 0) = false by simp] at this
          exact this)
      have e1 : lt = rcB lk (n * n) fr true := funext hdone.1
      have e2 : dk = rcB lk (n * n) fr false := funext hdone.2
      subst e1
      subst e2
      repeat refine hP _ _ _ _ ?_
      exact hQ cs2 i J hf hJ hK2
    · repeat refine hP _ _ _ _ ?_
      refine b_ge (i) (2 * (n * n)) (fun hi8 => ?_) (fun hi8 => ?_) (rfl) (rfl) (by omega) (by omega)
      · omega
      · have ih := ih hi8
        obtain ⟨p1, p2, p3⟩ := hJ.2.2.1 i hi9
        have hJl : J i < 2 ^ 31 := by omega
        have hRc := hS _ _ p3
        have hcb : (cb (J i / 2)).testBit s = true := by rw [← hlk] at hRc; exact rc_bit hbit hRc
        have hop : Int32.ofInt 1 - (nI (J i) &&& Int32.ofInt 1) = nI (cN (!(J i % 2 == 0))) := by
          rw [and_one, oi1]
          rcases Nat.mod_two_eq_zero_or_one (J i) with h0 | h0 <;> rw [h0] <;> decide
        repeat refine hP _ _ _ _ ?_
        refine And.intro (vp_in_nI hi8 (by omega)) ?_
        rw [ldv (f := cs2.2 17) p1 (by omega)]
        repeat refine hP _ _ _ _ ?_
        refine And.intro (vp_in_nI hi8 (by omega)) ?_
        rw [ldv (f := cs2.2 17) p1 (by omega), sh_half hJl]
        have inner : ∀ e, e ≤ 3 → ∀ (cs3 : x_S) (m3 : Nat) (J3 : Nat → Nat) (lt3 dk3 : Nat → Bool), frJ cs cs3 → joC cs3 n m3 J3 lt3 dk3 → mrC cs3 n lt3 dk3 lf → (∀ y c, xc lt3 dk3 y c = true → Rch lk (n * n) fr c y) → lt3 fr = true → (∀ j, j < i → ∀ b, b < n * n → lk (J3 j / 2) b = true → xc lt3 dk3 (!(J3 j % 2 == 0)) b = true) → m ≤ m3 → (∀ j, j < m → J3 j = J j) → (∀ e', e' < e → ∀ b, lnk cb n w h s (J i / 2) e' = some b → xc lt3 dk3 (!(J i % 2 == 0)) b = true) → ∀ x8, P 60 [some (.ref 15), some (.ref 2), some (.int (nI s)), some (.int (nI fr)), some (.int (nI i)), some (.int (nI (J i / 2))), some (.int (nI (cN (!(J i % 2 == 0))))), some (.int (nI e)), x8] [] (w_C n cs3 tl bb) := by
          refine x_lp 3 (fun e he ihe cs3 m3 J3 lt3 dk3 hf3 hJ3 hK3 hS3 hl3 hcl3 hm3 hJe hcle x8 => ?_)
          have hB3 := hf3.sc.b hB
          repeat refine hP _ _ _ _ ?_
          refine b_ge (e) (3) (fun he9 => ?_) (fun he9 => ?_) (rfl) (oi3) (by omega) (by omega)
          · have e9 : e = 3 := by omega
            subst e9
            iterate 2 refine hP _ _ _ _ ?_
            refine x_p4 (P := P) (ih cs3 m3 J3 lt3 dk3 hf3 hJ3 hK3 hS3 hl3 (all_lt hcl3 (fun b hb hab => by rw [hJe i hi9] at hab ⊢; rw [← hlk] at hab; obtain ⟨e', he', hl'⟩ := (lnk_t hk p2 hcb).mp ⟨hb, hab⟩; exact hcle e' he' b hl')) (by omega) (some (.int (nI (J i / 2)))) (some (.int (nI (cN (!(J i % 2 == 0)))))) (some (.int (nI 3))) x8) ?_ rfl ?_ <;> try (first | rfl | (rw [nI_succ]; rfl))
          · have ihe := ihe he9
            repeat refine hP _ _ _ _ ?_
            refine c_linkedCell hB3 hs p2 he9 rfl ?_
            repeat refine hP _ _ _ _ ?_
            cases hln : lnk cb n w h s (J i / 2) e with
            | none =>
              refine And.intro (fun _ => ?_) (fun h7 => absurd (show (-1 : Int32) = -1 from rfl) h7)
              iterate 2 refine hP _ _ _ _ ?_
              refine x_p4 (P := P) (ihe cs3 m3 J3 lt3 dk3 hf3 hJ3 hK3 hS3 hl3 hcl3 hm3 hJe (all_lt hcle (fun b hb => by rw [hln] at hb; cases hb)) (some (.int (-1)))) ?_ rfl ?_ <;> try (first | rfl | (rw [nI_succ]; rfl))
            | some b =>
              have hlb := (lnk_t hk p2 hcb).mpr ⟨e, he9, hln⟩
              rw [hlk] at hlb
              refine And.intro (fun h7 => absurd (show nI b = -1 from h7) (nI_m1 (by omega))) (fun _ => ?_)
              repeat refine hP _ _ _ _ ?_
              refine c_colour hk hJ3 hK3 (b := b) hlb.1 (x := !(J i % 2 == 0)) rfl rfl (fun cs4 m4 J4 hf4 hJ4 hK4 hm4 hJe4 => ?_)
              have hmono : ∀ y c, xc lt3 dk3 y c = true → xc (if (!(J i % 2 == 0)) then updB lt3 b true else lt3) (if (!(J i % 2 == 0)) then dk3 else updB dk3 b true) y c = true := fun y c hc => by
                rw [xc_s]
                split
                · rfl
                · exact hc
              iterate 2 refine hP _ _ _ _ ?_
              refine x_p4 (P := P) (ihe cs4 m4 J4 _ _ (hf3.tr hf4) hJ4 hK4 (fun y c hc => by rw [xc_s] at hc; split at hc; (rename_i hyc; rw [hyc.1, hyc.2]; exact hRc.step hlb.1 hlb.2); exact hS3 y c hc) (hmono true fr hl3) (fun j hj b' hb' hab => by rw [hJe4 j (by omega)] at hab ⊢; exact hmono _ _ (hcl3 j hj b' hb' hab)) (by omega) (fun j hj => (hJe4 j (by omega)).trans (hJe j hj)) (all_lt (fun e' he' b' hb' => hmono _ _ (hcle e' he' b' hb')) (fun b' hb' => by rw [hln] at hb'; cases hb'; rw [xc_s, if_pos ⟨rfl, rfl⟩])) (some (.int (nI b)))) ?_ rfl ?_ <;> try (first | rfl | (rw [nI_succ]; rfl))
        iterate 6 refine hP _ _ _ _ ?_
        refine x_p4 (P := P) (inner 0 (by omega) cs2 m J lt dk hf hJ hK2 hS hl hcl (Nat.le_refl _) (fun _ _ => rfl) (fun e' he' => absurd he' (Nat.not_lt_zero e')) x8) ?_ rfl ?_
        · rw [← hop]; rfl
        · rfl
  repeat refine hP _ _ _ _ ?_
  have hK0 : mrC (sF cs 5 0) n (fun _ => false) (fun _ => false) lf := hK
  have hz0 : ∀ k, rcN (fun _ => false) k = 0 := by
    intro k
    induction k with
    | zero => rfl
    | succ k ih => show rcN (fun _ => false) k + 0 = 0; rw [ih]
  have hJ0 : joC (sF cs 5 0) n 0 (fun _ => 0) (fun _ => false) (fun _ => false) := ⟨rfl, by rw [hz0], fun i hi => absurd hi (Nat.not_lt_zero i), fun c x hc hx => by cases x <;> cases hx⟩
  refine c_colour (cs := sF cs 5 0) hk hJ0 hK0 (b := fr) hfr (x := true) rfl rfl (fun cs4 m4 J4 hf4 hJ4 hK4 hm4 hJe4 => ?_)
  have hJ4 : joC cs4 n m4 J4 (updB (fun _ => false) fr true) (fun _ => false) := hJ4
  have hK4 : mrC cs4 n (updB (fun _ => false) fr true) (fun _ => false) lf := hK4
  have hf5 : frJ cs cs4 := ⟨fun k9 hk9 => (hf4.1 k9 hk9).trans (by show upd cs.1 5 0 k9 = _; rw [pk_un hk9]), fun p9 h1 h2 => hf4.2 p9 h1 h2⟩
  iterate 2 refine hP _ _ _ _ ?_
  refine x_p4 (P := P) (loop 0 (by omega) cs4 m4 J4 _ _ hf5 hJ4 hK4 (fun y c hc => by cases y; (cases hc); (have hc : updB (fun _ => false) fr true c = true := hc; by_cases e9 : c = fr; (rw [e9]; exact Rch.base); (rw [updB_n e9] at hc; cases hc))) updB_s (fun j hj => absurd hj (Nat.not_lt_zero j)) (Nat.zero_le _) none none none none) ?_ rfl ?_ <;> try (first | rfl | (rw [nI_succ]; rfl))
end KA
