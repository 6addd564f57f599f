/-! ===== the model: crosses, pointing, claiming ===== -/
theorem anyG_t {go : Nat → Nat} : anyG go = true ↔ ∃ c, c < 81 ∧ go c ≠ 0 := by
  unfold anyG
  simp only [List.any_eq_true, List.mem_range, bne_iff_ne, ne_eq]
section S4
variable {sc : Nat × (Nat → Int32)} {f : Nat → x_C} {ms : x_S} {tl : List x_C} {bb : Nat × Nat} {n w h d : Nat} {Q : x_O → x_H → Prop} {cb : Nat → Nat} {vb : Nat → Option Nat}
/-- takes() over what goes -/
theorem r_takesN {go : Nat → Nat} (hO : oM ms go) (hQ : Q (.inl (some (.int (bI (anyG go))))) (w_M f ms tl bb)) : x_run sc x_MM x_EX (d + 1) k_X8_takes [.ref 26] (w_M f ms tl bb) Q := by
  refine r_takes (fun hx => ?_) (fun hx => ?_)
  · obtain ⟨c, hc, hne⟩ := hx
    have h1 : anyG go = true := anyG_t.mpr ⟨c, hc, fun e => hne (by rw [(hO c hc).1, e]; rfl)⟩
    rw [h1] at hQ
    exact hQ
  · have h1 : anyG go = false := by
      cases h2 : anyG go with
      | false => rfl
      | true =>
        obtain ⟨c, hc, hne⟩ := anyG_t.mp h2
        have h3 := hx c hc
        rw [(hO c hc).1, z0, nI_eq (by have := (hO c hc).2; omega) (by omega)] at h3
        exact absurd h3 hne
    rw [h1] at hQ
    exact hQ
/-- leaves() over what goes: bits as a number -/
theorem r_leavesN {go : Nat → Nat} (hC : cM ms n cb) (hn : n ≤ 9) (hO : oM ms go) {c m : Nat} (hc : c < n * n) (hc9 : c < 81) {x : Int32} (hx : x = nI m) (hQ : ∀ g : Nat → Int32, oM (sA ms 32 g) (fun e => if e = c then go c ||| (cb c &&& m) else go e) → Q (.inl none) (w_M f (sA ms 32 g) tl bb)) : x_run sc x_MM x_EX (d + 1) k_X8_leaves [.ref 26, .int (nI c), .int x] (w_M f ms tl bb) Q := by
  subst hx
  refine r_leaves hc9 (hQ _ ?_)
  intro e he
  show upd (ms.2 32) c (ms.2 32 c ||| (ms.2 27 c &&& nI m)) e = _ ∧ _
  by_cases hec : e = c
  · subst hec
    rw [pk_us, (hO e he).1, (hC e hc).1, nx_and, nx_or]
    simp only [if_true]
    refine ⟨trivial, Nat.or_lt_two_pow (n := 9) (hO e he).2 (Nat.lt_of_le_of_lt Nat.and_le_left (Nat.lt_of_lt_of_le (hC e hc).2 (Nat.pow_le_pow_right (by omega) hn)))⟩
  · rw [pk_un hec]
    simp only [hec, if_false]
    exact hO e he
theorem oM_congr {ms : x_S} {g1 g2 : Nat → Nat} (h : oM ms g1) (e : ∀ c, c < 81 → g1 c = g2 c) : oM ms g2 := fun c hc => by rw [← e c hc]; exact h c hc
theorem r_crosses (hG : gM ms n w h) (hC : cM ms n cb) {g q s : Nat} (hg : g < 3 * n) (hq : q < 3 * n) (hs : s < n) (hT : ∀ ms' r, scr ms ms' → crE cb n w h g q s = some r → resM ms' n r → Q (.inl (some (.int (bI true)))) (w_M f ms' tl bb)) (hF : ∀ ms', scr ms ms' → crE cb n w h g q s = none → Q (.inl (some (.int (bI false)))) (w_M f ms' tl bb)) : x_run sc x_MM x_EX (d + 3) k_X8_crosses [.ref 26, .int (nI g), .int (nI q), .int (nI s)] (w_M f ms tl bb) Q := by
  obtain ⟨g1, g2, g3, g4, g5, g6, g7, g8⟩ := hG.2.2.2.le
  have hsh : Int32.ofInt 1 <<< (nI s &&& 31) = nI (2 ^ s) := by
    rw [oi1, nI_shl (by omega), Nat.one_mul]
    have : 2 ^ s ≤ 2 ^ 9 := Nat.pow_le_pow_right (by omega) (by omega)
    omega
  refine x_in (M := m_X8_crosses) rfl rfl (Nat.le_of_ble_eq_true rfl) ⟨rfl, rfl, rfl, rfl, trivial⟩ ?_
  intro P hP
  have loop : ∀ j k (m2 : x_S), k + j = n → scr ms m2 → m2.1 11 = -1 → m2.1 12 = -1 → oM m2 (crG cb n w h g q s k) → rM m2 (crR cb n w h g s k) → P 7 [some (.ref 26), some (.int (nI g)), some (.int (nI q)), some (.int (nI s)), some (.int (nI k))] [] (w_M f m2 tl bb) := by
    intro j
    induction j with
    | zero =>
      intro k m2 hk hm h11 h12 hO hR
      have hk : k = n := hk
      subst hk
      have hG2 := hm.g hG
      iterate 3 refine hP _ _ _ _ ?_
      refine hP _ _ _ _ (And.intro (fun _ => ?_) (fun h => absurd (show m2.1 1 ≤ nI k by rw [hG2.1]; exact nI_le (Nat.le_refl _) (by omega)) h))
      refine hP _ _ _ _ ?_
      refine hP _ _ _ _ (r_takesN hO ?_)
      refine hP _ _ _ _ (And.intro (bI_nar _) ?_)
      cases ha : anyG (crG cb k w h g q s k) with
      | true => exact hT m2 (none, crG cb k w h g q s k, crR cb k w h g s k) hm (by unfold crE; rw [ha]; rfl) ⟨⟨h11, h12⟩, hO, hR⟩
      | false => exact hF m2 hm (by unfold crE; rw [ha]; rfl)
    | succ j ih =>
      intro k m2 hk hm h11 h12 hO hR
      have hG2 := hm.g hG
      have hC2 := hm.c hC
      have hat := atN_lt (w := w) (h := h) hG.2.2.2 hq (show k < n by omega)
      have hat2 := atN_lt (w := w) (h := h) hG.2.2.2 hg (show k < n by omega)
      have h29 : cb (atN n w h g k) < 512 := Nat.lt_of_lt_of_le (hC _ hat2).2 (Nat.pow_le_pow_right (by omega) g2)
      have next : ∀ m3 : x_S, scr ms m3 → m3.1 11 = -1 → m3.1 12 = -1 → oM m3 (crG cb n w h g q s (k + 1)) → rM m3 (crR cb n w h g s k) → P 45 [some (.ref 26), some (.int (nI g)), some (.int (nI q)), some (.int (nI s)), some (.int (nI k))] [] (w_M f m3 tl bb) := by
        intro m3 hm3 t11 t12 tO tR
        have hG3 := hm3.g hG
        have hC3 := hm3.c hC
        iterate 4 refine hP _ _ _ _ ?_
        refine hP _ _ _ _ (r_at hG3 hg (by omega) ?_)
        refine hP _ _ _ _ ?_
        refine hP _ _ _ _ (r_has (b := cb (atN n w h g k)) (by omega) (by omega) (hC3 _ hat2).1 h29 ?_)
        refine hP _ _ _ _ (And.intro (fun hb => ?_) (fun hb => ?_))
        · have hb : (cb (atN n w h g k)).testBit s = false := bI_t.mp hb
          refine hP _ _ _ _ ?_
          refine hP _ _ _ _ (x_p4 (P := P) (ih (k + 1) m3 (by omega) hm3 t11 t12 tO ?_) ?_ rfl rfl)
          · intro e he
            rw [tR e he]
            congr 1
            unfold crR
            rw [any_s]
            by_cases hea : atN n w h g k = e
            · subst hea
              rw [hb, Bool.and_false, Bool.and_false]
            · rw [beq_eq_false_iff_ne.mpr hea, Bool.or_false]
          · rw [nI_succ]; rfl
        · have hb : (cb (atN n w h g k)).testBit s = true := bI_n0 hb
          have hcl : (nI (atN n w h g k)).toNatClampNeg = atN n w h g k := nI_clamp (by omega)
          iterate 5 refine hP _ _ _ _ ?_
          refine hP _ _ _ _ (r_at hG3 hg (by omega) ?_)
          refine hP _ _ _ _ ?_
          refine hP _ _ _ _ (And.intro (vp_in_nI (by omega) (by omega)) ?_)
          refine hP _ _ _ _ ?_
          refine hP _ _ _ _ (x_p4 (P := P) (ih (k + 1) (sA m3 31 (upd (m3.2 31) (nI (atN n w h g k)).toNatClampNeg (vp_nar .boolean (Int32.ofInt 1)))) (by omega) (hm3.tr (scr.a (Or.inl rfl))) t11 t12 tO ?_) ?_ rfl rfl)
          · intro e he
            show upd (m3.2 31) (nI (atN n w h g k)).toNatClampNeg (vp_nar .boolean (Int32.ofInt 1)) e = _
            rw [hcl]
            by_cases hea : e = atN n w h g k
            · subst hea
              rw [pk_us]
              unfold crR
              rw [any_s]
              simp [hb]
              rfl
            · rw [pk_un hea, tR e he]
              congr 1
              unfold crR
              rw [any_s]
              have : (atN n w h g k == e) = false := by simp; exact fun h => hea h.symm
              rw [this, Bool.or_false]
          · rw [nI_succ]; rfl
      iterate 3 refine hP _ _ _ _ ?_
      refine hP _ _ _ _ (And.intro (fun h => absurd (show m2.1 1 ≤ nI k from h) (by rw [hG2.1]; exact nI_ge (by omega) (by omega))) (fun _ => ?_))
      iterate 5 refine hP _ _ _ _ ?_
      refine hP _ _ _ _ (r_at hG2 hq (by omega) ?_)
      refine hP _ _ _ _ (r_isIn hG2 hg hat ?_)
      refine hP _ _ _ _ (And.intro (fun hb => ?_) (fun hb => ?_))
      · have hb : inN n w h g (atN n w h q k) = true := bI_n0 hb
        refine next m2 hm h11 h12 (oM_congr hO ?_) hR
        intro e he
        unfold crG
        rw [any_s]
        by_cases hea : atN n w h q k = e
        · subst hea
          simp [hb]
        · simp [hea]
      · have hb : inN n w h g (atN n w h q k) = false := bI_t.mp (Decidable.of_not_not hb)
        iterate 4 refine hP _ _ _ _ ?_
        refine hP _ _ _ _ (r_at hG2 hq (by omega) ?_)
        iterate 3 refine hP _ _ _ _ ?_
        refine hP _ _ _ _ (r_leavesN hC2 g2 hO hat (by omega) hsh (fun gg hgg => ?_))
        refine next (sA m2 32 gg) (hm.tr (scr.a (Or.inr (Or.inl rfl)))) h11 h12 (oM_congr hgg ?_) hR
        intro e he
        by_cases hea : e = atN n w h q k
        · subst hea
          simp only [if_true]
          unfold crG
          rw [any_s]
          simp only [hb, Bool.not_false, Bool.and_true, beq_self_eq_true, Bool.or_true, if_true]
          split
          · rw [Nat.or_self]
          · rw [Nat.zero_or]
        · simp only [hea, if_false]
          unfold crG
          rw [any_s]
          have : (atN n w h q k == e) = false := by simp; exact fun h => hea h.symm
          rw [this, Bool.or_false]
  refine hP _ _ _ _ ?_
  refine hP _ _ _ _ (r_none ?_)
  refine hP _ _ _ _ ?_
  refine hP _ _ _ _ (loop n 0 (noneM ms) (by omega) (noneM_scr ms) (noneM_cl ms).1 (noneM_cl ms).2.1 ?_ ?_)
  · intro e he
    rw [((noneM_cl ms).2.2 e he).2]
    exact ⟨rfl, by unfold crG; simp⟩
  · intro e he
    rw [((noneM_cl ms).2.2 e he).1]
    rfl
theorem r_pointing (hG : gM ms n w h) (hC : cM ms n cb) (hT : ∀ ms' r, scr ms ms' → poS cb n w h = some r → resM ms' n r → Q (.inl (some (.int (bI true)))) (w_M f ms' tl bb)) (hF : ∀ ms', scr ms ms' → poS cb n w h = none → Q (.inl (some (.int (bI false)))) (w_M f ms' tl bb)) : x_run sc x_MM x_EX (d + 4) k_X8_pointing [.ref 26] (w_M f ms tl bb) Q := by
  obtain ⟨g1, g2, g3, g4, g5, g6, g7, g8⟩ := hG.2.2.2.le
  refine x_in (M := m_X8_pointing) rfl rfl (Nat.le_of_ble_eq_true rfl) ⟨rfl, trivial⟩ ?_
  intro P hP
  have loop : ∀ j g (m2 : x_S), g + j = 3 * n → 2 * n ≤ g → scr ms m2 → poS cb n w h = ff (fun g => ff (poE cb n w h g) n 0) j g → ∀ x2 x3 : Option Value, P 7 [some (.ref 26), some (.int (nI g)), x2, x3] [] (w_M f m2 tl bb) := by
    intro j
    induction j with
    | zero =>
      intro g m2 hg hg2 hm hf x2 x3
      have hg : g = 3 * n := hg
      have hG2 := hm.g hG
      iterate 5 refine hP _ _ _ _ ?_
      refine hP _ _ _ _ (And.intro (fun _ => ?_) (fun h => absurd (show Int32.ofInt 3 * m2.1 1 ≤ nI g by rw [oi3, hG2.1, pk_mul]; exact nI_le (by omega) (by omega)) h))
      refine hP _ _ _ _ ?_
      exact hP _ _ _ _ (And.intro rfl (hF m2 hm hf))
    | succ j ih =>
      intro g m2 hg hg2 hm hf x2 x3
      have hg9 : g < 3 * n := by omega
      have hG2 := hm.g hG
      iterate 5 refine hP _ _ _ _ ?_
      refine hP _ _ _ _ (And.intro (fun h => absurd (show Int32.ofInt 3 * m2.1 1 ≤ nI g from h) (by rw [oi3, hG2.1, pk_mul]; exact nI_ge (by omega) (by omega))) (fun _ => ?_))
      have loop2 : ∀ i s (m3 : x_S), s + i = n → scr ms m3 → ff (poE cb n w h g) n 0 = ff (poE cb n w h g) i s → ∀ x3 : Option Value, P 19 [some (.ref 26), some (.int (nI g)), some (.int (nI s)), x3] [] (w_M f m3 tl bb) := by
        intro i
        induction i with
        | zero =>
          intro s m3 hs hm3 hfs x3
          have hs : s = n := hs
          subst hs
          have hG3 := hm3.g hG
          iterate 3 refine hP _ _ _ _ ?_
          refine hP _ _ _ _ (And.intro (fun _ => ?_) (fun h => absurd (show m3.1 1 ≤ nI s by rw [hG3.1]; exact nI_le (Nat.le_refl _) (by omega)) h))
          refine hP _ _ _ _ ?_
          refine hP _ _ _ _ (x_p4 (P := P) (ih (g + 1) m3 (by omega) (by omega) hm3 (hf.trans (ff_n hfs)) (some (.int (nI s))) x3) ?_ rfl rfl)
          rw [nI_succ]; rfl
        | succ i ih2 =>
          intro s m3 hs hm3 hfs x3
          have hs9 : s < n := by omega
          have hG3 := hm3.g hG
          have hC3 := hm3.c hC
          have hpl := plB_lt cb n w h g s n
          have h29 : plB cb n w h g s n < 512 := Nat.lt_of_lt_of_le hpl (Nat.pow_le_pow_right (by omega) g2)
          have hpc : pcN (plB cb n w h g s n) ≤ 9 := pcA_le _ _
          have go : ∀ m4 : x_S, scr ms m4 → poE cb n w h g s = none → ∀ x3 : Option Value, P 83 [some (.ref 26), some (.int (nI g)), some (.int (nI s)), x3] [] (w_M f m4 tl bb) := by
            intro m4 hm4 he x3
            refine hP _ _ _ _ ?_
            refine hP _ _ _ _ (x_p4 (P := P) (ih2 (s + 1) m4 (by omega) hm4 (hfs.trans (ff_n he)) x3) ?_ rfl rfl)
            rw [nI_succ]; rfl
          iterate 3 refine hP _ _ _ _ ?_
          refine hP _ _ _ _ (And.intro (fun h => absurd (show m3.1 1 ≤ nI s from h) (by rw [hG3.1]; exact nI_ge (by omega) (by omega))) (fun _ => ?_))
          iterate 3 refine hP _ _ _ _ ?_
          refine hP _ _ _ _ (r_places hG3 hC3 hg9 hs9 ?_)
          refine hP _ _ _ _ (r_countOf h29 ?_)
          refine hP _ _ _ _ ?_
          refine hP _ _ _ _ (And.intro (fun hq => ?_) (fun hq => ?_))
          · have hq : nI 2 ≤ nI (pcN (plB cb n w h g s n)) := hq
            rw [nI_leI (by omega) (by omega)] at hq
            have fin : ∀ (o : Option Nat), comP cb n w h g s = o → (∀ q, o = some q → q < 3 * n) → ∀ (x : Int32), x = vI o → P 66 [some (.ref 26), some (.int (nI g)), some (.int (nI s)), x3] [.int x] (w_M f m3 tl bb) ∧ ∀ x4, P 66 [some (.ref 26), some (.int (nI g)), some (.int (nI s)), x4] [.int x] (w_M f m3 tl bb) := by
              intro o ho hlt x hx
              subst hx
              have key : ∀ x4 : Option Value, P 66 [some (.ref 26), some (.int (nI g)), some (.int (nI s)), x4] [.int (vI o)] (w_M f m3 tl bb) := by
                intro x4
                iterate 2 refine hP _ _ _ _ ?_
                cases o with
                | none =>
                  refine hP _ _ _ _ (And.intro (fun _ => ?_) (fun h => absurd (show (-1 : Int32) < 0 by decide) h))
                  exact go m3 hm3 (by unfold poE; rw [if_neg (by omega), ho]) _
                | some q =>
                  have hq3 := hlt q rfl
                  refine hP _ _ _ _ (And.intro (fun h => absurd h (nI_pos (by omega))) (fun _ => ?_))
                  iterate 4 refine hP _ _ _ _ ?_
                  refine hP _ _ _ _ (r_crosses hG3 hC3 hg9 hq3 hs9 (fun m4 r hs4 hr hres => ?_) (fun m4 hs4 hr => ?_))
                  · refine hP _ _ _ _ (And.intro (fun h => absurd (show bI true = 0 from h) (by decide)) (fun _ => ?_))
                    refine hP _ _ _ _ ?_
                    refine hP _ _ _ _ (And.intro rfl (hT m4 r (hm3.tr hs4) ?_ hres))
                    exact hf.trans (ff_s (hfs.trans (ff_s (by unfold poE; rw [if_neg (by omega), ho]; exact hr))))
                  · refine hP _ _ _ _ (And.intro (fun _ => ?_) (fun h => absurd (show bI false = 0 by decide) h))
                    exact go m4 (hm3.tr hs4) (by unfold poE; rw [if_neg (by omega), ho]; exact hr) _
              exact ⟨key x3, key⟩
            iterate 4 refine hP _ _ _ _ ?_
            refine hP _ _ _ _ (r_common hG3 hC3 hg9 hs9 (kd := 0) (by omega) (fun q hq0 => ?_) (fun hq0 => ?_))
            · have hlt := comS_lt hq0
              iterate 2 refine hP _ _ _ _ ?_
              refine hP _ _ _ _ (And.intro (fun _ => ?_) (fun h => absurd (nI_pos' (by omega)) h))
              refine hP _ _ _ _ ?_
              exact (fin (some q) (by unfold comP; rw [hq0]) (fun q9 h9 => by cases h9; omega) _ rfl).2 _
            · iterate 2 refine hP _ _ _ _ ?_
              refine hP _ _ _ _ (And.intro (fun h => absurd (show (0 : Int32) ≤ -1 from h) (by decide)) (fun _ => ?_))
              iterate 4 refine hP _ _ _ _ ?_
              refine hP _ _ _ _ (r_common hG3 hC3 hg9 hs9 (kd := 1) (by omega) (fun q hq1 => ?_) (fun hq1 => ?_))
              · have hlt := comS_lt hq1
                refine hP _ _ _ _ ?_
                exact (fin (some q) (by unfold comP; rw [hq0]; exact hq1) (fun q9 h9 => by cases h9; omega) _ rfl).2 _
              · refine hP _ _ _ _ ?_
                exact (fin none (by unfold comP; rw [hq0]; exact hq1) (fun q9 h9 => by cases h9) _ rfl).2 _
          · have hq : ¬ nI 2 ≤ nI (pcN (plB cb n w h g s n)) := hq
            rw [nI_leI (by omega) (by omega)] at hq
            refine hP _ _ _ _ ?_
            exact go m3 hm3 (by unfold poE; rw [if_pos (by omega)]) x3
      iterate 2 refine hP _ _ _ _ ?_
      exact loop2 n 0 m2 (by omega) hm rfl x3
  iterate 4 refine hP _ _ _ _ ?_
  refine hP _ _ _ _ (x_p4 (P := P) (loop n (2 * n) ms (by omega) (Nat.le_refl _) (scr.rf ms) rfl none none) ?_ rfl rfl)
  rw [show nI (2 * n) = Int32.ofInt 2 * ms.1 1 by rw [oi2, hG.1, pk_mul]]
  rfl
theorem r_claiming (hG : gM ms n w h) (hC : cM ms n cb) (hT : ∀ ms' r, scr ms ms' → claS cb n w h = some r → resM ms' n r → Q (.inl (some (.int (bI true)))) (w_M f ms' tl bb)) (hF : ∀ ms', scr ms ms' → claS cb n w h = none → Q (.inl (some (.int (bI false)))) (w_M f ms' tl bb)) : x_run sc x_MM x_EX (d + 4) k_X8_claiming [.ref 26] (w_M f ms tl bb) Q := by
  obtain ⟨g1, g2, g3, g4, g5, g6, g7, g8⟩ := hG.2.2.2.le
  refine x_in (M := m_X8_claiming) rfl rfl (Nat.le_of_ble_eq_true rfl) ⟨rfl, trivial⟩ ?_
  intro P hP
  have loop : ∀ j g (m2 : x_S), g + j = 2 * n → scr ms m2 → claS cb n w h = ff (fun g => ff (claE cb n w h g) n 0) j g → ∀ x2 x3 : Option Value, P 2 [some (.ref 26), some (.int (nI g)), x2, x3] [] (w_M f m2 tl bb) := by
    intro j
    induction j with
    | zero =>
      intro g m2 hg hm hf x2 x3
      have hg : g = 2 * n := hg
      have hG2 := hm.g hG
      iterate 5 refine hP _ _ _ _ ?_
      refine hP _ _ _ _ (And.intro (fun _ => ?_) (fun h => absurd (show Int32.ofInt 2 * m2.1 1 ≤ nI g by rw [oi2, hG2.1, pk_mul]; exact nI_le (by omega) (by omega)) h))
      refine hP _ _ _ _ ?_
      exact hP _ _ _ _ (And.intro rfl (hF m2 hm hf))
    | succ j ih =>
      intro g m2 hg hm hf x2 x3
      have hg9 : g < 3 * n := by omega
      have hG2 := hm.g hG
      iterate 5 refine hP _ _ _ _ ?_
      refine hP _ _ _ _ (And.intro (fun h => absurd (show Int32.ofInt 2 * m2.1 1 ≤ nI g from h) (by rw [oi2, hG2.1, pk_mul]; exact nI_ge (by omega) (by omega))) (fun _ => ?_))
      have loop2 : ∀ i s (m3 : x_S), s + i = n → scr ms m3 → ff (claE cb n w h g) n 0 = ff (claE cb n w h g) i s → ∀ x3 : Option Value, P 14 [some (.ref 26), some (.int (nI g)), some (.int (nI s)), x3] [] (w_M f m3 tl bb) := by
        intro i
        induction i with
        | zero =>
          intro s m3 hs hm3 hfs x3
          have hs : s = n := hs
          subst hs
          have hG3 := hm3.g hG
          iterate 3 refine hP _ _ _ _ ?_
          refine hP _ _ _ _ (And.intro (fun _ => ?_) (fun h => absurd (show m3.1 1 ≤ nI s by rw [hG3.1]; exact nI_le (Nat.le_refl _) (by omega)) h))
          refine hP _ _ _ _ ?_
          refine hP _ _ _ _ (x_p4 (P := P) (ih (g + 1) m3 (by omega) hm3 (hf.trans (ff_n hfs)) (some (.int (nI s))) x3) ?_ rfl rfl)
          rw [nI_succ]; rfl
        | succ i ih2 =>
          intro s m3 hs hm3 hfs x3
          have hs9 : s < n := by omega
          have hG3 := hm3.g hG
          have hC3 := hm3.c hC
          have hpl := plB_lt cb n w h g s n
          have h29 : plB cb n w h g s n < 512 := Nat.lt_of_lt_of_le hpl (Nat.pow_le_pow_right (by omega) g2)
          have hpc : pcN (plB cb n w h g s n) ≤ 9 := pcA_le _ _
          have go : ∀ m4 : x_S, scr ms m4 → claE cb n w h g s = none → ∀ x3 : Option Value, P 62 [some (.ref 26), some (.int (nI g)), some (.int (nI s)), x3] [] (w_M f m4 tl bb) := by
            intro m4 hm4 he x3
            refine hP _ _ _ _ ?_
            refine hP _ _ _ _ (x_p4 (P := P) (ih2 (s + 1) m4 (by omega) hm4 (hfs.trans (ff_n he)) x3) ?_ rfl rfl)
            rw [nI_succ]; rfl
          iterate 3 refine hP _ _ _ _ ?_
          refine hP _ _ _ _ (And.intro (fun h => absurd (show m3.1 1 ≤ nI s from h) (by rw [hG3.1]; exact nI_ge (by omega) (by omega))) (fun _ => ?_))
          iterate 3 refine hP _ _ _ _ ?_
          refine hP _ _ _ _ (r_places hG3 hC3 hg9 hs9 ?_)
          refine hP _ _ _ _ (r_countOf h29 ?_)
          refine hP _ _ _ _ ?_
          refine hP _ _ _ _ (And.intro (fun hq => ?_) (fun hq => ?_))
          · have hq : nI 2 ≤ nI (pcN (plB cb n w h g s n)) := hq
            rw [nI_leI (by omega) (by omega)] at hq
            iterate 4 refine hP _ _ _ _ ?_
            refine hP _ _ _ _ (r_common hG3 hC3 hg9 hs9 (kd := 2) (by omega) (fun q hq2 => ?_) (fun hq2 => ?_))
            · have hlt := comS_lt hq2
              iterate 2 refine hP _ _ _ _ ?_
              refine hP _ _ _ _ (And.intro (fun h => absurd h (nI_pos (by omega))) (fun _ => ?_))
              iterate 4 refine hP _ _ _ _ ?_
              refine hP _ _ _ _ (r_crosses hG3 hC3 hg9 (by omega) hs9 (fun m4 r hs4 hr hres => ?_) (fun m4 hs4 hr => ?_))
              · refine hP _ _ _ _ (And.intro (fun h => absurd (show bI true = 0 from h) (by decide)) (fun _ => ?_))
                refine hP _ _ _ _ ?_
                refine hP _ _ _ _ (And.intro rfl (hT m4 r (hm3.tr hs4) ?_ hres))
                exact hf.trans (ff_s (hfs.trans (ff_s (by unfold claE; rw [if_neg (by omega), hq2]; exact hr))))
              · refine hP _ _ _ _ (And.intro (fun _ => ?_) (fun h => absurd (show bI false = 0 by decide) h))
                exact go m4 (hm3.tr hs4) (by unfold claE; rw [if_neg (by omega), hq2]; exact hr) _
            · iterate 2 refine hP _ _ _ _ ?_
              refine hP _ _ _ _ (And.intro (fun _ => ?_) (fun h => absurd (show (-1 : Int32) < 0 by decide) h))
              exact go m3 hm3 (by unfold claE; rw [if_neg (by omega), hq2]) _
          · have hq : ¬ nI 2 ≤ nI (pcN (plB cb n w h g s n)) := hq
            rw [nI_leI (by omega) (by omega)] at hq
            refine hP _ _ _ _ ?_
            exact go m3 hm3 (by unfold claE; rw [if_pos (by omega)]) x3
      iterate 2 refine hP _ _ _ _ ?_
      exact loop2 n 0 m2 (by omega) hm rfl x3
  iterate 2 refine hP _ _ _ _ ?_
  exact loop (2 * n) 0 ms (by omega) (scr.rf ms) rfl none none
end S4
