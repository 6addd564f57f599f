/-! ===== the class: wings ===== -/
theorem pc_and (a b : Nat) : pcN (clr b a) + pcN (b &&& a) = pcN b := by
  have h1 := pcN_clr (a := b) (g := b &&& a) (fun t ht => by rw [Nat.testBit_and, Bool.and_eq_true] at ht; exact ht.1)
  rw [clr_and] at h1
  exact h1
theorem eq_sub {a g : Nat} (ha : a < 512) (h : ∀ t, g.testBit t = true → a.testBit t = true) (hp : pcN g = pcN a) : g = a := by
  have h1 := pcN_clr h
  have h2 : clr a g = 0 := Decidable.of_not_not fun hne => by
    have := pcN_pos (clr a g) (Nat.lt_of_le_of_lt (clr_le _ _) ha) hne
    omega
  have h3 := clr_0.mp h2
  apply Nat.eq_of_testBit_eq
  intro t
  rw [Bool.eq_iff_iff]
  exact ⟨h t, h3 t⟩
theorem pcN_le {a g : Nat} (h : ∀ t, g.testBit t = true → a.testBit t = true) : pcN g ≤ pcN a := pcA_mono h 9
/-- the class' test of a wing against the model's -/
theorem wg_iff {a b p : Nat} (ha : a < 512) (hb : b < 512) (hp : p < 512) (a2 : pcN a = 2) (b2 : pcN b = 2) {gr : Bool} (p2 : pcN p = if gr then 3 else 2) : (a ≠ p ∧ pcN (a ||| p) = 3 ∧ b ≠ p ∧ pcN (b ||| p) = 3 ∧ a ≠ b ∧ pcN (p ||| a ||| b) = 3) ↔ (pcN (a &&& b) = 1 ∧ p = if gr then a ||| b else clr (a ||| b) (a &&& b)) := by
  have hab : a ||| b < 512 := Nat.or_lt_two_pow (n := 9) ha hb
  have o1 := pcN_or a b
  have o2 := pc_and a b
  have oc : pcN (b &&& a) = pcN (a &&& b) := by rw [Nat.and_comm]
  have obit : ∀ x y t : Nat, (x ||| y).testBit t = (x.testBit t || y.testBit t) := fun x y t => Nat.testBit_or x y t
  have abit : ∀ x y t : Nat, (x &&& y).testBit t = (x.testBit t && y.testBit t) := fun x y t => Nat.testBit_and x y t
  constructor
  · rintro ⟨h1, h2, h3, h4, h5, h6⟩
    have hle : pcN (a ||| b) ≤ 3 := by
      rw [← h6]
      exact pcN_le (fun t ht => by rw [obit, Bool.or_eq_true] at ht; rw [obit, obit, Bool.or_eq_true, Bool.or_eq_true]; rcases ht with ht | ht; exact Or.inl (Or.inr ht); exact Or.inr ht)
    have hne2 : pcN (a &&& b) ≠ 2 := fun e => by
      have e1 : a &&& b = a := eq_sub ha (fun t ht => by rw [abit, Bool.and_eq_true] at ht; exact ht.1) (by omega)
      have e2 : a &&& b = b := eq_sub hb (fun t ht => by rw [abit, Bool.and_eq_true] at ht; exact ht.2) (by omega)
      exact h5 (e1.symm.trans e2)
    have hand : pcN (a &&& b) ≤ 2 := by rw [← a2]; exact pcN_le (fun t ht => by rw [abit, Bool.and_eq_true] at ht; exact ht.1)
    have h11 : pcN (a &&& b) = 1 := by omega
    have h33 : pcN (a ||| b) = 3 := by omega
    have hsub : ∀ t, p.testBit t = true → (a ||| b).testBit t = true := by
      have e3 : a ||| b = p ||| a ||| b := eq_sub (Nat.or_lt_two_pow (n := 9) (Nat.or_lt_two_pow (n := 9) hp ha) hb) (fun t ht => by rw [obit, Bool.or_eq_true] at ht; rw [obit, obit, Bool.or_eq_true, Bool.or_eq_true]; rcases ht with ht | ht; exact Or.inl (Or.inr ht); exact Or.inr ht) (by omega)
      intro t ht
      rw [e3, obit, obit, ht]
      rfl
    refine ⟨h11, ?_⟩
    cases gr with
    | true =>
      have p2 : pcN p = 3 := p2
      show p = a ||| b
      exact eq_sub hab hsub (by omega)
    | false =>
      have p2 : pcN p = 2 := p2
      have q1 := pcN_or a p
      have q2 := pc_and a p
      have q3 := pcN_or b p
      have q4 := pc_and b p
      have pa1 : pcN (p &&& a) = 1 := by omega
      have pb1 : pcN (p &&& b) = 1 := by omega
      have hx : ∀ t, (a &&& b).testBit t = true → p.testBit t = false := by
        intro t ht
        cases hpt : p.testBit t with
        | false => rfl
        | true =>
          exfalso
          rw [abit, Bool.and_eq_true] at ht
          have one : ∀ m, m < 512 → pcN m = 1 → m.testBit t = true → ∀ j, m.testBit j = true → j = t := by
            intro m hm hm1 hmt j hj
            refine Decidable.of_not_not fun hjt => ?_
            have hs : ∀ u, (2 ^ t ||| 2 ^ j).testBit u = true → m.testBit u = true := by
              intro u hu
              rw [obit, Nat.testBit_two_pow, Nat.testBit_two_pow, Bool.or_eq_true, decide_eq_true_eq, decide_eq_true_eq] at hu
              rcases hu with e | e
              · rw [← e]; exact hmt
              · rw [← e]; exact hj
            have h9 := pcN_le hs
            have t9 := tb_lt (n := 9) hmt hm
            have j9 := tb_lt (n := 9) hj hm
            have h2 : ∀ t, t < 9 → ∀ j, j < 9 → j ≠ t → pcN (2 ^ t ||| 2 ^ j) = 2 := by decide +kernel
            rw [h2 t t9 j j9 hjt] at h9
            omega
          have pal : p &&& a < 512 := and_lt9 hp
          have pbl : p &&& b < 512 := and_lt9 hp
          have m1 := one (p &&& a) pal pa1 (by rw [abit, hpt, ht.1]; rfl)
          have m2 := one (p &&& b) pbl pb1 (by rw [abit, hpt, ht.2]; rfl)
          have only : ∀ j, p.testBit j = true → j = t := by
            intro j hj
            have := hsub j hj
            rw [obit, Bool.or_eq_true] at this
            rcases this with h | h
            · exact m1 j (by rw [abit, hj, h]; rfl)
            · exact m2 j (by rw [abit, hj, h]; rfl)
          obtain ⟨i, j, hij, hi, hj⟩ := two_bits hp (by omega)
          exact hij ((only i hi).trans (only j hj).symm)
      show p = clr (a ||| b) (a &&& b)
      have hcl := pcN_clr (a := a ||| b) (g := a &&& b) (fun t ht => by rw [abit, Bool.and_eq_true] at ht; rw [obit, ht.1]; rfl)
      exact eq_sub (Nat.lt_of_le_of_lt (clr_le _ _) hab) (fun t ht => by
        rw [clr_bit, hsub t ht, Bool.true_and]
        cases hb2 : (a &&& b).testBit t with
        | false => rfl
        | true => rw [hx t hb2] at ht; cases ht) (by omega)
  · rintro ⟨h11, he⟩
    have h33 : pcN (a ||| b) = 3 := by omega
    have hne : a ≠ b := fun e => by
      rw [e] at h11
      rw [Nat.and_self] at h11
      omega
    cases gr with
    | true =>
      have he : p = a ||| b := he
      have p3 : pcN p = 3 := p2
      subst he
      refine ⟨fun e => ?_, ?_, fun e => ?_, ?_, hne, ?_⟩
      · rw [e] at a2; omega
      · rw [← Nat.or_assoc, Nat.or_self]; exact h33
      · rw [e] at b2; omega
      · rw [Nat.or_comm, Nat.or_assoc, Nat.or_self]; exact h33
      · have : a ||| b ||| a ||| b = a ||| b := by
          apply Nat.eq_of_testBit_eq
          intro t
          simp only [obit]
          cases a.testBit t <;> cases b.testBit t <;> rfl
        rw [this]; exact h33
    | false =>
      have he : p = clr (a ||| b) (a &&& b) := he
      obtain ⟨j, hj⟩ : ∃ j, (a &&& b).testBit j = true := by
        have hne0 : a &&& b ≠ 0 := fun e => by rw [e, pcN_0] at h11; cases h11
        exact ⟨_, (lowN_ok _ (and_lt9 ha) hne0).2.1⟩
      have hpj : p.testBit j = false := by rw [he, clr_bit, hj]; simp
      rw [abit, Bool.and_eq_true] at hj
      have e1 : a ||| p = a ||| b := by
        rw [he]
        apply Nat.eq_of_testBit_eq
        intro t
        rw [obit, clr_bit, obit, abit]
        cases a.testBit t <;> cases b.testBit t <;> rfl
      have e2 : b ||| p = a ||| b := by
        rw [he]
        apply Nat.eq_of_testBit_eq
        intro t
        rw [obit, clr_bit, obit, abit]
        cases a.testBit t <;> cases b.testBit t <;> rfl
      have e3 : p ||| a ||| b = a ||| b := by
        rw [he]
        apply Nat.eq_of_testBit_eq
        intro t
        rw [obit, obit, clr_bit, obit, abit]
        cases a.testBit t <;> cases b.testBit t <;> rfl
      refine ⟨fun e => ?_, by rw [e1]; exact h33, fun e => ?_, by rw [e2]; exact h33, hne, by rw [e3]; exact h33⟩
      · rw [← e, hj.1] at hpj; cases hpj
      · rw [← e, hj.2] at hpj; cases hpj
def tipB (cb : Nat → Nat) (n w h p q : Nat) : Bool := pcN (cb q) == 2 && cb q != cb p && pcN (cb q ||| cb p) == 3 && seeN n w h p q
def waE (cb : Nat → Nat) (n w h : Nat) (gr : Bool) (p q r : Nat) : Option rS := if cb q ≠ cb r ∧ pcN (cb p ||| cb q ||| cb r) = 3 then rOf (wgG cb n w h gr p q r (n * n)) (wgR p q r) else none
theorem wgT_tip {cb : Nat → Nat} {n w h : Nat} {gr : Bool} {p q r : Nat} (hp : cb p < 512) (hq : cb q < 512) (hr : cb r < 512) (p2 : pcN (cb p) = if gr then 3 else 2) (q2 : (seeN n w h p q && pcN (cb q) == 2) = true) : wgT cb n w h gr p q r = if tipB cb n w h p q && tipB cb n w h p r then waE cb n w h gr p q r else none := by
  rw [Bool.and_eq_true, beq_iff_eq] at q2
  unfold wgT
  by_cases hr2 : (seeN n w h p r && pcN (cb r) == 2) = true
  · rw [if_pos hr2]
    rw [Bool.and_eq_true, beq_iff_eq] at hr2
    have hi := wg_iff hq hr hp q2.2 hr2.2 p2
    unfold wgE waE tipB
    rw [q2.1, hr2.1, q2.2, hr2.2]
    by_cases hm : pcN (cb q &&& cb r) = 1 ∧ cb p = (if gr then cb q ||| cb r else clr (cb q ||| cb r) (cb q &&& cb r))
    · obtain ⟨c1, c2, c3, c4, c5, c6⟩ := hi.mpr hm
      rw [if_pos hm, bne_iff_ne.mpr c1, bne_iff_ne.mpr c3, c2, c4, if_pos (c := cb q ≠ cb r ∧ _) ⟨c5, c6⟩]
      simp
    · rw [if_neg hm]
      by_cases ht : cb q ≠ cb p ∧ pcN (cb q ||| cb p) = 3 ∧ cb r ≠ cb p ∧ pcN (cb r ||| cb p) = 3
      · rw [if_neg (c := cb q ≠ cb r ∧ _) (fun e => hm (hi.mp ⟨ht.1, ht.2.1, ht.2.2.1, ht.2.2.2, e.1, e.2⟩))]
        simp
      · have : (2 == 2 && cb q != cb p && pcN (cb q ||| cb p) == 3 && true && (2 == 2 && cb r != cb p && pcN (cb r ||| cb p) == 3 && true)) = false := by
          cases hh : (2 == 2 && cb q != cb p && pcN (cb q ||| cb p) == 3 && true && (2 == 2 && cb r != cb p && pcN (cb r ||| cb p) == 3 && true)) with
          | false => rfl
          | true =>
            exfalso
            apply ht
            simp only [Bool.and_eq_true, bne_iff_ne, beq_iff_eq] at hh
            exact ⟨hh.1.1.1.2, hh.1.1.2, hh.2.1.1.2, hh.2.1.2⟩
        rw [this]
        rfl
  · rw [if_neg hr2]
    have : tipB cb n w h p r = false := by
      cases hh : tipB cb n w h p r with
      | false => rfl
      | true =>
        exfalso
        unfold tipB at hh
        apply hr2
        simp only [Bool.and_eq_true] at hh ⊢
        exact ⟨hh.2, hh.1.1.1⟩
    rw [this, Bool.and_false]
    rfl
theorem wgG_s {cb : Nat → Nat} {n w h : Nat} {gr : Bool} {p q r k : Nat} : wgG cb n w h gr p q r (k + 1) = if wgB n w h gr p q r k then (fun e => if e = k then wgG cb n w h gr p q r k k ||| (cb k &&& (cb q &&& cb r)) else wgG cb n w h gr p q r k e) else wgG cb n w h gr p q r k := by
  funext e
  cases hb : wgB n w h gr p q r k with
  | true =>
    show wgG cb n w h gr p q r (k + 1) e = if e = k then wgG cb n w h gr p q r k k ||| (cb k &&& (cb q &&& cb r)) else wgG cb n w h gr p q r k e
    unfold wgG
    by_cases he : e = k
    · subst he
      rw [if_pos (c := e = e) rfl, decide_eq_true (Nat.lt_succ_self e), decide_eq_false (Nat.lt_irrefl e), hb]
      simp
    · rw [if_neg he, show decide (e < k + 1) = decide (e < k) by rw [decide_eq_decide]; omega]
  | false =>
    show wgG cb n w h gr p q r (k + 1) e = wgG cb n w h gr p q r k e
    unfold wgG
    by_cases he : e = k
    · subst he; rw [hb, Bool.and_false, Bool.and_false]
    · rw [show decide (e < k + 1) = decide (e < k) by rw [decide_eq_decide]; omega]
section K7
variable {sc : Nat × (Nat → Int32)} {cs : x_S} {tl : List x_C} {bb : Nat × Nat} {n w h d : Nat} {Q : x_O → x_H → Prop} {cb : Nat → Nat} {vb : Nat → Option Nat}
theorem c_isWingtip (hB : bC cs n w h cb vb) {p q : Nat} (hp : p < n * n) (hq : q < n * n) (hQ : Q (.inl (some (.int (bI (tipB cb n w h p q))))) (w_C n cs tl bb)) : x_run sc x_MM x_EX (d + 2) k_X5_isWingtip [.ref 1, .int (nI p), .int (nI q)] (w_C n cs tl bb) Q := by
  obtain ⟨hG, hC, hV, hP9, hE⟩ := hB
  have hk := hG.1
  obtain ⟨g1, g2, g3, g4, g5, g6, g7, g8⟩ := hk.le
  have hq9 := hC.lt g2 hq
  have hp9 := hC.lt g2 hp
  have c1 : pcN (cb q) ≤ 9 := pcA_le _ 9
  have c2 : pcN (cb q ||| cb p) ≤ 9 := pcA_le _ 9
  refine x_in (M := m_X5_isWingtip) rfl rfl (Nat.le_of_ble_eq_true rfl) ⟨rfl, rfl, rfl, trivial⟩ ?_
  intro P hP
  have no : tipB cb n w h p q = false → P 65 [some (.ref 1), some (.int (nI p)), some (.int (nI q)), some (.int (nI (cb q)))] [] (w_C n cs tl bb) := by
    intro hy
    repeat refine hP _ _ _ _ ?_
    refine And.intro rfl (x_q1 hQ ?_)
    rw [hy]; rfl
  unfold tipB at no hQ
  repeat refine hP _ _ _ _ ?_
  refine And.intro (vp_in_nI hq (by omega)) ?_
  rw [ldv (f := cs.2 3) (hC q hq).1 (by omega)]
  repeat refine hP _ _ _ _ ?_
  refine c_bitCount hq9 rfl ?_
  repeat refine hP _ _ _ _ ?_
  refine b_ne (pcN (cb q)) (2) (fun h1 => ?_) (fun h1 => ?_) (rfl) (oi2) (by omega) (by omega)
  · exact no (by rw [beq_eq_false_iff_ne.mpr h1]; rfl)
  · repeat refine hP _ _ _ _ ?_
    refine And.intro (vp_in_nI hp (by omega)) ?_
    rw [ldv (f := cs.2 3) (hC p hp).1 (by omega)]
    repeat refine hP _ _ _ _ ?_
    refine b_eq (cb q) (cb p) (fun h2 => ?_) (fun h2 => ?_) (rfl) (rfl) (by omega) (by omega)
    · exact no (by rw [h2]; simp)
    · repeat refine hP _ _ _ _ ?_
      refine And.intro (vp_in_nI hp (by omega)) ?_
      rw [ldv (f := cs.2 3) (hC p hp).1 (by omega)]
      repeat refine hP _ _ _ _ ?_
      refine c_bitCount (Nat.or_lt_two_pow (n := 9) hq9 hp9) (by rw [nx_or]) ?_
      repeat refine hP _ _ _ _ ?_
      refine b_ne (pcN (cb q ||| cb p)) (3) (fun h3 => ?_) (fun h3 => ?_) (rfl) (oi3) (by omega) (by omega)
      · exact no (by rw [beq_eq_false_iff_ne.mpr h3, Bool.and_false, Bool.false_and])
      · repeat refine hP _ _ _ _ ?_
        refine c_see hG hp hq rfl rfl ?_
        repeat refine hP _ _ _ _ ?_
        refine b_ifeq (fun h4 => ?_) (fun h4 => ?_) (rfl)
        · exact no (by rw [h4, Bool.and_false])
        · repeat refine hP _ _ _ _ ?_
          refine And.intro rfl (x_q1 hQ ?_)
          rw [h1, bne_iff_ne.mpr h2, h3, h4]
          rfl
theorem c_wingAt (hB : bC cs n w h cb vb) (hZ : zC cs n) {gr : Bool} {p q r : Nat} (hp : p < n * n) (hq : q < n * n) (hr : r < n * n) (hT : ∀ cs' e, scC cs cs' → waE cb n w h gr p q r = some e → rsC cs' n e → Q (.inl (some (.int (bI true)))) (w_C n cs' tl bb)) (hF : ∀ cs', scC cs cs' → waE cb n w h gr p q r = none → zC cs' n → Q (.inl (some (.int (bI false)))) (w_C n cs' tl bb)) : x_run sc x_MM x_EX (d + 3) k_X5_wingAt [.ref 1, .int (nI p), .int (nI q), .int (nI r), .int (nI (if gr then 3 else 2))] (w_C n cs tl bb) Q := by
  have hB0 := hB
  obtain ⟨hG, hC, hV, hP9, hE⟩ := hB
  have hk := hG.1
  obtain ⟨g1, g2, g3, g4, g5, g6, g7, g8⟩ := hk.le
  obtain ⟨z1, z2, z3, z4⟩ := hZ
  have hq9 := hC.lt g2 hq
  have hp9 := hC.lt g2 hp
  have hr9 := hC.lt g2 hr
  have c3 : pcN (cb p ||| cb q ||| cb r) ≤ 9 := pcA_le _ 9
  have hsz : (if gr then 3 else 2) < 2 ^ 31 := by split <;> omega
  refine x_in (M := m_X5_wingAt) rfl rfl (Nat.le_of_ble_eq_true rfl) ⟨rfl, rfl, rfl, rfl, rfl, trivial⟩ ?_
  intro P hP
  have no : ¬ (cb q ≠ cb r ∧ pcN (cb p ||| cb q ||| cb r) = 3) → P 51 [some (.ref 1), some (.int (nI p)), some (.int (nI q)), some (.int (nI r)), some (.int (nI (if gr then 3 else 2))), some (.int (nI (cb q))), some (.int (nI (cb r))), none] [] (w_C n cs tl bb) := by
    intro hy
    repeat refine hP _ _ _ _ ?_
    exact And.intro rfl (hF cs (scC.rf cs) (by unfold waE; rw [if_neg hy]) ⟨z1, z2, z3, z4⟩)
  repeat refine hP _ _ _ _ ?_
  refine And.intro (vp_in_nI hq (by omega)) ?_
  rw [ldv (f := cs.2 3) (hC q hq).1 (by omega)]
  repeat refine hP _ _ _ _ ?_
  refine And.intro (vp_in_nI hr (by omega)) ?_
  rw [ldv (f := cs.2 3) (hC r hr).1 (by omega)]
  repeat refine hP _ _ _ _ ?_
  refine b_eq (cb q) (cb r) (fun h1 => ?_) (fun h1 => ?_) (rfl) (rfl) (by omega) (by omega)
  · exact no (fun e => e.1 h1)
  · repeat refine hP _ _ _ _ ?_
    refine And.intro (vp_in_nI hp (by omega)) ?_
    rw [ldv (f := cs.2 3) (hC p hp).1 (by omega)]
    repeat refine hP _ _ _ _ ?_
    refine c_bitCount (Nat.or_lt_two_pow (n := 9) (Nat.or_lt_two_pow (n := 9) hp9 hq9) hr9) (by rw [nx_or, nx_or]) ?_
    repeat refine hP _ _ _ _ ?_
    refine b_eq (pcN (cb p ||| cb q ||| cb r)) (3) (fun h2 => ?_) (fun h2 => ?_) (rfl) (oi3) (by omega) (by omega)
    · have hwa : waE cb n w h gr p q r = rOf (wgG cb n w h gr p q r (n * n)) (wgR p q r) := by unfold waE; rw [if_pos ⟨h1, h2⟩]
      have loop : ∀ e, e ≤ n * n → ∀ cs2 : x_S, frS cs cs2 → oC cs2 n (wgG cb n w h gr p q r e) → P 56 [some (.ref 1), some (.int (nI p)), some (.int (nI q)), some (.int (nI r)), some (.int (nI (if gr then 3 else 2))), some (.int (nI (cb q))), some (.int (nI (cb r))), some (.int (nI e))] [] (w_C n cs2 tl bb) := by
        refine x_lp (n * n) (fun e he ih cs2 hf ho => ?_)
        obtain ⟨hG2, hC2, hV2, hP2, hE2⟩ := hf.sc.b hB0
        repeat refine hP _ _ _ _ ?_
        refine b_ge (e) (n * n) (fun he9 => ?_) (fun he9 => ?_) (rfl) (rfl) (by omega) (by omega)
        · have e9 : e = n * n := by omega
          subst e9
          repeat refine hP _ _ _ _ ?_
          refine c_takesSome hk ho (fun e9 he9 => ?_) ?_
          · unfold wgG
            rw [decide_eq_false (by omega), Bool.false_and]
            rfl
          repeat refine hP _ _ _ _ ?_
          refine b_ifne (fun ha => ?_) (fun ha => ?_) (rfl)
          · repeat refine hP _ _ _ _ ?_
            refine c_bec hk (hf.r z4) hp rfl (fun cs3 hf3 hr3 => ?_)
            repeat refine hP _ _ _ _ ?_
            refine c_bec hk hr3 hq rfl (fun cs4 hf4 hr4 => ?_)
            repeat refine hP _ _ _ _ ?_
            refine c_bec hk hr4 hr rfl (fun cs5 hf5 hr5 => ?_)
            repeat refine hP _ _ _ _ ?_
            have hf9 := (hf3.tr hf4).tr hf5
            refine And.intro rfl (hT cs5 _ (hf.sc.tr hf9.sc) (hwa.trans (if_pos ha)) ⟨⟨(hf9.1 1 (by decide)).trans ((hf.1 1 (by decide)).trans z1), (hf9.1 2 (by decide)).trans ((hf.1 2 (by decide)).trans z2)⟩, hf9.o ho, rC_congr hr5 (fun e _ => ?_)⟩)
            show updB (updB (updB (fun _ => false) p true) q true) r true e = wgR p q r e
            unfold wgR updB
            by_cases e1 : e = p <;> by_cases e2 : e = q <;> by_cases e3 : e = r <;> simp [e1, e2, e3]
          · repeat refine hP _ _ _ _ ?_
            exact And.intro rfl (hF cs2 hf.sc (by rw [hwa]; unfold rOf; rw [ha]; rfl) ⟨(hf.1 1 (by decide)).trans z1, (hf.1 2 (by decide)).trans z2, oC_0 g7 ho ha, hf.r z4⟩)
        · have ih := ih he9
          rw [wgG_s] at ih
          have skip9 : wgB n w h gr p q r e = false → P 138 [some (.ref 1), some (.int (nI p)), some (.int (nI q)), some (.int (nI r)), some (.int (nI (if gr then 3 else 2))), some (.int (nI (cb q))), some (.int (nI (cb r))), some (.int (nI e))] [] (w_C n cs2 tl bb) := by
            intro hb
            rw [hb, if_neg (by decide)] at ih
            iterate 2 refine hP _ _ _ _ ?_
            refine x_p4 (P := P) (ih cs2 hf ho) ?_ rfl ?_ <;> try (first | rfl | (rw [nI_succ]; rfl))
          have hit : wgB n w h gr p q r e = true → P 113 [some (.ref 1), some (.int (nI p)), some (.int (nI q)), some (.int (nI r)), some (.int (nI (if gr then 3 else 2))), some (.int (nI (cb q))), some (.int (nI (cb r))), some (.int (nI e))] [] (w_C n cs2 tl bb) := by
            intro hb
            rw [hb, if_pos rfl] at ih
            repeat refine hP _ _ _ _ ?_
            refine And.intro (vp_in_nI he9 (by omega)) ?_
            rw [ldv (f := cs2.2 3) (hC2 e he9).1 (by omega)]
            repeat refine hP _ _ _ _ ?_
            refine c_str ho hk he9 (m := cb e &&& (cb q &&& cb r)) (and_lt9 (hC.lt g2 he9)) rfl (by rw [nx_and, nx_and, Nat.and_assoc]) (fun cs4 hf4 ho4 => ?_)
            iterate 2 refine hP _ _ _ _ ?_
            refine x_p4 (P := P) (ih cs4 (hf.tr hf4) ho4) ?_ rfl ?_ <;> try (first | rfl | (rw [nI_succ]; rfl))
          unfold wgB at skip9 hit
          repeat refine hP _ _ _ _ ?_
          refine c_see hG2 he9 hq rfl rfl ?_
          repeat refine hP _ _ _ _ ?_
          refine b_ifeq (fun s1 => ?_) (fun s1 => ?_) (rfl)
          · exact skip9 (by rw [s1]; rfl)
          · repeat refine hP _ _ _ _ ?_
            refine c_see hG2 he9 hr rfl rfl ?_
            repeat refine hP _ _ _ _ ?_
            refine b_ifeq (fun s2 => ?_) (fun s2 => ?_) (rfl)
            · exact skip9 (by rw [s2, Bool.and_false]; rfl)
            · repeat refine hP _ _ _ _ ?_
              refine b_eq ((if gr then 3 else 2)) (2) (fun s3 => ?_) (fun s3 => ?_) (rfl) (oi2) (by omega) (by omega)
              · have hg9 : gr = false := by
                  cases gr with
                  | false => rfl
                  | true => cases s3
                exact hit (by rw [s1, s2, hg9]; rfl)
              · have hg9 : gr = true := by
                  cases gr with
                  | false => exact absurd rfl s3
                  | true => rfl
                repeat refine hP _ _ _ _ ?_
                refine c_see hG2 he9 hp rfl rfl ?_
                repeat refine hP _ _ _ _ ?_
                refine b_ifeq (fun s4 => ?_) (fun s4 => ?_) (rfl)
                · exact skip9 (by rw [s1, s2, s4, hg9]; rfl)
                · exact hit (by rw [s1, s2, s4]; simp)
      iterate 2 refine hP _ _ _ _ ?_
      refine x_p4 (P := P) (loop 0 (by omega) cs (frS.rf cs) (oC_congr z3 (fun e _ => by unfold wgG; rw [decide_eq_false (Nat.not_lt_zero e), Bool.false_and]; rfl))) ?_ rfl ?_ <;> try (first | rfl | (rw [nI_succ]; rfl))
    · exact no (fun e => h2 e.2)
theorem c_wing (hB : bC cs n w h cb vb) (hZ : zC cs n) {gr : Bool} {x : Int32} (hx : x = nI (if gr then 3 else 2)) (hT : ∀ cs' e, scC cs cs' → wgS cb n w h gr = some e → rsC cs' n e → Q (.inl (some (.int (bI true)))) (w_C n cs' tl bb)) (hF : ∀ cs', scC cs cs' → wgS cb n w h gr = none → zC cs' n → Q (.inl (some (.int (bI false)))) (w_C n cs' tl bb)) : x_run sc x_MM x_EX (d + 4) k_X5_wing [.ref 1, .int x] (w_C n cs tl bb) Q := by
  subst hx
  have hk := hB.1.1
  have hC := hB.2.1
  obtain ⟨g1, g2, g3, g4, g5, g6, g7, g8⟩ := hk.le
  have hsz : (if gr then 3 else 2) < 2 ^ 31 := by split <;> omega
  refine x_in (M := m_X5_wing) rfl rfl (Nat.le_of_ble_eq_true rfl) ⟨rfl, rfl, trivial⟩ ?_
  intro P hP
  have loop : ∀ p, p ≤ n * n → ∀ cs2 : x_S, scC cs cs2 → zC cs2 n → wgS cb n w h gr = ff (wgP cb n w h gr) (n * n - p) p → ∀ x3 x4, P 2 [some (.ref 1), some (.int (nI (if gr then 3 else 2))), some (.int (nI p)), x3, x4] [] (w_C n cs2 tl bb) := by
    refine x_lp (n * n) (fun p hp3 ih cs2 hsc hz hf x3 x4 => ?_)
    repeat refine hP _ _ _ _ ?_
    refine b_ge (p) (n * n) (fun hp => ?_) (fun hp => ?_) (rfl) (rfl) (by omega) (by omega)
    · repeat refine hP _ _ _ _ ?_
      exact And.intro rfl (hF cs2 hsc (hf.trans (ff_e hp)) hz)
    · have ih := ih hp
      obtain ⟨hG2, hC2, hV2, hP2, hE2⟩ := hsc.b hB
      have hp9 := hC.lt g2 hp
      have c1 : pcN (cb p) ≤ 9 := pcA_le _ 9
      have nextp : ∀ cs5 : x_S, scC cs cs5 → zC cs5 n → wgP cb n w h gr p = none → ∀ y3 y4, P 110 [some (.ref 1), some (.int (nI (if gr then 3 else 2))), some (.int (nI p)), y3, y4] [] (w_C n cs5 tl bb) := by
        intro cs5 h5 hz5 hn y3 y4
        iterate 2 refine hP _ _ _ _ ?_
        refine x_p4 (P := P) (ih cs5 h5 hz5 (hf.trans (ff_n' hp hn)) y3 y4) ?_ rfl ?_ <;> try (first | rfl | (rw [nI_succ]; rfl))
      repeat refine hP _ _ _ _ ?_
      refine And.intro (vp_in_nI hp (by omega)) ?_
      rw [ldv (f := cs2.2 3) (hC2 p hp).1 (by omega)]
      repeat refine hP _ _ _ _ ?_
      refine c_bitCount hp9 rfl ?_
      repeat refine hP _ _ _ _ ?_
      refine b_eq (pcN (cb p)) ((if gr then 3 else 2)) (fun h1 => ?_) (fun h1 => ?_) (rfl) (rfl) (by omega) (by omega)
      · have hwp : wgP cb n w h gr p = ff (wgQ cb n w h gr p) (n * n - 0) 0 := by unfold wgP; rw [if_pos h1]
        have lq : ∀ q, q ≤ n * n → ∀ cs3 : x_S, scC cs cs3 → zC cs3 n → ff (wgQ cb n w h gr p) (n * n - 0) 0 = ff (wgQ cb n w h gr p) (n * n - q) q → ∀ x4, P 34 [some (.ref 1), some (.int (nI (if gr then 3 else 2))), some (.int (nI p)), some (.int (nI q)), x4] [] (w_C n cs3 tl bb) := by
          refine x_lp (n * n) (fun q hq3 ihq cs3 hsc3 hz3 hfq x4 => ?_)
          repeat refine hP _ _ _ _ ?_
          refine b_ge (q) (n * n) (fun hq => ?_) (fun hq => ?_) (rfl) (rfl) (by omega) (by omega)
          · exact nextp cs3 hsc3 hz3 (hwp.trans (hfq.trans (ff_e hq))) _ _
          · have ihq := ihq hq
            have hq9 := hC.lt g2 hq
            have hB3 := hsc3.b hB
            have nextq : ∀ cs5 : x_S, scC cs cs5 → zC cs5 n → wgQ cb n w h gr p q = none → ∀ y4, P 104 [some (.ref 1), some (.int (nI (if gr then 3 else 2))), some (.int (nI p)), some (.int (nI q)), y4] [] (w_C n cs5 tl bb) := by
              intro cs5 h5 hz5 hn y4
              iterate 2 refine hP _ _ _ _ ?_
              refine x_p4 (P := P) (ihq cs5 h5 hz5 (hfq.trans (ff_n' hq hn)) y4) ?_ rfl ?_ <;> try (first | rfl | (rw [nI_succ]; rfl))
            have tipq : tipB cb n w h p q = true → (seeN n w h p q && pcN (cb q) == 2) = true := by
              intro hh
              unfold tipB at hh
              simp only [Bool.and_eq_true] at hh ⊢
              exact ⟨hh.2, hh.1.1.1⟩
            repeat refine hP _ _ _ _ ?_
            refine c_isWingtip hB3 hp hq ?_
            repeat refine hP _ _ _ _ ?_
            refine b_ifne (fun ht => ?_) (fun ht => ?_) (rfl)
            · have hwq : wgQ cb n w h gr p q = ff (wgT cb n w h gr p q) (n * n - (q + 1)) (q + 1) := by unfold wgQ; rw [if_pos (tipq ht)]
              have hwt : ∀ r, r < n * n → wgT cb n w h gr p q r = if tipB cb n w h p r then waE cb n w h gr p q r else none := fun r hr => by rw [wgT_tip hp9 hq9 (hC.lt g2 hr) h1 (tipq ht), ht, Bool.true_and]
              have lr : ∀ r, r ≤ n * n → q < r → ∀ cs4 : x_S, scC cs cs4 → zC cs4 n → ff (wgT cb n w h gr p q) (n * n - (q + 1)) (q + 1) = ff (wgT cb n w h gr p q) (n * n - r) r → P 62 [some (.ref 1), some (.int (nI (if gr then 3 else 2))), some (.int (nI p)), some (.int (nI q)), some (.int (nI r))] [] (w_C n cs4 tl bb) := by
                refine x_lp (n * n) (fun r hr3 ihr hqr cs4 hsc4 hz4 hfr => ?_)
                repeat refine hP _ _ _ _ ?_
                refine b_ge (r) (n * n) (fun hr => ?_) (fun hr => ?_) (rfl) (rfl) (by omega) (by omega)
                · exact nextq cs4 hsc4 hz4 (hwq.trans (hfr.trans (ff_e hr))) _
                · have ihr := ihr hr (by omega)
                  have hB4 := hsc4.b hB
                  repeat refine hP _ _ _ _ ?_
                  refine c_isWingtip hB4 hp hr ?_
                  repeat refine hP _ _ _ _ ?_
                  refine b_ifeq (fun htr => ?_) (fun htr => ?_) (rfl)
                  · iterate 2 refine hP _ _ _ _ ?_
                    refine x_p4 (P := P) (ihr cs4 hsc4 hz4 (hfr.trans (ff_n' hr (by rw [hwt r hr, htr]; rfl)))) ?_ rfl ?_ <;> try (first | rfl | (rw [nI_succ]; rfl))
                  · repeat refine hP _ _ _ _ ?_
                    refine c_wingAt hB4 hz4 (gr := gr) hp hq hr (fun cs5 e h5 he hres => ?_) (fun cs5 h5 he hz5 => ?_)
                    · repeat refine hP _ _ _ _ ?_
                      refine b_ifeq (fun h6 => ?_) (fun h6 => ?_) (rfl)
                      · cases h6
                      · repeat refine hP _ _ _ _ ?_
                        exact And.intro rfl (hT cs5 e (hsc4.tr h5) (hf.trans (ff_s' hp (hwp.trans (hfq.trans (ff_s' hq (hwq.trans (hfr.trans (ff_s' hr (by rw [hwt r hr, htr]; exact he))))))))) hres)
                    · repeat refine hP _ _ _ _ ?_
                      refine b_ifeq (fun h6 => ?_) (fun h6 => ?_) (rfl)
                      · iterate 2 refine hP _ _ _ _ ?_
                        refine x_p4 (P := P) (ihr cs5 (hsc4.tr h5) hz5 (hfr.trans (ff_n' hr (by rw [hwt r hr, htr]; exact he)))) ?_ rfl ?_ <;> try (first | rfl | (rw [nI_succ]; rfl))
                      · cases h6
              iterate 4 refine hP _ _ _ _ ?_
              refine x_p4 (P := P) (lr (q + 1) (by omega) (by omega) cs3 hsc3 hz3 rfl) ?_ rfl ?_ <;> try (first | rfl | (rw [nI_succ]; rfl))
            · have hwq : wgQ cb n w h gr p q = none := by
                by_cases hs2 : (seeN n w h p q && pcN (cb q) == 2) = true
                · have : wgQ cb n w h gr p q = ff (wgT cb n w h gr p q) (n * n - (q + 1)) (q + 1) := by unfold wgQ; rw [if_pos hs2]
                  rw [this]
                  cases hh : ff (wgT cb n w h gr p q) (n * n - (q + 1)) (q + 1) with
                  | none => rfl
                  | some r9 =>
                    exfalso
                    obtain ⟨r, r1, r2, r3⟩ := ff_lt hh
                    rw [wgT_tip hp9 hq9 (hC.lt g2 (by omega)) h1 hs2, ht] at r3
                    cases r3
                · unfold wgQ; rw [if_neg hs2]
              refine hP _ _ _ _ ?_
              exact nextq cs3 hsc3 hz3 hwq _
        iterate 2 refine hP _ _ _ _ ?_
        refine x_p4 (P := P) (lq 0 (by omega) cs2 hsc hz rfl x4) ?_ rfl ?_ <;> try (first | rfl | (rw [nI_succ]; rfl))
      · refine hP _ _ _ _ ?_
        exact nextp cs2 hsc hz (by unfold wgP; rw [if_neg h1]) _ _
  iterate 2 refine hP _ _ _ _ ?_
  refine x_p4 (P := P) (loop 0 (by omega) cs (scC.rf cs) hZ rfl none none) ?_ rfl ?_ <;> try (first | rfl | (rw [nI_succ]; rfl))
end K7
