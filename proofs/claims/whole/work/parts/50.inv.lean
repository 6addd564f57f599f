/-! ===== the pure game: what every step finds is sound; counting; the invariant ===== -/
/-- what is found is sound -/
def okR (cb : Nat → Nat) (vb : Nat → Option Nat) (n w h : Nat) (r : rS) : Prop := (∀ e t, (r.2.1 e).testBit t = true → (cb e).testBit t = true) ∧ (∀ e, n * n ≤ e → r.2.1 e = 0) ∧ (∀ e, n * n ≤ e → r.2.2 e = false) ∧ match r.1 with
  | none => anyG r.2.1 = true
  | some (c, s) => c < n * n ∧ s < n ∧ vb c = none ∧ (cb c).testBit s = true ∧ r.2.1 = setG cb n w h c s
theorem okR_of {cb : Nat → Nat} {vb : Nat → Option Nat} {n w h : Nat} {go : Nat → Nat} {rs : Nat → Bool} {r : rS} (hr : rOf go rs = some r) (h1 : ∀ e t, (go e).testBit t = true → (cb e).testBit t = true) (h2 : ∀ e, n * n ≤ e → go e = 0) (h3 : ∀ e, n * n ≤ e → rs e = false) : okR cb vb n w h r := by
  unfold rOf at hr
  split at hr
  · rename_i ha
    cases hr
    exact ⟨h1, h2, h3, ha⟩
  · cases hr
theorem an_lt {n w h g j e : Nat} (k : KD n w h) (hg : g < 3 * n) (hj : j ≤ n) (ha : ((List.range j).any fun i => atN n w h g i == e) = true) : e < n * n := by
  rw [List.any_eq_true] at ha
  obtain ⟨i, hi, he⟩ := ha
  rw [List.mem_range] at hi
  rw [beq_iff_eq] at he
  rw [← he]
  exact atN_lt k hg (by omega)
theorem sub_if {p : Bool} {a m : Nat} {t : Nat} (h : (if p then a &&& m else 0).testBit t = true) : a.testBit t = true := by
  cases p with
  | true =>
    rw [if_pos rfl, Nat.testBit_and] at h
    revert h
    cases a.testBit t <;> simp
  | false => rw [if_neg (by decide), Nat.zero_testBit] at h; cases h
theorem sub_clr {p : Bool} {a m : Nat} {t : Nat} (h : (if p then clr a m else 0).testBit t = true) : a.testBit t = true := by
  cases p with
  | true =>
    rw [if_pos rfl, clr_bit] at h
    revert h
    cases a.testBit t <;> simp
  | false => rw [if_neg (by decide), Nat.zero_testBit] at h; cases h
theorem seeN_ne {n w h a b : Nat} (hs : seeN n w h a b = true) : a ≠ b := by
  intro e
  subst e
  unfold seeN at hs
  simp at hs
theorem setG_sub {cb : Nat → Nat} {n w h c s : Nat} : ∀ e t, (setG cb n w h c s e).testBit t = true → (cb e).testBit t = true := by
  intro e t ht
  unfold setG setGk at ht
  split at ht
  · rename_i hc
    subst hc
    rw [clr_bit] at ht
    revert ht
    cases (cb e).testBit t <;> simp
  · split at ht
    · rw [Nat.testBit_and] at ht
      revert ht
      cases (cb e).testBit t <;> simp
    · rw [Nat.zero_testBit] at ht; cases ht
theorem setG_out {cb : Nat → Nat} {n w h c s : Nat} (hc : c < n * n) : ∀ e, n * n ≤ e → setG cb n w h c s e = 0 := by
  intro e he
  unfold setG setGk
  rw [if_neg (by omega), if_neg (by omega)]
theorem okR_set {cb : Nat → Nat} {vb : Nat → Option Nat} {n w h c s : Nat} {rs : Nat → Bool} (hc : c < n * n) (hs : s < n) (hv : vb c = none) (hb : (cb c).testBit s = true) (h3 : ∀ e, n * n ≤ e → rs e = false) : okR cb vb n w h (some (c, s), setG cb n w h c s, rs) := ⟨setG_sub, setG_out hc, h3, hc, hs, hv, hb, rfl⟩
section OK
variable {cb : Nat → Nat} {vb : Nat → Option Nat} {n w h : Nat} {r : rS}
def cbB (cb : Nat → Nat) (n : Nat) : Prop := ∀ c, c < n * n → cb c < 2 ^ n
theorem cbB.lt (hC : cbB cb n) (hn : n ≤ 9) {c : Nat} (hc : c < n * n) : cb c < 512 := Nat.lt_of_lt_of_le (hC c hc) (Nat.pow_le_pow_right (by omega) hn)
theorem ok_last (k : KD n w h) (hC : cbB cb n) (hr : lastS cb vb n w h = some r) : okR cb vb n w h r := by
  obtain ⟨g1, g2, g3, g4, g5, g6, g7, g8⟩ := k.le
  obtain ⟨c, _, hc, he⟩ := ff_lt hr
  unfold lastE at he
  split at he
  · rename_i hh
    cases he
    have hne : cb c ≠ 0 := fun e => by rw [e, pcN_0] at hh; exact absurd hh.2 (by decide)
    obtain ⟨l1, l2, l3⟩ := lowN_ok (cb c) (hC.lt g2 (by omega)) hne
    exact okR_set (by omega) (tb_lt l2 (hC c (by omega))) hh.1 l2 (fun e he => by rw [beq_eq_false_iff_ne]; omega)
  · cases he
theorem hsN_lt {g e : Nat} (k : KD n w h) (hg : g < 3 * n) (he : n * n ≤ e) : hsN n w h g e = false := by
  cases hh : hsN n w h g e with
  | false => rfl
  | true => exact absurd (an_lt k hg (Nat.le_refl _) hh) (by omega)
theorem plB_bit (cb : Nat → Nat) (n w h g s : Nat) (i : Nat) : ∀ j, (plB cb n w h g s j).testBit i = (decide (i < j) && (cb (atN n w h g i)).testBit s)
  | 0 => by simp [plB]
  | j + 1 => by
    unfold plB
    rw [Nat.testBit_or, plB_bit cb n w h g s i j]
    by_cases hij : i = j
    · subst hij
      cases hb : (cb (atN n w h g i)).testBit s <;> simp [Nat.testBit_two_pow]
    · have e1 : decide (i < j + 1) = decide (i < j) := by rw [decide_eq_decide]; omega
      have e2 : (if (cb (atN n w h g j)).testBit s = true then 2 ^ j else 0).testBit i = false := by
        split
        · rw [Nat.testBit_two_pow]; exact decide_eq_false (fun e => hij e.symm)
        · exact Nat.zero_testBit i
      rw [e1, e2, Bool.or_false]
theorem plB_low (k : KD n w h) {g s : Nat} (h1 : plB cb n w h g s n ≠ 0) : lowN (plB cb n w h g s n) < n ∧ (cb (atN n w h g (lowN (plB cb n w h g s n)))).testBit s = true := by
  obtain ⟨g1, g2, g3, g4, g5, g6, g7, g8⟩ := k.le
  obtain ⟨l1, l2, l3⟩ := lowN_ok _ (plB_9 cb w h g s g2) h1
  have l4 := l2
  rw [plB_bit, Bool.and_eq_true, decide_eq_true_eq] at l4
  exact l4
theorem ok_only (k : KD n w h) (hC : cbB cb n) {fr : Nat} (hfr : fr + n ≤ 3 * n) (hr : onlyS cb vb n w h fr = some r) : okR cb vb n w h r := by
  obtain ⟨g, hg1, hg, he⟩ := ff_lt hr
  obtain ⟨s, _, hs, he⟩ := ff_lt he
  unfold onlyE at he
  split at he
  · rename_i hh
    cases he
    have hne : plB cb n w h g s n ≠ 0 := fun e => by rw [e, pcN_0] at hh; exact absurd hh.1 (by decide)
    obtain ⟨l1, l2⟩ := plB_low k hne
    exact okR_set (atN_lt k (by omega) l1) (by omega) hh.2 l2 (fun e he => hsN_lt k (by omega) he)
  · cases he
theorem ok_cr (k : KD n w h) {g q s : Nat} (hg : g < 3 * n) (hq : q < 3 * n) (hr : crE cb n w h g q s = some r) : okR cb vb n w h r := by
  have hr : rOf (crG cb n w h g q s n) (crR cb n w h g s n) = some r := hr
  refine okR_of hr (fun e t ht => sub_if ht) (fun e he => ?_) (fun e he => ?_)
  · unfold crG
    cases hh : ((List.range n).any fun i => atN n w h q i == e) with
    | false => rfl
    | true => exact absurd (an_lt k hq (Nat.le_refl _) hh) (by omega)
  · unfold crR
    cases hh : ((List.range n).any fun i => atN n w h g i == e) with
    | false => rfl
    | true => exact absurd (an_lt k hg (Nat.le_refl _) hh) (by omega)
theorem ok_po (k : KD n w h) (hr : poS cb n w h = some r) : okR cb vb n w h r := by
  obtain ⟨g, hg1, hg, he⟩ := ff_lt hr
  obtain ⟨s, _, hs, he⟩ := ff_lt he
  unfold poE at he
  split at he
  · cases he
  · split at he
    · rename_i q hq
      unfold comP at hq
      split at hq
      · rename_i q2 hq2
        cases hq
        have := comS_lt hq2
        exact ok_cr k (by omega) (by omega) he
      · have := comS_lt hq
        exact ok_cr k (by omega) (by omega) he
    · cases he
theorem ok_cla (k : KD n w h) (hr : claS cb n w h = some r) : okR cb vb n w h r := by
  obtain ⟨g, hg1, hg, he⟩ := ff_lt hr
  obtain ⟨s, _, hs, he⟩ := ff_lt he
  unfold claE at he
  split at he
  · cases he
  · split at he
    · rename_i q hq
      have := comS_lt hq
      exact ok_cr k (by omega) (by omega) he
    · cases he
theorem ok_nak (k : KD n w h) {m : Nat} (hr : nakS cb vb n w h m = some r) : okR cb vb n w h r := by
  obtain ⟨g, hg1, hg, he⟩ := ff_lt hr
  unfold nakH at he
  obtain ⟨c, _, he⟩ := List.exists_of_findSome?_eq_some he
  unfold nakE at he
  split at he
  · refine okR_of he (fun e t ht => sub_if ht) (fun e he => ?_) (fun e he => ?_)
    · unfold nakG
      cases hh : ((List.range n).any fun i => atN n w h g i == e) with
      | false => rfl
      | true => exact absurd (an_lt k (by omega) (Nat.le_refl _) hh) (by omega)
    · unfold nakR
      cases hh : ((List.range n).any fun i => atN n w h g i == e) with
      | false => rfl
      | true => exact absurd (an_lt k (by omega) (Nat.le_refl _) hh) (by omega)
  · cases he
theorem any_and {l : List Nat} {p q : Nat → Bool} (h : (l.any fun i => p i && q i) = true) : l.any p = true := by
  rw [List.any_eq_true] at h ⊢
  obtain ⟨i, hi, he⟩ := h
  rw [Bool.and_eq_true] at he
  exact ⟨i, hi, he.1⟩
theorem hidR_lt (k : KD n w h) {g all e : Nat} (hg : g < 3 * n) (he : n * n ≤ e) : hidR n w h g all n e = false := by
  cases hh : hidR n w h g all n e with
  | false => rfl
  | true => exact absurd (an_lt k hg (Nat.le_refl _) (any_and hh)) (by omega)
theorem ok_hid (k : KD n w h) {m : Nat} (hr : hidS cb vb n w h m = some r) : okR cb vb n w h r := by
  obtain ⟨g, hg1, hg, he⟩ := ff_lt hr
  unfold hidH at he
  obtain ⟨c, _, he⟩ := List.exists_of_findSome?_eq_some he
  unfold hidE at he
  split at he
  · refine okR_of he (fun e t ht => sub_clr ht) (fun e he => ?_) (fun e he => hidR_lt k (by omega) he)
    unfold hidG
    rw [hidR_lt k (by omega) he]
    rfl
  · cases he
theorem fsX_lt (k : KD n w h) {fr all e : Nat} {pk : Nat → Bool} (hfr : fr + n ≤ 3 * n) (he : n * n ≤ e) : fsX n w h fr all pk n 0 e = false := by
  have e2 : fsX n w h fr all pk n 0 e = (List.range n).any fun t => pk (fr + t) && (List.range n).any fun i => atN n w h (fr + t) i == e && all.testBit i := by
    unfold fsX
    simp
  rw [e2]
  cases hh : (List.range n).any fun t => pk (fr + t) && (List.range n).any fun i => atN n w h (fr + t) i == e && all.testBit i with
  | false => rfl
  | true =>
    rw [List.any_eq_true] at hh
    obtain ⟨t, ht, h2⟩ := hh
    rw [List.mem_range] at ht
    rw [Bool.and_eq_true] at h2
    exact absurd (an_lt k (by omega) (Nat.le_refl _) (any_and h2.2)) (by omega)
theorem ok_fis (k : KD n w h) {fr m : Nat} (hfr : fr + n ≤ 3 * n) (hr : fisS cb n w h fr m = some r) : okR cb vb n w h r := by
  obtain ⟨s, hs1, hs, he⟩ := ff_lt hr
  unfold fisH at he
  obtain ⟨c, _, he⟩ := List.exists_of_findSome?_eq_some he
  unfold fisE at he
  split at he
  · refine okR_of he (fun e t ht => sub_if ht) (fun e he => ?_) (fun e he => ?_)
    · unfold fisG
      rw [fsX_lt k hfr he, Bool.and_false]
      rfl
    · unfold fisR
      rw [fsX_lt k hfr he, Bool.and_false]
  · cases he
theorem ok_wg {gr : Bool} (hr : wgS cb n w h gr = some r) : okR cb vb n w h r := by
  obtain ⟨p, _, hp, he⟩ := ff_lt hr
  unfold wgP at he
  by_cases hp3 : pcN (cb p) = (if gr then 3 else 2)
  · rw [if_pos hp3] at he
    obtain ⟨q, _, hq, he⟩ := ff_lt he
    unfold wgQ at he
    split at he
    · obtain ⟨t, ht1, ht, he⟩ := ff_lt he
      unfold wgT at he
      split at he
      · unfold wgE at he
        by_cases hp4 : pcN (cb q &&& cb t) = 1 ∧ cb p = (if gr then cb q ||| cb t else clr (cb q ||| cb t) (cb q &&& cb t))
        · rw [if_pos hp4] at he
          refine okR_of he (fun e t ht => sub_if ht) (fun e he => ?_) (fun e he => ?_)
          · unfold wgG
            rw [decide_eq_false (by omega), Bool.false_and]
            rfl
          · unfold wgR
            rw [Bool.or_eq_false_iff, Bool.or_eq_false_iff, beq_eq_false_iff_ne, beq_eq_false_iff_ne, beq_eq_false_iff_ne]
            omega
        · rw [if_neg hp4] at he; cases he
      · cases he
    · cases he
  · rw [if_neg hp3] at he; cases he
theorem ok_cl (hr : clS cb n w h = some r) : okR cb vb n w h r := by
  obtain ⟨s, _, hs, he⟩ := ff_lt hr
  obtain ⟨c, _, hc, he⟩ := ff_lt he
  unfold clF clE at he
  split at he
  · refine okR_of he (fun e t ht => sub_if ht) (fun e he => ?_) (fun e he => ?_)
    · unfold clG
      rw [decide_eq_false (by omega), Bool.false_and]
      rfl
    · unfold clR
      rw [decide_eq_false (by omega), Bool.false_and]
  · cases he
theorem moN_in {two : Nat} {C : Nat → Nat} : ∀ {k x : Nat}, moN cb two C k = some x → ∃ j, j < k ∧ x = C j
  | 0, _, h => by cases h
  | k + 1, x, h => by
    unfold moN at h
    split at h
    · obtain ⟨j, hj, e⟩ := moN_in h
      exact ⟨j, by omega, e⟩
    · cases h
      exact ⟨k, by omega, rfl⟩
theorem co_sub (a b c d : Nat) : ∀ j, j < 4 → cb (coC a b c d j) &&& (cb a &&& cb b &&& cb c &&& cb d) = cb a &&& cb b &&& cb c &&& cb d := by
  intro j hj
  apply Nat.eq_of_testBit_eq
  intro i
  rcases (show j = 0 ∨ j = 1 ∨ j = 2 ∨ j = 3 by omega) with rfl | rfl | rfl | rfl
  · show (cb a &&& _).testBit i = _
    simp only [Nat.testBit_and]
    cases (cb a).testBit i <;> cases (cb b).testBit i <;> cases (cb c).testBit i <;> cases (cb d).testBit i <;> rfl
  · show (cb b &&& _).testBit i = _
    simp only [Nat.testBit_and]
    cases (cb a).testBit i <;> cases (cb b).testBit i <;> cases (cb c).testBit i <;> cases (cb d).testBit i <;> rfl
  · show (cb c &&& _).testBit i = _
    simp only [Nat.testBit_and]
    cases (cb a).testBit i <;> cases (cb b).testBit i <;> cases (cb c).testBit i <;> cases (cb d).testBit i <;> rfl
  · show (cb d &&& _).testBit i = _
    simp only [Nat.testBit_and]
    cases (cb a).testBit i <;> cases (cb b).testBit i <;> cases (cb c).testBit i <;> cases (cb d).testBit i <;> rfl
theorem ok_co (k : KD n w h) {a b c d : Nat} (ha : a < n * n) (hb : b < n * n) (hc : c < n * n) (hd : d < n * n) (hr : coE cb vb n w h a b c d = some r) : okR cb vb n w h r := by
  obtain ⟨g1, g2, g3, g4, g5, g6, g7, g8⟩ := k.le
  unfold coE at hr
  split at hr
  · rename_i hh
    split at hr
    · rename_i x hx
      cases hr
      obtain ⟨j, hj, rfl⟩ := moN_in hx
      have hxl : coC a b c d j < n * n := coC_lt ha hb hc hd j
      refine ⟨fun e t ht => ?_, fun e he => if_neg (by omega), fun e he => ?_, ?_⟩
      · have ht : (if e = coC a b c d j then cb (coC a b c d j) &&& (cb a &&& cb b &&& cb c &&& cb d) else 0).testBit t = true := ht
        split at ht
        · rename_i e9
          rw [e9]
          rw [Nat.testBit_and] at ht
          revert ht
          cases (cb (coC a b c d j)).testBit t <;> simp
        · rw [Nat.zero_testBit] at ht; cases ht
      · show rcR a b c d e = false
        unfold rcR
        rw [Bool.or_eq_false_iff, Bool.or_eq_false_iff, Bool.or_eq_false_iff, beq_eq_false_iff_ne, beq_eq_false_iff_ne, beq_eq_false_iff_ne, beq_eq_false_iff_ne]
        omega
      · show anyG _ = true
        refine anyG_t.mpr ⟨coC a b c d j, by omega, ?_⟩
        show (if coC a b c d j = coC a b c d j then cb (coC a b c d j) &&& (cb a &&& cb b &&& cb c &&& cb d) else 0) ≠ 0
        rw [if_pos rfl, co_sub a b c d j hj]
        intro e9
        have h2 := hh.2.2.2.2.2.1
        rw [e9, pcN_0] at h2
        exact absurd h2 (by decide)
    · cases hr
  · cases hr
theorem ok_re (k : KD n w h) (hr : reS cb vb n w h = some r) : okR cb vb n w h r := by
  obtain ⟨a, _, ha, he⟩ := ff_lt hr
  obtain ⟨b, hb1, hb, he⟩ := ff_lt he
  obtain ⟨x, _, hx, he⟩ := ff_lt he
  obtain ⟨y, hy1, hy, he⟩ := ff_lt he
  have m1 : n * (a + 1) ≤ n * n := Nat.mul_le_mul_left n (by omega)
  have m2 : n * (b + 1) ≤ n * n := Nat.mul_le_mul_left n (by omega)
  rw [Nat.mul_succ] at m1 m2
  exact ok_co k (by omega) (by omega) (by omega) (by omega) he
theorem ok_look (k : KD n w h) (hC : cbB cb n) {i : Nat} (hr : lookS cb vb n w h i = some r) : okR cb vb n w h r := by
  unfold lookS at hr
  by_cases h0 : i = 0
  · rw [if_pos h0] at hr; exact ok_last k hC hr
  rw [if_neg h0] at hr
  by_cases h1 : i = 1
  · rw [if_pos h1] at hr; exact ok_only k hC (by omega) hr
  rw [if_neg h1] at hr
  by_cases h2 : i = 2
  · rw [if_pos h2] at hr; exact ok_only k hC (by omega) hr
  rw [if_neg h2] at hr
  by_cases h3 : i = 3
  · rw [if_pos h3] at hr; exact ok_only k hC (by omega) hr
  rw [if_neg h3] at hr
  by_cases h4 : i = 4
  · rw [if_pos h4] at hr; exact ok_po k hr
  rw [if_neg h4] at hr
  by_cases h5 : i = 5
  · rw [if_pos h5] at hr; exact ok_cla k hr
  rw [if_neg h5] at hr
  by_cases h6 : i = 6
  · rw [if_pos h6] at hr; exact ok_nak k hr
  rw [if_neg h6] at hr
  by_cases h7 : i = 7
  · rw [if_pos h7] at hr; exact ok_nak k hr
  rw [if_neg h7] at hr
  by_cases h8 : i = 8
  · rw [if_pos h8] at hr; exact ok_nak k hr
  rw [if_neg h8] at hr
  by_cases h9 : i = 9
  · rw [if_pos h9] at hr; exact ok_hid k hr
  rw [if_neg h9] at hr
  by_cases h10 : i = 10
  · rw [if_pos h10] at hr; exact ok_hid k hr
  rw [if_neg h10] at hr
  by_cases h11 : i = 11
  · rw [if_pos h11] at hr; exact ok_fis k (by omega) hr
  rw [if_neg h11] at hr
  by_cases h12 : i = 12
  · rw [if_pos h12] at hr; exact ok_fis k (by omega) hr
  rw [if_neg h12] at hr
  by_cases h13 : i = 13
  · rw [if_pos h13] at hr; exact ok_fis k (by omega) hr
  rw [if_neg h13] at hr
  by_cases h14 : i = 14
  · rw [if_pos h14] at hr; exact ok_fis k (by omega) hr
  rw [if_neg h14] at hr
  by_cases h15 : i = 15
  · rw [if_pos h15] at hr; exact ok_wg hr
  rw [if_neg h15] at hr
  by_cases h16 : i = 16
  · rw [if_pos h16] at hr; exact ok_wg hr
  rw [if_neg h16] at hr
  by_cases h17 : i = 17
  · rw [if_pos h17] at hr; exact ok_cl hr
  rw [if_neg h17] at hr
  exact ok_re k hr
theorem ok_sea (k : KD n w h) (hC : cbB cb n) {off : Nat → Bool} {i : Nat} (hr : seaS off cb vb n w h = some (i, r)) : i < 19 ∧ off i = false ∧ okR cb vb n w h r := by
  obtain ⟨j, _, hj, he⟩ := ff_lt hr
  unfold seaE at he
  split at he
  · cases he
  · rename_i ho
    cases hl : lookS cb vb n w h j with
    | none => rw [hl] at he; cases he
    | some r' =>
      rw [hl] at he
      cases he
      exact ⟨by omega, by simpa using ho, ok_look k hC hl⟩
end OK
/-! counting -/
theorem pcA_clr {a g : Nat} (h : ∀ t, g.testBit t = true → a.testBit t = true) : ∀ k, pcA (clr a g) k + pcA g k = pcA a k
  | 0 => rfl
  | k + 1 => by
    have ih := pcA_clr h k
    have e : tbN (clr a g) k + tbN g k = tbN a k := by
      unfold tbN
      rw [clr_bit]
      have hk := h k
      cases ha : a.testBit k <;> cases hg : g.testBit k <;> simp_all
    show pcA (clr a g) k + tbN (clr a g) k + (pcA g k + tbN g k) = pcA a k + tbN a k
    omega
theorem pcN_clr {a g : Nat} (h : ∀ t, g.testBit t = true → a.testBit t = true) : pcN (clr a g) + pcN g = pcN a := pcA_clr h 9
theorem pcN_pos : ∀ b, b < 512 → b ≠ 0 → 1 ≤ pcN b := by decide +kernel
theorem sub_le {a g : Nat} (h : ∀ t, g.testBit t = true → a.testBit t = true) : g ≤ a := by
  have e : a &&& g = g := by
    apply Nat.eq_of_testBit_eq
    intro i
    rw [Nat.testBit_and]
    have := h i
    cases hg : g.testBit i <;> cases ha : a.testBit i <;> simp_all
  rw [← e]
  exact Nat.and_le_left
theorem gcN_left {cb go : Nat → Nat} (h : ∀ e t, (go e).testBit t = true → (cb e).testBit t = true) : ∀ N, gcN (leftN cb go) N + gcN go N = gcN cb N
  | 0 => rfl
  | N + 1 => by
    have ih := gcN_left h N
    have e : pcN (leftN cb go N) + pcN (go N) = pcN (cb N) := pcN_clr (h N)
    show gcN (leftN cb go) N + pcN (leftN cb go N) + (gcN go N + pcN (go N)) = gcN cb N + pcN (cb N)
    omega
theorem gcN_ge {go : Nat → Nat} {c : Nat} : ∀ {N}, c < N → pcN (go c) ≤ gcN go N
  | 0, h => absurd h (Nat.not_lt_zero c)
  | N + 1, h => by
    show _ ≤ gcN go N + pcN (go N)
    by_cases hc : c = N
    · subst hc; omega
    · have := gcN_ge (go := go) (show c < N by omega); omega
theorem gcN_out {go : Nat → Nat} {N : Nat} (h : ∀ e, N ≤ e → go e = 0) : ∀ j, gcN go (N + j) = gcN go N
  | 0 => rfl
  | j + 1 => by
    show gcN go (N + j) + pcN (go (N + j)) = _
    rw [gcN_out h j, h (N + j) (by omega), pcN_0]; rfl
theorem gcN_81 {go : Nat → Nat} {n : Nat} (hn : n * n ≤ 81) (h : ∀ e, n * n ≤ e → go e = 0) : gcN go 81 = gcN go (n * n) := by
  have := gcN_out h (81 - n * n)
  rw [show n * n + (81 - n * n) = 81 by omega] at this
  exact this
theorem pcA_le_n {b n : Nat} (hb : b < 2 ^ n) : ∀ k, pcA b k ≤ n
  | 0 => Nat.zero_le _
  | k + 1 => by
    by_cases hk : k < n
    · have := pcA_le b (k + 1); omega
    · have ih := pcA_le_n hb k
      have e : tbN b k = 0 := by
        unfold tbN
        rw [if_neg]
        intro h9
        have := tb_lt h9 hb
        omega
      show pcA b k + tbN b k ≤ n
      omega
theorem gcN_le_n {cb : Nat → Nat} {n N : Nat} (h : ∀ c, c < N → cb c < 2 ^ n) : ∀ k, k ≤ N → gcN cb k ≤ n * k
  | 0, _ => Nat.le_refl _
  | k + 1, hk => by
    have ih := gcN_le_n h k (by omega)
    have := pcA_le_n (h k (by omega)) 9
    show gcN cb k + pcN (cb k) ≤ n * (k + 1)
    rw [Nat.mul_succ]
    unfold pcN
    omega
theorem openN_le (vb : Nat → Option Nat) : ∀ N, openN vb N ≤ N
  | 0 => Nat.le_refl _
  | N + 1 => by have := openN_le vb N; unfold openN; split <;> omega
theorem openN_out {vb : Nat → Option Nat} {c : Nat} {v : Option Nat} : ∀ {N}, N ≤ c → openN (updO vb c v) N = openN vb N
  | 0, _ => rfl
  | N + 1, h => by
    unfold openN
    rw [openN_out (show N ≤ c by omega), show updO vb c v N = vb N from if_neg (by omega)]
theorem openN_set {vb : Nat → Option Nat} {c s : Nat} (hv : vb c = none) : ∀ {N}, c < N → openN (updO vb c (some s)) N + 1 = openN vb N
  | 0, h => absurd h (Nat.not_lt_zero c)
  | N + 1, h => by
    unfold openN
    by_cases hc : c = N
    · subst hc
      rw [openN_out (Nat.le_refl _), show updO vb c (some s) c = some s from if_pos rfl, hv]
      simp
    · have ih := openN_set (s := s) hv (show c < N by omega)
      rw [show updO vb c (some s) N = vb N from if_neg (fun e => hc e.symm)]
      omega
/-! the invariant -/
/-- a set cell has no other candidate than its symbol, and no cell that it sees has that -/
def stOK (n w h : Nat) (cb : Nat → Nat) (vb : Nat → Option Nat) : Prop := ∀ c s, c < n * n → vb c = some s → (∀ t, t ≠ s → (cb c).testBit t = false) ∧ ∀ e, e < n * n → seeN n w h c e = true → (cb e).testBit s = false
def vbB (vb : Nat → Option Nat) (n : Nat) : Prop := ∀ c, c < n * n → ∀ s, vb c = some s → s < n
def chn (n w h : Nat) : (Nat → Nat) → (Nat → Option Nat) → List ((Nat → Nat) × (Nat → Option Nat) × Nat × rS) → Prop
  | _, _, [] => True
  | cb, vb, (cb0, vb0, k, r) :: t => okR cb0 vb0 n w h r ∧ k < 19 ∧ cbB cb0 n ∧ vbB vb0 n ∧ stOK n w h cb0 vb0 ∧ cb = leftN cb0 r.2.1 ∧ vb = setV vb0 r.1 ∧ chn n w h cb0 vb0 t
def inv (n w h : Nat) (s : pS) : Prop := KD n w h ∧ cbB s.cb n ∧ vbB s.vb n ∧ stOK n w h s.cb s.vb ∧ chn n w h s.cb s.vb s.hs ∧ ∀ k r, s.fd = some (k, r) → k < 19 ∧ okR s.cb s.vb n w h r
theorem leftN_bit (cb go : Nat → Nat) (e t : Nat) : (leftN cb go e).testBit t = ((cb e).testBit t && !(go e).testBit t) := clr_bit _ _ _
theorem cbB_left {cb go : Nat → Nat} {n : Nat} (hC : cbB cb n) : cbB (leftN cb go) n := fun c hc => Nat.lt_of_le_of_lt (clr_le _ _) (hC c hc)
theorem stOK_left {n w h : Nat} {cb : Nat → Nat} {vb : Nat → Option Nat} (hS : stOK n w h cb vb) (go : Nat → Nat) : stOK n w h (leftN cb go) vb := by
  intro c s hc hv
  obtain ⟨h1, h2⟩ := hS c s hc hv
  exact ⟨fun t ht => by rw [leftN_bit, h1 t ht]; rfl, fun e he hs => by rw [leftN_bit, h2 e he hs]; rfl⟩
theorem stOK_set {n w h : Nat} {cb : Nat → Nat} {vb : Nat → Option Nat} (hS : stOK n w h cb vb) {c s : Nat} (hc : c < n * n) : stOK n w h (leftN cb (setG cb n w h c s)) (updO vb c (some s)) := by
  intro c' s' hc' hv
  by_cases hcc : c' = c
  · subst hcc
    rw [show updO vb c' (some s) c' = some s from if_pos rfl] at hv
    cases hv
    refine ⟨fun t ht => ?_, fun e he hs => ?_⟩
    · rw [leftN_bit]
      unfold setG setGk
      rw [if_pos rfl, clr_bit, Nat.testBit_two_pow, decide_eq_false (fun e => ht e.symm)]
      cases (cb c').testBit t <;> rfl
    · rw [leftN_bit]
      unfold setG setGk
      rw [if_neg (fun e9 => seeN_ne hs e9.symm), if_pos ⟨he, hs⟩, Nat.testBit_and, Nat.testBit_two_pow, decide_eq_true rfl]
      cases (cb e).testBit s <;> rfl
  · rw [show updO vb c (some s) c' = vb c' from if_neg hcc] at hv
    exact stOK_left hS _ c' s' hc' hv
theorem stOK_r {n w h : Nat} {cb : Nat → Nat} {vb : Nat → Option Nat} {r : rS} (hS : stOK n w h cb vb) (hr : okR cb vb n w h r) : stOK n w h (leftN cb r.2.1) (setV vb r.1) := by
  obtain ⟨r1, go, rs⟩ := r
  cases r1 with
  | none => exact stOK_left hS _
  | some cs =>
    obtain ⟨c, s⟩ := cs
    obtain ⟨h1, h2, h3, h4, h5, h6, h7, h8⟩ := hr
    have h8 : go = setG cb n w h c s := h8
    subst h8
    exact stOK_set hS h4
theorem vbB_r {n w h : Nat} {cb : Nat → Nat} {vb : Nat → Option Nat} {r : rS} (hV : vbB vb n) (hr : okR cb vb n w h r) : vbB (setV vb r.1) n := by
  obtain ⟨r1, go, rs⟩ := r
  cases r1 with
  | none => exact hV
  | some cs =>
    obtain ⟨c, s⟩ := cs
    obtain ⟨h1, h2, h3, h4, h5, h6, h7, h8⟩ := hr
    intro c' hc' s' hs'
    have hs' : (if c' = c then some s else vb c') = some s' := hs'
    split at hs'
    · cases hs'; exact h5
    · exact hV c' hc' s' hs'
theorem inv_act {n w h : Nat} {s : pS} {k : Nat} {r : rS} (hI : inv n w h s) (hk : k < 19) (hr : okR s.cb s.vb n w h r) : inv n w h (actP s k r) := by
  obtain ⟨i1, i2, i3, i4, i5, i6⟩ := hI
  exact ⟨i1, cbB_left i2, vbB_r i3 hr, stOK_r i4 hr, ⟨hr, hk, i2, i3, i4, rfl, rfl, i5⟩, fun _ _ e => by cases e⟩
theorem inv_noF {n w h : Nat} {s : pS} (hI : inv n w h s) : inv n w h (noF s) := ⟨hI.1, hI.2.1, hI.2.2.1, hI.2.2.2.1, hI.2.2.2.2.1, fun _ _ e => by cases e⟩
theorem fdP_ok {n w h : Nat} {s : pS} (hI : inv n w h s) {k : Nat} {r : rS} (he : fdP n w h s = some (k, r)) : ¬ brk s.cb n w h ∧ k < 19 ∧ okR s.cb s.vb n w h r := by
  unfold fdP at he
  split at he
  · cases he
  · rename_i hb
    have := ok_sea hI.1 hI.2.1 he
    exact ⟨hb, this.1, this.2.2⟩
theorem inv_find {n w h : Nat} {s : pS} (hI : inv n w h s) : inv n w h (findP n w h s) := ⟨hI.1, hI.2.1, hI.2.2.1, hI.2.2.2.1, hI.2.2.2.2.1, fun _ _ e => (fdP_ok hI e).2⟩
theorem inv_en {n w h : Nat} {s : pS} (hI : inv n w h s) (k : Nat) (b : Bool) : inv n w h (enP s k b) := ⟨hI.1, hI.2.1, hI.2.2.1, hI.2.2.2.1, hI.2.2.2.2.1, fun _ _ e => by cases e⟩
theorem inv_put {n w h : Nat} {s : pS} (hI : inv n w h s) {c y : Nat} (hc : c < n * n) (hy : y < n) : inv n w h (putP n w h s c y) := by
  obtain ⟨i1, i2, i3, i4, i5, i6⟩ := hI
  refine ⟨i1, cbB_left i2, fun c' hc' s' hs' => ?_, stOK_set i4 hc, trivial, fun _ _ e => by cases e⟩
  have hs' : (if c' = c then some y else s.vb c') = some s' := hs'
  split at hs'
  · cases hs'; exact hy
  · exact i3 c' hc' s' hs'
theorem updN_left (cb : Nat → Nat) (c m : Nat) : updN cb c (clr (cb c) m) = leftN cb (fun e => if e = c then m else 0) := by
  funext e
  unfold updN leftN
  by_cases he : e = c
  · subst he; rw [if_pos rfl]; show clr (cb e) m = clr (cb e) (if e = e then m else 0); rw [if_pos rfl]
  · rw [if_neg he]; show cb e = clr (cb e) (if e = c then m else 0); rw [if_neg he]
    apply Nat.eq_of_testBit_eq
    intro i
    rw [clr_bit, Nat.zero_testBit]
    cases (cb e).testBit i <;> rfl
theorem inv_take {n w h : Nat} {s : pS} (hI : inv n w h s) (c y : Nat) : inv n w h (takeP s c y) := by
  obtain ⟨i1, i2, i3, i4, i5, i6⟩ := hI
  refine ⟨i1, ?_, i3, ?_, trivial, fun _ _ e => by cases e⟩
  · show cbB (updN s.cb c (clr (s.cb c) (2 ^ y))) n
    rw [updN_left]; exact cbB_left i2
  · show stOK n w h (updN s.cb c (clr (s.cb c) (2 ^ y))) s.vb
    rw [updN_left]; exact stOK_left i4 _
theorem inv_undo {n w h : Nat} {s : pS} (hI : inv n w h s) : inv n w h (undoP s) := by
  obtain ⟨cb, vb, off, dn, fd, hs⟩ := s
  cases hs with
  | nil => exact hI
  | cons a t =>
    obtain ⟨cb0, vb0, k, r⟩ := a
    obtain ⟨i1, i2, i3, i4, i5, i6⟩ := hI
    obtain ⟨c1, c2, c3, c4, c5, c6, c7, c8⟩ := i5
    exact ⟨i1, c3, c4, c5, c8, fun _ _ e => by cases e⟩
theorem inv_sol {n w h : Nat} : ∀ (m : Nat) {s : pS}, inv n w h s → inv n w h (solP n w h m s).2
  | 0, s, hI => inv_noF hI
  | m + 1, s, hI => by
    unfold solP
    split
    · exact inv_noF hI
    · rename_i k r he
      have := fdP_ok hI he
      exact inv_sol m (inv_act hI this.2.1 this.2.2)
/-- a step takes something, or sets a cell -/
theorem mu_r {n w h : Nat} {cb : Nat → Nat} {vb : Nat → Option Nat} {r : rS} (k : KD n w h) (hC : cbB cb n) (hr : okR cb vb n w h r) : gcN (leftN cb r.2.1) (n * n) + openN (setV vb r.1) (n * n) + 1 ≤ gcN cb (n * n) + openN vb (n * n) := by
  obtain ⟨g1, g2, g3, g4, g5, g6, g7, g8⟩ := k.le
  have hl := gcN_left hr.1 (n * n)
  obtain ⟨r1, go, rs⟩ := r
  cases r1 with
  | none =>
    obtain ⟨h1, h2, h3, h4⟩ := hr
    obtain ⟨c, hc, hne⟩ := anyG_t.mp h4
    have hcn : c < n * n := Nat.lt_of_not_le fun h9 => hne (h2 c h9)
    have hp := pcN_pos (go c) (Nat.lt_of_le_of_lt (sub_le (h1 c)) (hC.lt g2 hcn)) hne
    have := gcN_ge (go := go) hcn
    show gcN (leftN cb go) (n * n) + openN vb (n * n) + 1 ≤ _
    have hl : gcN (leftN cb go) (n * n) + gcN go (n * n) = gcN cb (n * n) := hl
    omega
  | some cs =>
    obtain ⟨c, s⟩ := cs
    obtain ⟨h1, h2, h3, h4, h5, h6, h7, h8⟩ := hr
    have := openN_set (s := s) h6 h4
    show gcN (leftN cb go) (n * n) + openN (updO vb c (some s)) (n * n) + 1 ≤ _
    have hl : gcN (leftN cb go) (n * n) + gcN go (n * n) = gcN cb (n * n) := hl
    omega
theorem chn_mu {n w h : Nat} (k : KD n w h) : ∀ (hs : List ((Nat → Nat) × (Nat → Option Nat) × Nat × rS)) {cb : Nat → Nat} {vb : Nat → Option Nat}, cbB cb n → chn n w h cb vb hs → hs.length + gcN cb (n * n) + openN vb (n * n) ≤ n * (n * n) + n * n
  | [], cb, vb, hC, _ => by
    have h1 := gcN_le_n hC (n * n) (Nat.le_refl _)
    have h2 := openN_le vb (n * n)
    show 0 + _ + _ ≤ _
    omega
  | (cb0, vb0, k0, r) :: t, cb, vb, hC, hc => by
    obtain ⟨c1, c2, c3, c4, c5, c6, c7, c8⟩ := hc
    have ih := chn_mu k t c3 c8
    have hm := mu_r k c3 c1
    rw [c6, c7]
    show t.length + 1 + _ + _ ≤ _
    omega
/-- how many candidates the steps took -/
def szH (n : Nat) : List ((Nat → Nat) × (Nat → Option Nat) × Nat × rS) → Nat
  | [] => 0
  | (_, _, _, r) :: t => szH n t + gcN r.2.1 (n * n)
theorem chn_sz {n w h : Nat} : ∀ (hs : List ((Nat → Nat) × (Nat → Option Nat) × Nat × rS)) {cb : Nat → Nat} {vb : Nat → Option Nat}, cbB cb n → chn n w h cb vb hs → szH n hs + gcN cb (n * n) ≤ n * (n * n)
  | [], cb, vb, hC, _ => by
    have h1 := gcN_le_n hC (n * n) (Nat.le_refl _)
    show 0 + _ ≤ _
    omega
  | (cb0, vb0, k0, r) :: t, cb, vb, hC, hc => by
    obtain ⟨c1, c2, c3, c4, c5, c6, c7, c8⟩ := hc
    have ih := chn_sz t c3 c8
    have hl := gcN_left c1.1 (n * n)
    rw [c6]
    show szH n t + gcN r.2.1 (n * n) + _ ≤ _
    omega
theorem KD.cube {n w h : Nat} (k : KD n w h) : n * (n * n) + n * n ≤ 810 := by
  rcases k with ⟨rfl, rfl, rfl⟩ | ⟨rfl, rfl, rfl⟩ | ⟨rfl, rfl, rfl⟩ <;> decide
theorem inv_len {n w h : Nat} {s : pS} (hI : inv n w h s) : s.hs.length + gcN s.cb (n * n) + openN s.vb (n * n) ≤ n * (n * n) + n * n := chn_mu hI.1 s.hs hI.2.1 hI.2.2.2.2.1
theorem inv_d {n w h : Nat} {s : pS} (hI : inv n w h s) : s.hs.length < 820 := by have h1 := inv_len hI; have h2 := hI.1.cube; omega
