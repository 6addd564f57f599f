/-! ===== the class: colours, links and colouring ===== -/
theorem lkN_sym (cb : Nat → Nat) (n w h s a b : Nat) : lkN cb n w h s a b = lkN cb n w h s b a := by
  have hs : seeN n w h a b = seeN n w h b a := by
    unfold seeN
    have e1 : (a != b) = (b != a) := by rw [Bool.eq_iff_iff, bne_iff_ne, bne_iff_ne]; exact ⟨fun h e => h e.symm, fun h e => h e.symm⟩
    have e2 : ∀ x y : Nat, (x == y) = (y == x) := fun x y => by rw [Bool.eq_iff_iff, beq_iff_eq, beq_iff_eq]; exact eq_comm
    rw [e1, e2 (a / n), e2 (a % n), e2 (boxN n w h a)]
  unfold lkN
  rw [hs, Bool.and_comm ((cb a).testBit s)]
  congr 2
  funext g
  rw [Bool.and_comm (inN n w h g a)]
section RC2
variable {lk : Nat → Nat → Bool} {N : Nat}
theorem Rch.trans {a b c : Nat} {x y : Bool} (h1 : Rch lk N a b x) (h2 : Rch lk N b c y) : Rch lk N a c (x == y) := by
  refine h2.ind (S := fun c y => Rch lk N a c (x == y)) (by cases x <;> exact h1) (fun p q z _ hz hq hl => ?_)
  have := hz.step hq hl
  cases x <;> cases z <;> exact this
theorem Rch.sym {a b : Nat} {x : Bool} (hs : ∀ p q, lk p q = lk q p) (ha : a < N) (h : Rch lk N a b x) : Rch lk N b a x := by
  refine h.ind (S := fun b x => Rch lk N b a x) Rch.base (fun p q y hp hz hq hl => ?_)
  have h1 : Rch lk N q p false := Rch.base.step (hp.lt ha) (by rw [hs]; exact hl)
  have := h1.trans hz
  cases y <;> exact this
/-- one cluster or two -/
theorem rc_two {fr : Nat} (hf : fr < N) (hirr : ∀ a, lk a a = false) : 2 ≤ rcN (rcB lk N fr true) N + rcN (rcB lk N fr false) N ↔ 2 ≤ rcN (fun c => rcB lk N fr true c || rcB lk N fr false c) N := by
  have hle : ∀ (p q : Nat → Bool) k, rcN (fun c => p c || q c) k ≤ rcN p k + rcN q k := by
    intro p q k
    induction k with
    | zero => exact Nat.le_refl _
    | succ k ih =>
      show rcN (fun c => p c || q c) k + (if (p k || q k) then 1 else 0) ≤ rcN p k + (if p k then 1 else 0) + (rcN q k + (if q k then 1 else 0))
      cases p k <;> cases q k <;> simp <;> omega
  constructor
  · intro h2
    refine Decidable.of_not_not fun h9 => ?_
    have hone : ∀ c x, Rch lk N fr c x → c = fr := by
      intro c x hr
      refine Decidable.of_not_not fun hne => ?_
      have hc := hr.lt hf
      have jc : (rcB lk N fr true c || rcB lk N fr false c) = true := by
        cases x with
        | true => rw [rcB_t.mpr hr]; rfl
        | false => rw [rcB_t.mpr hr]; exact Bool.or_true _
      have jf : (rcB lk N fr true fr || rcB lk N fr false fr) = true := by rw [rcB_t.mpr (Rch.base (lk := lk) (N := N) (fr := fr))]; rfl
      have : 2 ≤ rcN (fun c => rcB lk N fr true c || rcB lk N fr false c) N := by
        rcases Nat.lt_or_gt_of_ne hne with h7 | h7
        · have a1 := rcN_st (rs := fun c => rcB lk N fr true c || rcB lk N fr false c) jc h7
          have a2 := rcN_st (rs := fun c => rcB lk N fr true c || rcB lk N fr false c) jf hf
          omega
        · have a1 := rcN_st (rs := fun c => rcB lk N fr true c || rcB lk N fr false c) jf h7
          have a2 := rcN_st (rs := fun c => rcB lk N fr true c || rcB lk N fr false c) jc hc
          omega
      exact h9 this
    have hlt : ∀ c x, Rch lk N fr c x → c = fr ∧ x = true := by
      intro c x hr
      refine hr.ind (S := fun c x => c = fr ∧ x = true) ⟨rfl, rfl⟩ (fun p q y hp hz hq hl => ?_)
      exfalso
      have hq2 := hone q _ (hp.step hq hl)
      rw [hz.1, hq2, hirr] at hl
      cases hl
    have hd : ∀ k, rcN (rcB lk N fr false) k = 0 := by
      intro k
      induction k with
      | zero => rfl
      | succ k ih =>
        show rcN (rcB lk N fr false) k + (if rcB lk N fr false k then 1 else 0) = 0
        cases hb : rcB lk N fr false k with
        | false => rw [ih]; rfl
        | true => exact absurd (hlt k false (rcB_t.mp hb)).2 (by decide)
    have hl1 : rcN (rcB lk N fr true) N ≤ rcN (fun c => rcB lk N fr true c || rcB lk N fr false c) N := rcN_mono (fun c hc => by rw [hc]; rfl) N
    rw [hd N] at h2
    omega
  · intro h2
    have := hle (rcB lk N fr true) (rcB lk N fr false) N
    omega
end RC2
/-- the cell at the other end of a link in direction e -/
def lnk (cb : Nat → Nat) (n w h s c e : Nat) : Option Nat := if pcN (plB cb n w h (hoN n w h c e) s n) = 2 then (if atN n w h (hoN n w h c e) (lowN (plB cb n w h (hoN n w h c e) s n)) = c then some (atN n w h (hoN n w h c e) (lowN (dl (plB cb n w h (hoN n w h c e) s n) 1))) else some (atN n w h (hoN n w h c e) (lowN (plB cb n w h (hoN n w h c e) s n)))) else none
theorem two_only {b : Nat} (hb : b < 512) (h2 : pcN b = 2) : ∀ t, b.testBit t = true → t = lowN b ∨ t = lowN (dl b 1) := by
  have key : ∀ b, b < 512 → pcN b = 2 → ∀ t, t < 9 → b.testBit t = true → t = lowN b ∨ t = lowN (dl b 1) := by decide +kernel
  exact fun t ht => key b hb h2 t (tb_lt (n := 9) ht hb) ht
theorem lnk_t {cb : Nat → Nat} {n w h s c b : Nat} (k : KD n w h) (hc : c < n * n) (hbc : (cb c).testBit s = true) : (b < n * n ∧ lkN cb n w h s c b = true) ↔ ∃ e, e < 3 ∧ lnk cb n w h s c e = some b := by
  obtain ⟨g1, g2, g3, g4, g5, g6, g7, g8⟩ := k.le
  have facts : ∀ e, e < 3 → pcN (plB cb n w h (hoN n w h c e) s n) = 2 → (∃ b', lnk cb n w h s c e = some b' ∧ b' < n * n ∧ b' ≠ c ∧ (cb b').testBit s = true ∧ hoN n w h b' e = hoN n w h c e) ∧ ∀ b', b' < n * n → b' ≠ c → (cb b').testBit s = true → hoN n w h b' e = hoN n w h c e → lnk cb n w h s c e = some b' := by
    intro e he h2
    obtain ⟨q1, q2, q3, q4⟩ := geo k hc he
    have h512 := plB_9 cb w h (hoN n w h c e) s g2
    obtain ⟨a1, a2, a3, a4⟩ := nth_ok _ h512 0 (by omega)
    obtain ⟨b1, b2, b3, b4⟩ := nth_ok _ h512 1 (by omega)
    have a1 : (plB cb n w h (hoN n w h c e) s n).testBit (lowN (plB cb n w h (hoN n w h c e) s n)) = true := a1
    have a2 : pcA (plB cb n w h (hoN n w h c e) s n) (lowN (plB cb n w h (hoN n w h c e) s n)) = 0 := a2
    have hne : lowN (plB cb n w h (hoN n w h c e) s n) ≠ lowN (dl (plB cb n w h (hoN n w h c e) s n) 1) := fun e9 => by rw [e9, b2] at a2; cases a2
    have l1 := tb_lt a1 (plB_lt cb n w h (hoN n w h c e) s n)
    have l2 := tb_lt b1 (plB_lt cb n w h (hoN n w h c e) s n)
    have t1 := a1
    have t2 := b1
    rw [plB_bit, Bool.and_eq_true] at t1 t2
    have ho1 := (gat k q2 l1).1
    have ho2 := (gat k q2 l2).1
    rw [q1] at ho1 ho2
    have hpc : (plB cb n w h (hoN n w h c e) s n).testBit (poN n w h c e) = true := by rw [plB_bit, decide_eq_true q3, Bool.true_and, q4]; exact hbc
    have hwhich := two_only h512 h2 _ hpc
    have hcl : atN n w h (hoN n w h c e) (lowN (plB cb n w h (hoN n w h c e) s n)) = c ↔ poN n w h c e = lowN (plB cb n w h (hoN n w h c e) s n) := by
      constructor
      · intro e9
        have := (gat k q2 l1).2.1
        rw [q1, e9] at this
        exact this
      · intro e9
        rw [← e9]; exact q4
    constructor
    · unfold lnk
      rw [if_pos h2]
      by_cases h9 : atN n w h (hoN n w h c e) (lowN (plB cb n w h (hoN n w h c e) s n)) = c
      · rw [if_pos h9]
        refine ⟨_, rfl, atN_lt k q2 l2, fun e9 => ?_, t2.2, ho2⟩
        exact hne (at_inj k q2 l1 l2 (h9.trans e9.symm))
      · rw [if_neg h9]
        exact ⟨_, rfl, atN_lt k q2 l1, h9, t1.2, ho1⟩
    · intro b' hb' hb2 hb3 hb4
      have hpb : (plB cb n w h (hoN n w h c e) s n).testBit (poN n w h b' e) = true := by
        obtain ⟨r1, r2, r3, r4⟩ := geo k hb' he
        rw [plB_bit, decide_eq_true r3, Bool.true_and, ← hb4, r4]; exact hb3
      have hatb : atN n w h (hoN n w h c e) (poN n w h b' e) = b' := by rw [← hb4]; exact (geo k hb' he).2.2.2
      have hwb := two_only h512 h2 _ hpb
      unfold lnk
      rw [if_pos h2]
      by_cases h9 : atN n w h (hoN n w h c e) (lowN (plB cb n w h (hoN n w h c e) s n)) = c
      · rw [if_pos h9]
        rcases hwb with h7 | h7
        · rw [h7, h9] at hatb
          exact absurd hatb.symm hb2
        · rw [← h7, hatb]
      · rw [if_neg h9]
        rcases hwb with h7 | h7
        · rw [← h7, hatb]
        · exfalso
          rcases hwhich with h6 | h6
          · exact h9 (hcl.mpr h6)
          · rw [h7, ← h6, q4] at hatb
            exact hb2 hatb.symm
  constructor
  · rintro ⟨hb, hl⟩
    unfold lkN at hl
    rw [Bool.and_eq_true, Bool.and_eq_true, Bool.and_eq_true, List.any_eq_true] at hl
    obtain ⟨⟨⟨_, hbb⟩, hse⟩, g, hg, hin⟩ := hl
    rw [List.mem_range] at hg
    rw [Bool.and_eq_true, Bool.and_eq_true, beq_iff_eq] at hin
    have hge : g / n < 3 := (gat k hg (show 0 < n by omega)).2.2
    have hgr : g / n * n ≤ g ∧ g < g / n * n + n := by
      have := Nat.div_add_mod g n
      have hm := Nat.mod_lt g (show 0 < n by omega)
      rw [Nat.mul_comm] at this
      omega
    have i1 := hin.1.1
    have i2 := hin.1.2
    rw [inN_kd k hge hgr.1 hgr.2 hc, beq_iff_eq] at i1
    rw [inN_kd k hge hgr.1 hgr.2 hb, beq_iff_eq] at i2
    refine ⟨g / n, hge, (facts _ hge (by rw [i1]; exact hin.2)).2 b hb (fun e => seeN_ne hse e.symm) hbb (i2.trans i1.symm)⟩
  · rintro ⟨e, he, hl⟩
    have h2 : pcN (plB cb n w h (hoN n w h c e) s n) = 2 := Decidable.of_not_not fun h9 => by unfold lnk at hl; rw [if_neg h9] at hl; cases hl
    obtain ⟨b', hb1, hb2, hb3, hb4, hb5⟩ := (facts e he h2).1
    rw [hl] at hb1
    cases hb1
    refine ⟨hb2, ?_⟩
    have hho := (geo k hc he).2.1
    have hdv := (geo k hc he).1
    obtain ⟨r1, r2⟩ := ho_rng k hc he
    unfold lkN
    rw [hbc, hb4, Bool.true_and, Bool.true_and, Bool.and_eq_true, List.any_eq_true]
    constructor
    · rw [seeN_ho, bne_iff_ne.mpr (fun e9 => hb3 e9.symm), Bool.true_and]
      rcases (show e = 0 ∨ e = 1 ∨ e = 2 by omega) with h9 | h9 | h9 <;> subst h9 <;> rw [hb5] <;> simp
    · refine ⟨hoN n w h c e, List.mem_range.mpr hho, ?_⟩
      rw [inN_kd k he r1 r2 hc, inN_kd k he r1 r2 hb2, hb5, h2]
      simp
/-- marks: light, dark, left behind -/
def mv (p q r : Bool) : Nat := (if p then 1 else 0) ||| (if q then 2 else 0) ||| (if r then 4 else 0)
theorem mv_b : ∀ p q r : Bool, (nI (mv p q r) >>> (nI 0 &&& 31)) &&& Int32.ofInt 1 = bI p ∧ (nI (mv p q r) >>> (nI 1 &&& 31)) &&& Int32.ofInt 1 = bI q ∧ nI (mv p q r) ||| (Int32.ofInt 1 <<< (nI 0 &&& 31)) = nI (mv true q r) ∧ nI (mv p q r) ||| (Int32.ofInt 1 <<< (nI 1 &&& 31)) = nI (mv p true r) := by decide
def cN (x : Bool) : Nat := if x then 0 else 1
def xc (lt dk : Nat → Bool) (x : Bool) : Nat → Bool := if x then lt else dk
def mrC (cs : x_S) (n : Nat) (lt dk lf : Nat → Bool) : Prop := ∀ c, c < n * n → cs.2 16 c = nI (mv (lt c) (dk c) (lf c))
def joC (cs : x_S) (n m : Nat) (J : Nat → Nat) (lt dk : Nat → Bool) : Prop := cs.1 5 = nI m ∧ m = rcN lt (n * n) + rcN dk (n * n) ∧ (∀ i, i < m → cs.2 17 i = nI (J i) ∧ J i / 2 < n * n ∧ xc lt dk (J i % 2 == 0) (J i / 2) = true) ∧ ∀ c x, c < n * n → xc lt dk x c = true → ∃ i, i < m ∧ J i = 2 * c + cN x
/-- the colouring's frame -/
def frJ (cs cs' : x_S) : Prop := (∀ k, k ≠ 5 → cs'.1 k = cs.1 k) ∧ ∀ p, p ≠ 16 → p ≠ 17 → cs'.2 p = cs.2 p
theorem frJ.rf (cs : x_S) : frJ cs cs := ⟨fun _ _ => rfl, fun _ _ _ => rfl⟩
theorem frJ.tr {a b c : x_S} (h1 : frJ a b) (h2 : frJ b c) : frJ a c := ⟨fun k x => (h2.1 k x).trans (h1.1 k x), fun p x y => (h2.2 p x y).trans (h1.2 p x y)⟩
theorem frJ.sc {a b : x_S} (h : frJ a b) : scC a b := ⟨fun k _ _ _ _ x => h.1 k x, fun p _ _ x y _ => h.2 p x y⟩
theorem frJ.z {a b : x_S} {n : Nat} (h : frJ a b) (hz : zC a n) : zC b n := by
  obtain ⟨z1, z2, z3, z4⟩ := hz
  refine ⟨(h.1 1 (by decide)).trans z1, (h.1 2 (by decide)).trans z2, ⟨fun c hc => ?_, (h.1 3 (by decide)).trans z3.2⟩, (h.1 4 (by decide)).trans z4.1, fun j c e => ?_⟩
  · rw [h.2 10 (by decide) (by decide)]; exact z3.1 c hc
  · rw [h.2 11 (by decide) (by decide)]; exact z4.2 j c e
theorem xc_s (lt dk : Nat → Bool) (x y : Bool) (b c : Nat) : xc (if x then updB lt b true else lt) (if x then dk else updB dk b true) y c = if y = x ∧ c = b then true else xc lt dk y c := by
  cases x <;> cases y <;> simp [xc, updB]
theorem sh_half {a : Nat} (ha : a < 2 ^ 31) : nI a >>> (Int32.ofInt 1 &&& 31) = nI (a / 2) := by
  rw [oi1, nI_shr ha (by decide)]
theorem and_one (a : Nat) : nI a &&& Int32.ofInt 1 = nI (a % 2) := by rw [oi1, nx_and, Nat.and_one_is_mod]
section K9
variable {sc : Nat × (Nat → Int32)} {cs : x_S} {tl : List x_C} {bb : Nat × Nat} {n w h d : Nat} {Q : x_O → x_H → Prop} {cb : Nat → Nat} {vb : Nat → Option Nat} {lt dk lf : Nat → Bool} {m : Nat} {J : Nat → Nat}
theorem c_colour (k : KD n w h) (hJ : joC cs n m J lt dk) (hK : mrC cs n lt dk lf) {b : Nat} (hb : b < n * n) {x : Bool} {y z : Int32} (hy : y = nI b) (hz : z = nI (cN x)) (hQ : ∀ cs' m' J', frJ cs cs' → joC cs' n m' J' (if x then updB lt b true else lt) (if x then dk else updB dk b true) → mrC cs' n (if x then updB lt b true else lt) (if x then dk else updB dk b true) lf → m ≤ m' → (∀ j, j < m → J' j = J j) → Q (.inl none) (w_C n cs' tl bb)) : x_run sc x_MM x_EX (d + 1) k_X0_colour [.ref 15, .int y, .int z] (w_C n cs tl bb) Q := by
  subst hy; subst hz
  obtain ⟨g1, g2, g3, g4, g5, g6, g7, g8⟩ := k.le
  obtain ⟨j1, j2, j3, j4⟩ := hJ
  have hr1 := rcN_le lt (n * n)
  have hr2 := rcN_le dk (n * n)
  have hmb := hK b hb
  obtain ⟨v1, v2, v3, v4⟩ := mv_b (lt b) (dk b) (lf b)
  have hbit : (nI (mv (lt b) (dk b) (lf b)) >>> (nI (cN x) &&& 31)) &&& Int32.ofInt 1 = bI (xc lt dk x b) := by cases x; exact v2; exact v1
  refine x_in (M := m_X0_colour) rfl rfl (Nat.le_of_ble_eq_true rfl) ⟨rfl, rfl, rfl, trivial⟩ ?_
  intro P hP
  have same : xc lt dk x b = true → P 61 [some (.ref 15), some (.int (nI b)), some (.int (nI (cN x)))] [] (w_C n cs tl bb) := by
    intro hx
    have e1 : (if x then updB lt b true else lt) = lt := by
      cases x with
      | true => exact updB_same hx
      | false => rfl
    have e2 : (if x then dk else updB dk b true) = dk := by
      cases x with
      | true => rfl
      | false => exact updB_same hx
    rw [e1, e2] at hQ
    repeat refine hP _ _ _ _ ?_
    exact hQ cs m J (frJ.rf cs) ⟨j1, j2, j3, j4⟩ hK (Nat.le_refl _) (fun _ _ => rfl)
  repeat refine hP _ _ _ _ ?_
  refine And.intro (vp_in_nI hb (by omega)) ?_
  rw [ldv (f := cs.2 16) hmb (by omega)]
  repeat refine hP _ _ _ _ ?_
  refine b_ifne (fun hx => ?_) (fun hx => ?_) (hbit)
  · exact same hx
  · have hm1 : m + 1 = rcN (if x then updB lt b true else lt) (n * n) + rcN (if x then dk else updB dk b true) (n * n) := by
      cases x with
      | true =>
        show m + 1 = rcN (updB lt b true) (n * n) + rcN dk (n * n)
        rw [rcN_hi (rs := lt) hx hb]; omega
      | false =>
        show m + 1 = rcN lt (n * n) + rcN (updB dk b true) (n * n)
        rw [rcN_hi (rs := dk) hx hb]; omega
    have hr3 := rcN_le (if x then updB lt b true else lt) (n * n)
    have hr4 := rcN_le (if x then dk else updB dk b true) (n * n)
    repeat refine hP _ _ _ _ ?_
    refine b_ge (m) (2 * (n * n)) (fun h9 => ?_) (fun h9 => ?_) (j1) (rfl) (by omega) (by omega)
    · omega
    · repeat refine hP _ _ _ _ ?_
      refine And.intro (vp_in_nI hb (by omega)) ?_
      rw [ldv (f := cs.2 16) hmb (by omega)]
      repeat refine hP _ _ _ _ ?_
      refine And.intro (vp_in_nI hb (by omega)) ?_
      rw [upv (f := cs.2 16) (by omega)]
      repeat refine hP _ _ _ _ ?_
      refine And.intro (vpx j1 h9 (by omega)) ?_
      rw [upx (f := cs.2 17) j1 (by omega)]
      repeat refine hP _ _ _ _ ?_
      have e2 : Int32.ofInt 2 * nI b + nI (cN x) = nI (2 * b + cN x) := by rw [oi2, ix]
      have e3 : nI (mv (lt b) (dk b) (lf b)) ||| (Int32.ofInt 1 <<< (nI (cN x) &&& 31)) = nI (mv ((if x then updB lt b true else lt) b) ((if x then dk else updB dk b true) b) (lf b)) := by
        cases x with
        | true => show _ = nI (mv (updB lt b true b) (dk b) (lf b)); rw [updB_s]; exact v3
        | false => show _ = nI (mv (lt b) (updB dk b true b) (lf b)); rw [updB_s]; exact v4
      refine x_q2 (hQ (sF (sA (sA cs 16 (upd (cs.2 16) b (nI (mv (lt b) (dk b) (lf b)) ||| (Int32.ofInt 1 <<< (nI (cN x) &&& 31))))) 17 (upd (cs.2 17) m (Int32.ofInt 2 * nI b + nI (cN x)))) 5 (cs.1 5 + Int32.ofInt 1)) (m + 1) (fun j => if j = m then 2 * b + cN x else J j) ⟨fun k9 hk9 => ?_, fun p9 h16 h17 => ?_⟩ ⟨?_, hm1, fun i hi => ?_, fun c y hc hy => ?_⟩ (fun c hc => ?_) (by omega) (fun j hj => if_neg (by omega))) rfl
      · show upd cs.1 5 _ k9 = _
        rw [pk_un hk9]
      · show (if p9 = 17 then _ else if p9 = 16 then _ else cs.2 p9) = _
        rw [if_neg h17, if_neg h16]
      · show cs.1 5 + Int32.ofInt 1 = nI (m + 1)
        rw [j1, oi1, nI_add]
      · show upd (cs.2 17) m (Int32.ofInt 2 * nI b + nI (cN x)) i = nI (if i = m then 2 * b + cN x else J i) ∧ (if i = m then 2 * b + cN x else J i) / 2 < n * n ∧ xc _ _ ((if i = m then 2 * b + cN x else J i) % 2 == 0) ((if i = m then 2 * b + cN x else J i) / 2) = true
        by_cases him : i = m
        · rw [if_pos him, him, pk_us, e2]
          have q1 : (2 * b + cN x) / 2 = b := by cases x <;> simp [cN] <;> omega
          have q2 : ((2 * b + cN x) % 2 == 0) = x := by cases x <;> simp [cN] <;> omega
          rw [q1, q2, xc_s, if_pos ⟨rfl, rfl⟩]
          exact ⟨rfl, hb, rfl⟩
        · rw [if_neg him, pk_un him, xc_s]
          obtain ⟨i1, i2, i3⟩ := j3 i (by omega)
          refine ⟨i1, i2, ?_⟩
          split
          · rfl
          · exact i3
      · rw [xc_s] at hy
        by_cases hh : y = x ∧ c = b
        · exact ⟨m, by omega, by show (if m = m then 2 * b + cN x else J m) = _; rw [if_pos rfl, hh.1, hh.2]⟩
        · rw [if_neg hh] at hy
          obtain ⟨i, hi, e⟩ := j4 c y hc hy
          exact ⟨i, by omega, by show (if i = m then 2 * b + cN x else J i) = _; rw [if_neg (by omega)]; exact e⟩
      · show upd (cs.2 16) b _ c = _
        by_cases hcb : c = b
        · subst hcb
          rw [pk_us, e3]
        · rw [pk_un hcb]
          have := hK c hc
          cases x with
          | true => show cs.2 16 c = nI (mv (updB lt b true c) (dk c) (lf c)); rw [updB_n hcb]; exact this
          | false => show cs.2 16 c = nI (mv (lt c) (updB dk b true c) (lf c)); rw [updB_n hcb]; exact this
theorem c_linkedCell (hB : bC cs n w h cb vb) {s c e : Nat} (hs : s < n) (hc : c < n * n) (he : e < 3) {y : Int32} (hy : y = nI c) (hQ : Q (.inl (some (.int (vI (lnk cb n w h s c e))))) (w_C n cs tl bb)) : x_run sc x_MM x_EX (d + 2) k_X0_linkedCell [.ref 15, .ref 2, .int (nI s), .int y, .int (nI e)] (w_C n cs tl bb) Q := by
  subst hy
  obtain ⟨hG, hC, hV, hP9, hE⟩ := hB
  have hk := hG.1
  obtain ⟨g1, g2, g3, g4, g5, g6, g7, g8⟩ := hk.le
  obtain ⟨q1, q2, q3, q4⟩ := geo hk hc he
  have h512 := plB_9 cb w h (hoN n w h c e) s g2
  have hp9 : pcN (plB cb n w h (hoN n w h c e) s n) ≤ 9 := pcA_le _ 9
  refine x_in (M := m_X0_linkedCell) rfl rfl (Nat.le_of_ble_eq_true rfl) ⟨rfl, rfl, rfl, rfl, rfl, trivial⟩ ?_
  intro P hP
  repeat refine hP _ _ _ _ ?_
  refine c_house hG hc he rfl rfl ?_
  repeat refine hP _ _ _ _ ?_
  refine c_places hG hP9 q2 hs rfl rfl ?_
  repeat refine hP _ _ _ _ ?_
  refine c_bitCount h512 rfl ?_
  repeat refine hP _ _ _ _ ?_
  unfold lnk at hQ
  refine b_eq (pcN (plB cb n w h (hoN n w h c e) s n)) (2) (fun h2 => ?_) (fun h2 => ?_) (rfl) (oi2) (by omega) (by omega)
  · rw [if_pos h2] at hQ
    have hne : plB cb n w h (hoN n w h c e) s n ≠ 0 := fun e9 => by rw [e9, pcN_0] at h2; cases h2
    obtain ⟨l1, l2⟩ := plB_low hk hne
    obtain ⟨b1, b2, b3, b4⟩ := nth_ok _ h512 1 (by omega)
    have l3 := tb_lt b1 (plB_lt cb n w h (hoN n w h c e) s n)
    have hat := atN_lt hk q2 l1
    repeat refine hP _ _ _ _ ?_
    refine c_leastBit h512 hne rfl ?_
    repeat refine hP _ _ _ _ ?_
    refine c_cell hG q2 l1 rfl rfl ?_
    repeat refine hP _ _ _ _ ?_
    refine b_eq (atN n w h (hoN n w h c e) (lowN (plB cb n w h (hoN n w h c e) s n))) (c) (fun h3 => ?_) (fun h3 => ?_) (rfl) (rfl) (by omega) (by omega)
    · rw [if_pos h3] at hQ
      have e1 : nI (plB cb n w h (hoN n w h c e) s n) &&& (nI (plB cb n w h (hoN n w h c e) s n) - Int32.ofInt 1) = nI (dl (plB cb n w h (hoN n w h c e) s n) 1) := by
        obtain ⟨m, hm⟩ : ∃ m, plB cb n w h (hoN n w h c e) s n = m + 1 := ⟨plB cb n w h (hoN n w h c e) s n - 1, by omega⟩
        show _ = nI (plB cb n w h (hoN n w h c e) s n &&& (plB cb n w h (hoN n w h c e) s n - 1))
        rw [hm, show Int32.ofInt 1 = 1 from rfl, nI_pred, nx_and]
        rfl
      repeat refine hP _ _ _ _ ?_
      refine c_leastBit b4 b3 e1 ?_
      repeat refine hP _ _ _ _ ?_
      refine c_cell hG q2 l3 rfl rfl ?_
      repeat refine hP _ _ _ _ ?_
      exact hQ
    · rw [if_neg h3] at hQ
      repeat refine hP _ _ _ _ ?_
      exact hQ
  · rw [if_neg h2] at hQ
    repeat refine hP _ _ _ _ ?_
    exact hQ
end K9
