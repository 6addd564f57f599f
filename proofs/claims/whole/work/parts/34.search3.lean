/-! ===== the model: steps 4 and 5 ===== -/
/-- the places of s among the first k cells of house g all lie in house q -/
def comB (cb : Nat → Nat) (n w h g s q k : Nat) : Bool := (List.range k).all fun i => !(cb (atN n w h g i)).testBit s || inN n w h q (atN n w h g i)
theorem comB_s (cb : Nat → Nat) (n w h g s q k : Nat) : comB cb n w h g s q (k + 1) = (comB cb n w h g s q k && (!(cb (atN n w h g k)).testBit s || inN n w h q (atN n w h g k))) := by
  unfold comB
  rw [List.range_succ, List.all_append]
  simp
def comS (cb : Nat → Nat) (n w h g s kd : Nat) : Option Nat := ff (fun q => if comB cb n w h g s q n then some q else none) n (kd * n)
def crG (cb : Nat → Nat) (n w h g q s k : Nat) : Nat → Nat := fun e => if ((List.range k).any fun i => atN n w h q i == e) && !inN n w h g e then cb e &&& 2 ^ s else 0
def crR (cb : Nat → Nat) (n w h g s k : Nat) : Nat → Bool := fun e => ((List.range k).any fun i => atN n w h g i == e) && (cb e).testBit s
theorem any_s (p : Nat → Bool) (k : Nat) : (List.range (k + 1)).any p = ((List.range k).any p || p k) := by
  rw [List.range_succ, List.any_append]
  simp
/-- does something go -/
def anyG (go : Nat → Nat) : Bool := (List.range 81).any fun c => go c != 0
def crE (cb : Nat → Nat) (n w h g q s : Nat) : Option rS := if anyG (crG cb n w h g q s n) then some (none, crG cb n w h g q s n, crR cb n w h g s n) else none
def comP (cb : Nat → Nat) (n w h g s : Nat) : Option Nat := match comS cb n w h g s 0 with
  | some q => some q
  | none => comS cb n w h g s 1
def poE (cb : Nat → Nat) (n w h g s : Nat) : Option rS := if pcN (plB cb n w h g s n) < 2 then none else match comP cb n w h g s with
  | some q => crE cb n w h g q s
  | none => none
def poS (cb : Nat → Nat) (n w h : Nat) : Option rS := ff (fun g => ff (poE cb n w h g) n 0) n (2 * n)
def claE (cb : Nat → Nat) (n w h g s : Nat) : Option rS := if pcN (plB cb n w h g s n) < 2 then none else match comS cb n w h g s 2 with
  | some q => crE cb n w h g q s
  | none => none
def claS (cb : Nat → Nat) (n w h : Nat) : Option rS := ff (fun g => ff (claE cb n w h g) n 0) (2 * n) 0
theorem ff_lt {R : Type} {ev : Nat → Option R} : ∀ {j i : Nat} {r : R}, ff ev j i = some r → ∃ k, i ≤ k ∧ k < i + j ∧ ev k = some r
  | 0, _, _, h => by cases h
  | j + 1, i, r, h => by
    cases he : ev i with
    | some r2 => rw [ff_s he] at h; cases h; exact ⟨i, Nat.le_refl _, by omega, he⟩
    | none =>
      rw [ff_n he] at h
      obtain ⟨k, h1, h2, h3⟩ := ff_lt h
      exact ⟨k, by omega, by omega, h3⟩
theorem comS_lt {cb : Nat → Nat} {n w h g s kd q : Nat} (hq : comS cb n w h g s kd = some q) : kd * n ≤ q ∧ q < kd * n + n := by
  obtain ⟨k, h1, h2, h3⟩ := ff_lt hq
  have h4 : q = k := by
    by_cases hc : comB cb n w h g s k n = true
    · simp only [hc, if_true] at h3; exact (Option.some.inj h3).symm
    · simp only [hc, if_false] at h3; cases h3
  omega
section S3
variable {sc : Nat × (Nat → Int32)} {f : Nat → x_C} {ms : x_S} {tl : List x_C} {bb : Nat × Nat} {n w h d : Nat} {Q : x_O → x_H → Prop} {cb : Nat → Nat} {vb : Nat → Option Nat}
theorem r_isIn (hG : gM ms n w h) {g c : Nat} (hg : g < 3 * n) (hc : c < n * n) (hQ : Q (.inl (some (.int (bI (inN n w h g c))))) (w_M f ms tl bb)) : x_run sc x_MM x_EX (d + 2) k_X8_isIn [.ref 26, .int (nI g), .int (nI c)] (w_M f ms tl bb) Q := by
  have hG0 := hG
  obtain ⟨h1, h2, h3, hk⟩ := hG
  obtain ⟨g1, g2, g3, g4, g5, g6, g7, g8⟩ := hk.le
  have e1 : ¬ ms.1 1 = 0 := by rw [h1]; exact nI_ne0 (by omega) (by omega)
  have hbx := boxN_lt hk hc
  have dc := Nat.div_le_self c n
  have mc := Nat.mod_le c n
  have ed : nI c / ms.1 1 = nI (c / n) := by rw [h1, pk_div (by omega) (by omega) (by omega)]
  have er : nI c - nI c / ms.1 1 * ms.1 1 = nI (c % n) := by rw [h1, pk_rem (by omega) (by omega) (by omega)]
  have e2n : Int32.ofInt 2 * ms.1 1 = nI (2 * n) := by rw [oi2, h1, pk_mul]
  refine x_in (M := m_X8_isIn) rfl rfl (Nat.le_of_ble_eq_true rfl) ⟨rfl, rfl, rfl, trivial⟩ ?_
  intro P hP
  have yes : inN n w h g c = true → ∀ x : Int32, x = bI true → P 80 [some (.ref 26), some (.int (nI g)), some (.int (nI c))] [.int x] (w_M f ms tl bb) := by
    intro hy x hx
    subst hx
    rw [hy] at hQ
    exact hP _ _ _ _ (And.intro rfl hQ)
  have no : inN n w h g c = false → ∀ x : Int32, x = bI false → P 80 [some (.ref 26), some (.int (nI g)), some (.int (nI c))] [.int x] (w_M f ms tl bb) := by
    intro hy x hx
    subst hx
    rw [hy] at hQ
    exact hP _ _ _ _ (And.intro rfl hQ)
  iterate 3 refine hP _ _ _ _ ?_
  refine hP _ _ _ _ (And.intro (fun hq => ?_) (fun hq => ?_))
  · have hq : ms.1 1 ≤ nI g := hq
    rw [h1, nI_leI (by omega) (by omega)] at hq
    iterate 5 refine hP _ _ _ _ ?_
    refine hP _ _ _ _ (And.intro (fun hr => ?_) (fun hr => ?_))
    · have hr : Int32.ofInt 2 * ms.1 1 ≤ nI g := hr
      rw [e2n, nI_leI (by omega) (by omega)] at hr
      iterate 2 refine hP _ _ _ _ ?_
      refine hP _ _ _ _ (r_boxOf hG0 (by omega) ?_)
      iterate 6 refine hP _ _ _ _ ?_
      have ex : nI g - Int32.ofInt 2 * ms.1 1 = nI (g - 2 * n) := by rw [e2n, pk_sub (by omega)]
      refine hP _ _ _ _ (And.intro (fun hx => ?_) (fun hx => ?_))
      · have hx : ¬ nI (boxN n w h c) = nI g - Int32.ofInt 2 * ms.1 1 := hx
        rw [ex, nI_eq (by omega) (by omega)] at hx
        refine hP _ _ _ _ (no ?_ _ rfl)
        unfold inN
        rw [if_neg (by omega), if_neg (by omega)]
        simp [hx]
      · have hx : nI (boxN n w h c) = nI g - Int32.ofInt 2 * ms.1 1 := Decidable.of_not_not hx
        rw [ex, nI_eq (by omega) (by omega)] at hx
        refine hP _ _ _ _ ?_
        refine hP _ _ _ _ (yes ?_ _ rfl)
        unfold inN
        rw [if_neg (by omega), if_neg (by omega)]
        simp [hx]
    · have hr : ¬ Int32.ofInt 2 * ms.1 1 ≤ nI g := hr
      rw [e2n, nI_leI (by omega) (by omega)] at hr
      iterate 3 refine hP _ _ _ _ ?_
      refine hP _ _ _ _ (And.intro e1 ?_)
      iterate 4 refine hP _ _ _ _ ?_
      have ex : nI g - ms.1 1 = nI (g - n) := by rw [h1, pk_sub (by omega)]
      refine hP _ _ _ _ (And.intro (fun hx => ?_) (fun hx => ?_))
      · have hx : ¬ nI c - nI c / ms.1 1 * ms.1 1 = nI g - ms.1 1 := hx
        rw [er, ex, nI_eq (by omega) (by omega)] at hx
        refine hP _ _ _ _ ?_
        refine hP _ _ _ _ (no ?_ _ rfl)
        unfold inN
        rw [if_neg (by omega), if_pos (by omega)]
        simp [hx]
      · have hx : nI c - nI c / ms.1 1 * ms.1 1 = nI g - ms.1 1 := Decidable.of_not_not hx
        rw [er, ex, nI_eq (by omega) (by omega)] at hx
        refine hP _ _ _ _ ?_
        refine hP _ _ _ _ (yes ?_ _ rfl)
        unfold inN
        rw [if_neg (by omega), if_pos (by omega)]
        simp [hx]
  · have hq : ¬ ms.1 1 ≤ nI g := hq
    rw [h1, nI_leI (by omega) (by omega)] at hq
    iterate 3 refine hP _ _ _ _ ?_
    refine hP _ _ _ _ (And.intro e1 ?_)
    refine hP _ _ _ _ ?_
    refine hP _ _ _ _ (And.intro (fun hx => ?_) (fun hx => ?_))
    · have hx : ¬ nI c / ms.1 1 = nI g := hx
      rw [ed, nI_eq (by omega) (by omega)] at hx
      refine hP _ _ _ _ ?_
      refine hP _ _ _ _ (no ?_ _ rfl)
      unfold inN
      rw [if_pos (by omega)]
      simp [hx]
    · have hx : nI c / ms.1 1 = nI g := Decidable.of_not_not hx
      rw [ed, nI_eq (by omega) (by omega)] at hx
      refine hP _ _ _ _ ?_
      refine hP _ _ _ _ (yes ?_ _ rfl)
      unfold inN
      rw [if_pos (by omega)]
      simp [hx]
theorem r_common (hG : gM ms n w h) (hC : cM ms n cb) {g s kd : Nat} (hg : g < 3 * n) (hs : s < n) (hkd : kd < 3) (hT : ∀ q, comS cb n w h g s kd = some q → Q (.inl (some (.int (nI q)))) (w_M f ms tl bb)) (hF : comS cb n w h g s kd = none → Q (.inl (some (.int (-1)))) (w_M f ms tl bb)) : x_run sc x_MM x_EX (d + 3) k_X8_common [.ref 26, .int (nI g), .int (nI s), .int (nI kd)] (w_M f ms tl bb) Q := by
  obtain ⟨g1, g2, g3, g4, g5, g6, g7, g8⟩ := hG.2.2.2.le
  have hk3 : kd * n + n ≤ 3 * n := by
    have : (kd + 1) * n ≤ 3 * n := Nat.mul_le_mul_right n (by omega)
    rw [Nat.succ_mul] at this
    exact this
  have ekd : nI kd * ms.1 1 = nI (kd * n) := by rw [hG.1, pk_mul]
  have ekn : nI kd * ms.1 1 + ms.1 1 = nI (kd * n + n) := by rw [ekd, hG.1, nI_add]
  refine x_in (M := m_X8_common) rfl rfl (Nat.le_of_ble_eq_true rfl) ⟨rfl, rfl, rfl, rfl, trivial⟩ ?_
  intro P hP
  have loop : ∀ j q, q + j = kd * n + n → comS cb n w h g s kd = ff (fun q => if comB cb n w h g s q n then some q else none) j q → ∀ x5 x6 : Option Value, P 8 [some (.ref 26), some (.int (nI g)), some (.int (nI s)), some (.int (nI kd)), some (.int (nI q)), x5, x6] [] (w_M f ms tl bb) := by
    intro j
    induction j with
    | zero =>
      intro q hq hf x5 x6
      have hq : q = kd * n + n := hq
      iterate 8 refine hP _ _ _ _ ?_
      refine hP _ _ _ _ (And.intro (fun _ => ?_) (fun h => absurd (show nI kd * ms.1 1 + ms.1 1 ≤ nI q by rw [ekn]; exact nI_le (by omega) (by omega)) h))
      refine hP _ _ _ _ ?_
      exact hP _ _ _ _ (hF hf)
    | succ j ih =>
      intro q hq hf x5 x6
      have hq9 : q < 3 * n := by omega
      iterate 8 refine hP _ _ _ _ ?_
      refine hP _ _ _ _ (And.intro (fun h => absurd (show nI kd * ms.1 1 + ms.1 1 ≤ nI q from h) (by rw [ekn]; exact nI_ge (by omega) (by omega))) (fun _ => ?_))
      have loop2 : ∀ i k, k + i = n → P 30 [some (.ref 26), some (.int (nI g)), some (.int (nI s)), some (.int (nI kd)), some (.int (nI q)), some (.int (bI (comB cb n w h g s q k))), some (.int (nI k))] [] (w_M f ms tl bb) := by
        intro i
        induction i with
        | zero =>
          intro k hk
          have hk : k = n := hk
          subst hk
          iterate 3 refine hP _ _ _ _ ?_
          refine hP _ _ _ _ (And.intro (fun _ => ?_) (fun h => absurd (show ms.1 1 ≤ nI k by rw [hG.1]; exact nI_le (Nat.le_refl _) (by omega)) h))
          refine hP _ _ _ _ ?_
          refine hP _ _ _ _ (And.intro (fun hz => ?_) (fun hz => ?_))
          · have hz : comB cb k w h g s q k = false := bI_t.mp hz
            refine hP _ _ _ _ ?_
            refine hP _ _ _ _ (x_p4 (P := P) (ih (q + 1) (by omega) (hf.trans (ff_n (by simp [hz]))) (some (.int (bI (comB cb k w h g s q k)))) (some (.int (nI k)))) ?_ rfl rfl)
            rw [nI_succ]; rfl
          · have hz : comB cb k w h g s q k = true := bI_n0 hz
            refine hP _ _ _ _ ?_
            exact hP _ _ _ _ (hT q (hf.trans (ff_s (by simp [hz]))))
        | succ i ih2 =>
          intro k hk
          have hat := atN_lt (w := w) (h := h) hG.2.2.2 hg (show k < n by omega)
          have h29 : cb (atN n w h g k) < 512 := Nat.lt_of_lt_of_le (hC _ hat).2 (Nat.pow_le_pow_right (by omega) g2)
          have fin : ∀ (b : Bool) (x : Int32), x = bI b → comB cb n w h g s q (k + 1) = b → P 80 [some (.ref 26), some (.int (nI g)), some (.int (nI s)), some (.int (nI kd)), some (.int (nI q)), some (.int (bI (comB cb n w h g s q k))), some (.int (nI k))] [.int x] (w_M f ms tl bb) := by
            intro b x hx hb
            subst hx
            iterate 2 refine hP _ _ _ _ ?_
            refine hP _ _ _ _ (x_p4 (P := P) (ih2 (k + 1) (by omega)) ?_ rfl rfl)
            rw [nI_succ, hb]; rfl
          iterate 3 refine hP _ _ _ _ ?_
          refine hP _ _ _ _ (And.intro (fun h => absurd (show ms.1 1 ≤ nI k from h) (by rw [hG.1]; exact nI_ge (by omega) (by omega))) (fun _ => ?_))
          refine hP _ _ _ _ ?_
          refine hP _ _ _ _ (And.intro (fun hz => ?_) (fun hz => ?_))
          · have hz : comB cb n w h g s q k = false := bI_t.mp hz
            refine hP _ _ _ _ ?_
            exact fin false _ rfl (by rw [comB_s, hz]; rfl)
          · have hz : comB cb n w h g s q k = true := bI_n0 hz
            iterate 4 refine hP _ _ _ _ ?_
            refine hP _ _ _ _ (r_at hG hg (by omega) ?_)
            refine hP _ _ _ _ ?_
            refine hP _ _ _ _ (r_has (b := cb (atN n w h g k)) (by omega) (by omega) (hC _ hat).1 h29 ?_)
            refine hP _ _ _ _ (And.intro (fun hb => ?_) (fun hb => ?_))
            · have hb : (cb (atN n w h g k)).testBit s = false := bI_t.mp hb
              iterate 2 refine hP _ _ _ _ ?_
              exact fin true _ rfl (by rw [comB_s, hz, hb]; rfl)
            · have hb : (cb (atN n w h g k)).testBit s = true := bI_n0 hb
              iterate 5 refine hP _ _ _ _ ?_
              refine hP _ _ _ _ (r_at hG hg (by omega) ?_)
              refine hP _ _ _ _ (r_isIn hG hq9 hat ?_)
              refine hP _ _ _ _ (And.intro (fun hy => ?_) (fun hy => ?_))
              · have hy : inN n w h q (atN n w h g k) = false := bI_t.mp hy
                refine hP _ _ _ _ ?_
                exact fin false _ rfl (by rw [comB_s, hz, hb, hy]; rfl)
              · have hy : inN n w h q (atN n w h g k) = true := bI_n0 hy
                iterate 2 refine hP _ _ _ _ ?_
                exact fin true _ rfl (by rw [comB_s, hz, hb, hy]; rfl)
      iterate 4 refine hP _ _ _ _ ?_
      exact loop2 n 0 (by omega)
  iterate 4 refine hP _ _ _ _ ?_
  refine hP _ _ _ _ (x_p4 (P := P) (loop n (kd * n) (by omega) rfl none none) ?_ rfl rfl)
  rw [← ekd]
  rfl
end S3
