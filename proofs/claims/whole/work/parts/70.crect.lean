/-! ===== the class: only one answer ===== -/
def fou (cb : Nat → Nat) (x o p q : Nat) : Bool := pcN (cb o) == 2 && cb p == cb o && cb q == cb o && cb x != cb o && (cb x &&& cb o) == cb o
theorem fou_t {cb : Nat → Nat} {x o p q : Nat} : fou cb x o p q = true ↔ (pcN (cb o) = 2 ∧ cb p = cb o ∧ cb q = cb o ∧ cb x ≠ cb o ∧ cb x &&& cb o = cb o) := by
  unfold fou
  simp only [Bool.and_eq_true, beq_iff_eq, bne_iff_ne]
  constructor
  · rintro ⟨⟨⟨⟨h1, h2⟩, h3⟩, h4⟩, h5⟩; exact ⟨h1, h2, h3, h4, h5⟩
  · rintro ⟨h1, h2, h3, h4, h5⟩; exact ⟨⟨⟨⟨h1, h2⟩, h3⟩, h4⟩, h5⟩
theorem set_pc {cb : Nat → Nat} {vb : Nat → Option Nat} {n w h c : Nat} (hst : stOK n w h cb vb) (hc : c < n * n) (h9 : cb c < 512) (h2 : 2 ≤ pcN (cb c)) : vb c = none := by
  cases hv : vb c with
  | none => rfl
  | some s =>
    exfalso
    obtain ⟨i, j, hij, hi, hj⟩ := two_bits h9 h2
    have h1 := (hst c s hc hv).1
    have ei : i = s := Decidable.of_not_not fun e => by rw [h1 i e] at hi; cases hi
    have ej : j = s := Decidable.of_not_not fun e => by rw [h1 j e] at hj; cases hj
    exact hij (ei.trans ej.symm)
theorem sup_pc {a m : Nat} (h : a &&& m = m) : pcN m ≤ pcN a := pcN_le (fun t ht => by
  have : (a &&& m).testBit t = true := by rw [h]; exact ht
  rw [Nat.testBit_and, Bool.and_eq_true] at this
  exact this.1)
section RE
variable {cb : Nat → Nat} {vb : Nat → Option Nat} {n w h a b c e : Nat}
def bxB (n w h a b c : Nat) : Bool := (boxN n w h a == boxN n w h b) != (boxN n w h a == boxN n w h c)
/-- one of four has more -/
theorem co_a (hst : stOK n w h cb vb) (h9 : ∀ c, c < n * n → cb c < 512) (ha : a < n * n) (hb : b < n * n) (hc : c < n * n) (he : e < n * n) (hx : bxB n w h a b c = true) (hf : fou cb a b c e = true) : coE cb vb n w h a b c e = some (none, fun x => if x = a then cb b else 0, rcR a b c e) := by
  obtain ⟨f1, f2, f3, f4, f5⟩ := fou_t.mp hf
  have ht : cb a &&& cb b &&& cb c &&& cb e = cb b := by rw [f2, f3, f5, Nat.and_self, Nat.and_self]
  have p1 := sup_pc f5
  have v1 := set_pc hst ha (h9 a ha) (by omega)
  have v2 := set_pc hst hb (h9 b hb) (by omega)
  have v3 := set_pc hst hc (h9 c hc) (by rw [f2]; omega)
  have v4 := set_pc hst he (h9 e he) (by rw [f3]; omega)
  unfold coE
  rw [ht]
  have hs : saN cb (cb b) (coC a b c e) 4 = 3 := by simp [saN, coC, f2, f3, f4]
  have hm : moN cb (cb b) (coC a b c e) 4 = some a := by simp [moN, coC, f2, f3, f4]
  rw [if_pos ⟨hx, v1, v2, v3, v4, f1, hs⟩, hm]
  show some (none, (fun x => if x = a then cb a &&& cb b else 0), rcR a b c e) = _
  rw [f5]
theorem co_b (hst : stOK n w h cb vb) (h9 : ∀ c, c < n * n → cb c < 512) (ha : a < n * n) (hb : b < n * n) (hc : c < n * n) (he : e < n * n) (hx : bxB n w h a b c = true) (hf : fou cb b a c e = true) : coE cb vb n w h a b c e = some (none, fun x => if x = b then cb a else 0, rcR a b c e) := by
  obtain ⟨f1, f2, f3, f4, f5⟩ := fou_t.mp hf
  have ht : cb a &&& cb b &&& cb c &&& cb e = cb a := by rw [f2, f3, Nat.and_comm (cb a) (cb b), f5, Nat.and_self, Nat.and_self]
  have p1 := sup_pc f5
  have v1 := set_pc hst ha (h9 a ha) (by omega)
  have v2 := set_pc hst hb (h9 b hb) (by omega)
  have v3 := set_pc hst hc (h9 c hc) (by rw [f2]; omega)
  have v4 := set_pc hst he (h9 e he) (by rw [f3]; omega)
  unfold coE
  rw [ht]
  have hs : saN cb (cb a) (coC a b c e) 4 = 3 := by simp [saN, coC, f2, f3, f4]
  have hm : moN cb (cb a) (coC a b c e) 4 = some b := by simp [moN, coC, f2, f3, f4]
  rw [if_pos ⟨hx, v1, v2, v3, v4, f1, hs⟩, hm]
  show some (none, (fun x => if x = b then cb b &&& cb a else 0), rcR a b c e) = _
  rw [f5]
theorem co_c (hst : stOK n w h cb vb) (h9 : ∀ c, c < n * n → cb c < 512) (ha : a < n * n) (hb : b < n * n) (hc : c < n * n) (he : e < n * n) (hx : bxB n w h a b c = true) (hf : fou cb c a b e = true) : coE cb vb n w h a b c e = some (none, fun x => if x = c then cb a else 0, rcR a b c e) := by
  obtain ⟨f1, f2, f3, f4, f5⟩ := fou_t.mp hf
  have ht : cb a &&& cb b &&& cb c &&& cb e = cb a := by rw [f2, f3, Nat.and_self, Nat.and_comm (cb a) (cb c), f5, Nat.and_self]
  have p1 := sup_pc f5
  have v1 := set_pc hst ha (h9 a ha) (by omega)
  have v2 := set_pc hst hb (h9 b hb) (by rw [f2]; omega)
  have v3 := set_pc hst hc (h9 c hc) (by omega)
  have v4 := set_pc hst he (h9 e he) (by rw [f3]; omega)
  unfold coE
  rw [ht]
  have hs : saN cb (cb a) (coC a b c e) 4 = 3 := by simp [saN, coC, f2, f3, f4]
  have hm : moN cb (cb a) (coC a b c e) 4 = some c := by simp [moN, coC, f2, f3, f4]
  rw [if_pos ⟨hx, v1, v2, v3, v4, f1, hs⟩, hm]
  show some (none, (fun x => if x = c then cb c &&& cb a else 0), rcR a b c e) = _
  rw [f5]
theorem co_e (hst : stOK n w h cb vb) (h9 : ∀ c, c < n * n → cb c < 512) (ha : a < n * n) (hb : b < n * n) (hc : c < n * n) (he : e < n * n) (hx : bxB n w h a b c = true) (hf : fou cb e a b c = true) : coE cb vb n w h a b c e = some (none, fun x => if x = e then cb a else 0, rcR a b c e) := by
  obtain ⟨f1, f2, f3, f4, f5⟩ := fou_t.mp hf
  have ht : cb a &&& cb b &&& cb c &&& cb e = cb a := by rw [f2, f3, Nat.and_self, Nat.and_self, Nat.and_comm (cb a) (cb e), f5]
  have p1 := sup_pc f5
  have v1 := set_pc hst ha (h9 a ha) (by omega)
  have v2 := set_pc hst hb (h9 b hb) (by rw [f2]; omega)
  have v3 := set_pc hst hc (h9 c hc) (by rw [f3]; omega)
  have v4 := set_pc hst he (h9 e he) (by omega)
  unfold coE
  rw [ht]
  have hs : saN cb (cb a) (coC a b c e) 4 = 3 := by simp [saN, coC, f2, f3, f4]
  have hm : moN cb (cb a) (coC a b c e) 4 = some e := by simp [moN, coC, f2, f3, f4]
  rw [if_pos ⟨hx, v1, v2, v3, v4, f1, hs⟩, hm]
  show some (none, (fun x => if x = e then cb e &&& cb a else 0), rcR a b c e) = _
  rw [f5]
theorem coE_none (h1 : fou cb a b c e = false) (h2 : fou cb b a c e = false) (h3 : fou cb c a b e = false) (h4 : fou cb e a b c = false) : coE cb vb n w h a b c e = none := by
  have s0 := co_sub (cb := cb) a b c e 0 (by decide)
  have s1 := co_sub (cb := cb) a b c e 1 (by decide)
  have s2 := co_sub (cb := cb) a b c e 2 (by decide)
  have s3 := co_sub (cb := cb) a b c e 3 (by decide)
  have s0 : cb a &&& (cb a &&& cb b &&& cb c &&& cb e) = cb a &&& cb b &&& cb c &&& cb e := s0
  have s1 : cb b &&& (cb a &&& cb b &&& cb c &&& cb e) = cb a &&& cb b &&& cb c &&& cb e := s1
  have s2 : cb c &&& (cb a &&& cb b &&& cb c &&& cb e) = cb a &&& cb b &&& cb c &&& cb e := s2
  have s3 : cb e &&& (cb a &&& cb b &&& cb c &&& cb e) = cb a &&& cb b &&& cb c &&& cb e := s3
  unfold coE
  generalize cb a &&& cb b &&& cb c &&& cb e = two at *
  by_cases hh : ((boxN n w h a == boxN n w h b) != (boxN n w h a == boxN n w h c)) = true ∧ vb a = none ∧ vb b = none ∧ vb c = none ∧ vb e = none ∧ pcN two = 2 ∧ saN cb two (coC a b c e) 4 = 3
  · exfalso
    have hp := hh.2.2.2.2.2.1
    have hs := hh.2.2.2.2.2.2
    have hs : 0 + (if cb a = two then 1 else 0) + (if cb b = two then 1 else 0) + (if cb c = two then 1 else 0) + (if cb e = two then 1 else 0) = 3 := hs
    by_cases A : cb a = two
    · by_cases B : cb b = two
      · by_cases C : cb c = two
        · by_cases E : cb e = two
          · rw [if_pos A, if_pos B, if_pos C, if_pos E] at hs; omega
          · have : fou cb e a b c = true := fou_t.mpr ⟨by rw [A]; exact hp, by rw [A, B], by rw [A, C], by rw [A]; exact E, by rw [A]; exact s3⟩
            rw [h4] at this; cases this
        · by_cases E : cb e = two
          · have : fou cb c a b e = true := fou_t.mpr ⟨by rw [A]; exact hp, by rw [A, B], by rw [A, E], by rw [A]; exact C, by rw [A]; exact s2⟩
            rw [h3] at this; cases this
          · rw [if_pos A, if_pos B, if_neg C, if_neg E] at hs; omega
      · by_cases C : cb c = two
        · by_cases E : cb e = two
          · have : fou cb b a c e = true := fou_t.mpr ⟨by rw [A]; exact hp, by rw [A, C], by rw [A, E], by rw [A]; exact B, by rw [A]; exact s1⟩
            rw [h2] at this; cases this
          · rw [if_pos A, if_neg B, if_pos C, if_neg E] at hs; omega
        · rw [if_pos A, if_neg B, if_neg C] at hs; split at hs <;> omega
    · by_cases B : cb b = two
      · by_cases C : cb c = two
        · by_cases E : cb e = two
          · have : fou cb a b c e = true := fou_t.mpr ⟨by rw [B]; exact hp, by rw [B, C], by rw [B, E], by rw [B]; exact A, by rw [B]; exact s0⟩
            rw [h1] at this; cases this
          · rw [if_neg A, if_pos B, if_pos C, if_neg E] at hs; omega
        · rw [if_neg A, if_pos B, if_neg C] at hs; split at hs <;> omega
      · rw [if_neg A, if_neg B] at hs; split at hs <;> split at hs <;> omega
  · rw [if_neg hh]
theorem co_box (hx : bxB n w h a b c = false) : coE cb vb n w h a b c e = none := by
  unfold coE
  rw [if_neg]
  intro hh
  have h1 : bxB n w h a b c = true := hh.1
  rw [hx] at h1
  cases h1
end RE
section K8
variable {sc : Nat × (Nat → Int32)} {cs : x_S} {tl : List x_C} {bb : Nat × Nat} {n w h d : Nat} {Q : x_O → x_H → Prop} {cb : Nat → Nat} {vb : Nat → Option Nat}
theorem c_isInTwoBoxes (hG : gC cs n w h) {a b c : Nat} (ha : a < n * n) (hb : b < n * n) (hc : c < n * n) (hQ : Q (.inl (some (.int (bI (bxB n w h a b c))))) (w_C n cs tl bb)) : x_run sc x_MM x_EX (d + 2) k_X5_isInTwoBoxes [.ref 1, .int (nI a), .int (nI b), .int (nI c)] (w_C n cs tl bb) Q := by
  have hk := hG.1
  obtain ⟨g1, g2, g3, g4, g5, g6, g7, g8⟩ := hk.le
  have q0 := (geo hk ha (e := 2) (by omega)).2.1
  have q1 := (geo hk hb (e := 2) (by omega)).2.1
  have q2 := (geo hk hc (e := 2) (by omega)).2.1
  have e1 : ∀ x, (hoN n w h a 2 == hoN n w h x 2) = (boxN n w h a == boxN n w h x) := by
    intro x
    show (2 * n + boxN n w h a == 2 * n + boxN n w h x) = (boxN n w h a == boxN n w h x)
    rw [Bool.eq_iff_iff, beq_iff_eq, beq_iff_eq]
    omega
  unfold bxB at hQ
  rw [← e1 b, ← e1 c] at hQ
  refine x_in (M := m_X5_isInTwoBoxes) rfl rfl (Nat.le_of_ble_eq_true rfl) ⟨rfl, rfl, rfl, rfl, trivial⟩ ?_
  intro P hP
  have last : ∀ b1 b2 : Bool, b1 = (hoN n w h a 2 == hoN n w h b 2) → b2 = (hoN n w h a 2 == hoN n w h c 2) → P 49 [some (.ref 1), some (.int (nI a)), some (.int (nI b)), some (.int (nI c)), some (.int (nI (hoN n w h a 2)))] [.int (bI b2), .int (bI b1)] (w_C n cs tl bb) := by
    intro b1 b2 hb1 hb2
    rw [← hb1, ← hb2] at hQ
    repeat refine hP _ _ _ _ ?_
    refine b_beq b1 b2 rfl rfl (fun hq => ?_) (fun hq => ?_)
    · skip
      repeat refine hP _ _ _ _ ?_
      refine And.intro rfl (x_q1 hQ ?_)
      rw [hq]; rfl
    · skip
      repeat refine hP _ _ _ _ ?_
      refine And.intro rfl (x_q1 hQ ?_)
      rw [hq]; rfl
  have mid : ∀ b1 : Bool, b1 = (hoN n w h a 2 == hoN n w h b 2) → P 30 [some (.ref 1), some (.int (nI a)), some (.int (nI b)), some (.int (nI c)), some (.int (nI (hoN n w h a 2)))] [.int (bI b1)] (w_C n cs tl bb) := by
    intro b1 hb1
    repeat refine hP _ _ _ _ ?_
    refine c_house hG hc (e := 2) (by omega) rfl rfl ?_
    repeat refine hP _ _ _ _ ?_
    refine b_ne (hoN n w h a 2) (hoN n w h c 2) (fun h1 => ?_) (fun h1 => ?_) (rfl) (rfl) (by omega) (by omega)
    · refine hP _ _ _ _ ?_
      refine x_p4 (P := P) (last b1 false hb1 (beq_eq_false_iff_ne.mpr h1).symm) ?_ rfl ?_ <;> try (first | rfl | (rw [nI_succ]; rfl))
    · iterate 2 refine hP _ _ _ _ ?_
      refine x_p4 (P := P) (last b1 true hb1 (by rw [h1]; simp)) ?_ rfl ?_ <;> try (first | rfl | (rw [nI_succ]; rfl))
  repeat refine hP _ _ _ _ ?_
  refine c_house hG ha (e := 2) (by omega) rfl rfl ?_
  repeat refine hP _ _ _ _ ?_
  refine c_house hG hb (e := 2) (by omega) rfl rfl ?_
  repeat refine hP _ _ _ _ ?_
  refine b_ne (hoN n w h a 2) (hoN n w h b 2) (fun h1 => ?_) (fun h1 => ?_) (rfl) (rfl) (by omega) (by omega)
  · refine hP _ _ _ _ ?_
    refine x_p4 (P := P) (mid false (beq_eq_false_iff_ne.mpr h1).symm) ?_ rfl ?_ <;> try (first | rfl | (rw [nI_succ]; rfl))
  · iterate 2 refine hP _ _ _ _ ?_
    refine x_p4 (P := P) (mid true (by rw [h1]; simp)) ?_ rfl ?_ <;> try (first | rfl | (rw [nI_succ]; rfl))
theorem c_fourth (hB : bC cs n w h cb vb) (hZ : zC cs n) {x o p q : Nat} (hx : x < n * n) (ho : o < n * n) (hp : p < n * n) (hq : q < n * n) (hT : ∀ cs3, frS cs cs3 → fou cb x o p q = true → oC cs3 n (fun e => if e = x then cb o else 0) → Q (.inl (some (.int (bI true)))) (w_C n cs3 tl bb)) (hF : fou cb x o p q = false → Q (.inl (some (.int (bI false)))) (w_C n cs tl bb)) : x_run sc x_MM x_EX (d + 3) k_X5_fourth [.ref 1, .int (nI x), .int (nI o), .int (nI p), .int (nI q)] (w_C n cs tl bb) Q := by
  obtain ⟨hG, hC, hV, hP9, hE⟩ := hB
  have hk := hG.1
  obtain ⟨g1, g2, g3, g4, g5, g6, g7, g8⟩ := hk.le
  have x9 := hC.lt g2 hx
  have o9 := hC.lt g2 ho
  have p9 := hC.lt g2 hp
  have q9 := hC.lt g2 hq
  have c1 : pcN (cb o) ≤ 9 := pcA_le _ 9
  have xo : cb x &&& cb o < 512 := and_lt9 x9
  refine x_in (M := m_X5_fourth) rfl rfl (Nat.le_of_ble_eq_true rfl) ⟨rfl, rfl, rfl, rfl, rfl, trivial⟩ ?_
  intro P hP
  have no1 : fou cb x o p q = false → P 60 [some (.ref 1), some (.int (nI x)), some (.int (nI o)), some (.int (nI p)), some (.int (nI q)), some (.int (nI (cb o))), some (.int (nI (cb x)))] [] (w_C n cs tl bb) := by
    intro hy
    repeat refine hP _ _ _ _ ?_
    exact And.intro rfl (hF hy)
  have no2 : fou cb x o p q = false → P 79 [some (.ref 1), some (.int (nI x)), some (.int (nI o)), some (.int (nI p)), some (.int (nI q)), some (.int (nI (cb o))), some (.int (nI (cb x)))] [] (w_C n cs tl bb) := by
    intro hy
    repeat refine hP _ _ _ _ ?_
    exact And.intro rfl (hF hy)
  have nof : ¬ (pcN (cb o) = 2 ∧ cb p = cb o ∧ cb q = cb o ∧ cb x ≠ cb o ∧ cb x &&& cb o = cb o) → fou cb x o p q = false := by
    intro hn
    cases hh : fou cb x o p q with
    | false => rfl
    | true => exact absurd (fou_t.mp hh) hn
  repeat refine hP _ _ _ _ ?_
  refine And.intro (vp_in_nI ho (by omega)) ?_
  rw [ldv (f := cs.2 3) (hC o ho).1 (by omega)]
  repeat refine hP _ _ _ _ ?_
  refine And.intro (vp_in_nI hx (by omega)) ?_
  rw [ldv (f := cs.2 3) (hC x hx).1 (by omega)]
  repeat refine hP _ _ _ _ ?_
  refine c_bitCount o9 rfl ?_
  repeat refine hP _ _ _ _ ?_
  refine b_ne (pcN (cb o)) (2) (fun h1 => ?_) (fun h1 => ?_) (rfl) (oi2) (by omega) (by omega)
  · exact no1 (nof (fun e => h1 e.1))
  · repeat refine hP _ _ _ _ ?_
    refine And.intro (vp_in_nI hp (by omega)) ?_
    rw [ldv (f := cs.2 3) (hC p hp).1 (by omega)]
    repeat refine hP _ _ _ _ ?_
    refine b_ne (cb p) (cb o) (fun h2 => ?_) (fun h2 => ?_) (rfl) (rfl) (by omega) (by omega)
    · exact no1 (nof (fun e => h2 e.2.1))
    · repeat refine hP _ _ _ _ ?_
      refine And.intro (vp_in_nI hq (by omega)) ?_
      rw [ldv (f := cs.2 3) (hC q hq).1 (by omega)]
      repeat refine hP _ _ _ _ ?_
      refine b_eq (cb q) (cb o) (fun h3 => ?_) (fun h3 => ?_) (rfl) (rfl) (by omega) (by omega)
      · repeat refine hP _ _ _ _ ?_
        refine b_eq (cb x) (cb o) (fun h4 => ?_) (fun h4 => ?_) (rfl) (rfl) (by omega) (by omega)
        · exact no2 (nof (fun e => e.2.2.2.1 h4))
        · repeat refine hP _ _ _ _ ?_
          refine b_eq ((cb x &&& cb o)) (cb o) (fun h5 => ?_) (fun h5 => ?_) (nx_and _ _) (rfl) (by omega) (by omega)
          · repeat refine hP _ _ _ _ ?_
            refine c_str hZ.2.2.1 hk hx o9 rfl rfl (fun cs3 hf3 ho3 => ?_)
            repeat refine hP _ _ _ _ ?_
            exact And.intro rfl (hT cs3 hf3 (fou_t.mpr ⟨h1, h2, h3, h4, h5⟩) (oC_congr ho3 (fun e _ => by rw [Nat.zero_or])))
          · exact no2 (nof (fun e => h5 e.2.2.2.2))
      · exact no1 (nof (fun e => h3 e.2.2.1))
theorem at_row {n w h g i : Nat} (hg : g < n) : atN n w h g i = n * g + i := by unfold atN; rw [if_pos hg]
theorem c_rectangleAt (hB : bC cs n w h cb vb) (hZ : zC cs n) (hst : stOK n w h cb vb) {u l x y : Nat} (hu : u < n) (hl : l < n) (hx : x < n) (hy : y < n) (hT : ∀ cs' r, scC cs cs' → coE cb vb n w h (n * u + x) (n * u + y) (n * l + x) (n * l + y) = some r → rsC cs' n r → Q (.inl (some (.int (bI true)))) (w_C n cs' tl bb)) (hF : coE cb vb n w h (n * u + x) (n * u + y) (n * l + x) (n * l + y) = none → Q (.inl (some (.int (bI false)))) (w_C n cs tl bb)) : x_run sc x_MM x_EX (d + 4) k_X5_rectangleAt [.ref 1, .int (nI u), .int (nI l), .int (nI x), .int (nI y)] (w_C n cs tl bb) Q := by
  have hB0 := hB
  obtain ⟨hG, hC, hV, hP9, hE⟩ := hB
  have hk := hG.1
  obtain ⟨g1, g2, g3, g4, g5, g6, g7, g8⟩ := hk.le
  obtain ⟨z1, z2, z3, z4⟩ := hZ
  have hZ0 : zC cs n := ⟨z1, z2, z3, z4⟩
  have h9 : ∀ c, c < n * n → cb c < 512 := fun c hc => hC.lt g2 hc
  have ha : n * u + x < n * n := by rw [← at_row (w := w) (h := h) hu]; exact atN_lt hk (by omega) hx
  have hb : n * u + y < n * n := by rw [← at_row (w := w) (h := h) hu]; exact atN_lt hk (by omega) hy
  have hc : n * l + x < n * n := by rw [← at_row (w := w) (h := h) hl]; exact atN_lt hk (by omega) hx
  have he : n * l + y < n * n := by rw [← at_row (w := w) (h := h) hl]; exact atN_lt hk (by omega) hy
  refine x_in (M := m_X5_rectangleAt) rfl rfl (Nat.le_of_ble_eq_true rfl) ⟨rfl, rfl, rfl, rfl, rfl, trivial⟩ ?_
  intro P hP
  repeat refine hP _ _ _ _ ?_
  refine c_cell hG (show u < 3 * n by omega) hx rfl rfl ?_
  rw [at_row hu]
  repeat refine hP _ _ _ _ ?_
  refine c_cell hG (show u < 3 * n by omega) hy rfl rfl ?_
  rw [at_row hu]
  repeat refine hP _ _ _ _ ?_
  refine c_cell hG (show l < 3 * n by omega) hx rfl rfl ?_
  rw [at_row hl]
  repeat refine hP _ _ _ _ ?_
  refine c_cell hG (show l < 3 * n by omega) hy rfl rfl ?_
  rw [at_row hl]
  generalize n * u + x = a at *
  generalize n * u + y = b at *
  generalize n * l + x = c at *
  generalize n * l + y = e at *
  have win : ∀ (cs3 : x_S) (p m : Nat), frS cs cs3 → coE cb vb n w h a b c e = some (none, fun x => if x = p then cb m else 0, rcR a b c e) → oC cs3 n (fun x => if x = p then cb m else 0) → P 123 [some (.ref 1), some (.int (nI u)), some (.int (nI l)), some (.int (nI x)), some (.int (nI y)), some (.int (nI a)), some (.int (nI b)), some (.int (nI c)), some (.int (nI e))] [] (w_C n cs3 tl bb) := by
    intro cs3 p m hf hco ho
    repeat refine hP _ _ _ _ ?_
    refine c_bec hk (hf.r z4) ha rfl (fun cs4 hf4 hr4 => ?_)
    repeat refine hP _ _ _ _ ?_
    refine c_bec hk hr4 hb rfl (fun cs5 hf5 hr5 => ?_)
    repeat refine hP _ _ _ _ ?_
    refine c_bec hk hr5 hc rfl (fun cs6 hf6 hr6 => ?_)
    repeat refine hP _ _ _ _ ?_
    refine c_bec hk hr6 he rfl (fun cs7 hf7 hr7 => ?_)
    repeat refine hP _ _ _ _ ?_
    have hf9 := ((hf4.tr hf5).tr hf6).tr hf7
    refine And.intro rfl (hT cs7 _ (hf.sc.tr hf9.sc) hco ⟨⟨(hf9.1 1 (by decide)).trans ((hf.1 1 (by decide)).trans z1), (hf9.1 2 (by decide)).trans ((hf.1 2 (by decide)).trans z2)⟩, hf9.o ho, rC_congr hr7 (fun i _ => ?_)⟩)
    show updB (updB (updB (updB (fun _ => false) a true) b true) c true) e true i = rcR a b c e i
    unfold rcR updB
    by_cases e1 : i = a <;> by_cases e2 : i = b <;> by_cases e3 : i = c <;> by_cases e4 : i = e <;> simp [e1, e2, e3, e4]
  repeat refine hP _ _ _ _ ?_
  refine c_isInTwoBoxes hG ha hb hc ?_
  repeat refine hP _ _ _ _ ?_
  refine b_ifne (fun hbx => ?_) (fun hbx => ?_) (rfl)
  · repeat refine hP _ _ _ _ ?_
    refine c_fourth hB0 hZ0 ha hb hc he (fun cs3 hf3 hfo ho3 => ?_) (fun hfa => ?_)
    · repeat refine hP _ _ _ _ ?_
      refine b_ifne (fun h6 => ?_) (fun h6 => ?_) (rfl)
      · exact win cs3 a b hf3 (co_a hst h9 ha hb hc he hbx hfo) ho3
      · cases h6
    · repeat refine hP _ _ _ _ ?_
      refine b_ifne (fun h6 => ?_) (fun h6 => ?_) (rfl)
      · cases h6
      · repeat refine hP _ _ _ _ ?_
        refine c_fourth hB0 hZ0 hb ha hc he (fun cs3 hf3 hfo ho3 => ?_) (fun hfb => ?_)
        · repeat refine hP _ _ _ _ ?_
          refine b_ifne (fun h7 => ?_) (fun h7 => ?_) (rfl)
          · exact win cs3 b a hf3 (co_b hst h9 ha hb hc he hbx hfo) ho3
          · cases h7
        · repeat refine hP _ _ _ _ ?_
          refine b_ifne (fun h7 => ?_) (fun h7 => ?_) (rfl)
          · cases h7
          · repeat refine hP _ _ _ _ ?_
            refine c_fourth hB0 hZ0 hc ha hb he (fun cs3 hf3 hfo ho3 => ?_) (fun hfc => ?_)
            · repeat refine hP _ _ _ _ ?_
              refine b_ifne (fun h8 => ?_) (fun h8 => ?_) (rfl)
              · exact win cs3 c a hf3 (co_c hst h9 ha hb hc he hbx hfo) ho3
              · cases h8
            · repeat refine hP _ _ _ _ ?_
              refine b_ifne (fun h8 => ?_) (fun h8 => ?_) (rfl)
              · cases h8
              · repeat refine hP _ _ _ _ ?_
                refine c_fourth hB0 hZ0 he ha hb hc (fun cs3 hf3 hfo ho3 => ?_) (fun hfe => ?_)
                · repeat refine hP _ _ _ _ ?_
                  refine b_ifne (fun h10 => ?_) (fun h10 => ?_) (rfl)
                  · exact win cs3 e a hf3 (co_e hst h9 ha hb hc he hbx hfo) ho3
                  · cases h10
                · repeat refine hP _ _ _ _ ?_
                  refine b_ifne (fun h10 => ?_) (fun h10 => ?_) (rfl)
                  · cases h10
                  · repeat refine hP _ _ _ _ ?_
                    exact And.intro rfl (hF (coE_none hfa hfb hfc hfe))
  · repeat refine hP _ _ _ _ ?_
    exact And.intro rfl (hF (co_box hbx))
theorem c_onlyOneAnswer (hB : bC cs n w h cb vb) (hZ : zC cs n) (hst : stOK n w h cb vb) (hT : ∀ cs' r, scC cs cs' → reS cb vb n w h = some r → rsC cs' n r → Q (.inl (some (.int (bI true)))) (w_C n cs' tl bb)) (hF : reS cb vb n w h = none → Q (.inl (some (.int (bI false)))) (w_C n cs tl bb)) : x_run sc x_MM x_EX (d + 5) k_X5_onlyOneAnswer [.ref 1] (w_C n cs tl bb) Q := by
  have hk := hB.1.1
  obtain ⟨g1, g2, g3, g4, g5, g6, g7, g8⟩ := hk.le
  refine x_in (M := m_X5_onlyOneAnswer) rfl rfl (Nat.le_of_ble_eq_true rfl) ⟨rfl, trivial⟩ ?_
  intro P hP
  have lu : ∀ u, u ≤ n → reS cb vb n w h = ff (reT cb vb n w h) (n - u) u → ∀ x2 x3 x4, P 2 [some (.ref 1), some (.int (nI u)), x2, x3, x4] [] (w_C n cs tl bb) := by
    refine x_lp n (fun u hu3 ih hf x2 x3 x4 => ?_)
    repeat refine hP _ _ _ _ ?_
    refine b_ge (u) (n) (fun hu => ?_) (fun hu => ?_) (rfl) (rfl) (by omega) (by omega)
    · repeat refine hP _ _ _ _ ?_
      exact And.intro rfl (hF (hf.trans (ff_e hu)))
    · have ih := ih hu
      have ll : ∀ l, l ≤ n → u < l → reT cb vb n w h u = ff (reX cb vb n w h u) (n - l) l → ∀ x3 x4, P 14 [some (.ref 1), some (.int (nI u)), some (.int (nI l)), x3, x4] [] (w_C n cs tl bb) := by
        refine x_lp n (fun l hl3 ihl hul hfl x3 x4 => ?_)
        repeat refine hP _ _ _ _ ?_
        refine b_ge (l) (n) (fun hl => ?_) (fun hl => ?_) (rfl) (rfl) (by omega) (by omega)
        · iterate 2 refine hP _ _ _ _ ?_
          refine x_p4 (P := P) (ih (hf.trans (ff_n' hu (hfl.trans (ff_e hl)))) (some (.int (nI l))) x3 x4) ?_ rfl ?_ <;> try (first | rfl | (rw [nI_succ]; rfl))
        · have ihl := ihl hl (by omega)
          have lx : ∀ x, x ≤ n → reX cb vb n w h u l = ff (reY cb vb n w h u l) (n - x) x → ∀ x4, P 24 [some (.ref 1), some (.int (nI u)), some (.int (nI l)), some (.int (nI x)), x4] [] (w_C n cs tl bb) := by
            refine x_lp n (fun x hx3 ihx hfx x4 => ?_)
            repeat refine hP _ _ _ _ ?_
            refine b_ge (x) (n) (fun hx => ?_) (fun hx => ?_) (rfl) (rfl) (by omega) (by omega)
            · iterate 2 refine hP _ _ _ _ ?_
              refine x_p4 (P := P) (ihl (hfl.trans (ff_n' hl (hfx.trans (ff_e hx)))) (some (.int (nI x))) x4) ?_ rfl ?_ <;> try (first | rfl | (rw [nI_succ]; rfl))
            · have ihx := ihx hx
              have ly : ∀ y, y ≤ n → x < y → reY cb vb n w h u l x = ff (fun y => coE cb vb n w h (n * u + x) (n * u + y) (n * l + x) (n * l + y)) (n - y) y → P 37 [some (.ref 1), some (.int (nI u)), some (.int (nI l)), some (.int (nI x)), some (.int (nI y))] [] (w_C n cs tl bb) := by
                refine x_lp n (fun y hy3 ihy hxy hfy => ?_)
                repeat refine hP _ _ _ _ ?_
                refine b_ge (y) (n) (fun hy => ?_) (fun hy => ?_) (rfl) (rfl) (by omega) (by omega)
                · iterate 2 refine hP _ _ _ _ ?_
                  refine x_p4 (P := P) (ihx (hfx.trans (ff_n' hx (hfy.trans (ff_e hy)))) (some (.int (nI y)))) ?_ rfl ?_ <;> try (first | rfl | (rw [nI_succ]; rfl))
                · have ihy := ihy hy (by omega)
                  repeat refine hP _ _ _ _ ?_
                  refine c_rectangleAt hB hZ hst hu hl hx hy (fun cs5 r h5 he hr => ?_) (fun he => ?_)
                  · repeat refine hP _ _ _ _ ?_
                    refine b_ifeq (fun h6 => ?_) (fun h6 => ?_) (rfl)
                    · cases h6
                    · repeat refine hP _ _ _ _ ?_
                      exact And.intro rfl (hT cs5 r h5 (hf.trans (ff_s' hu (hfl.trans (ff_s' hl (hfx.trans (ff_s' hx (hfy.trans (ff_s' (ev := fun y => coE cb vb n w h (n * u + x) (n * u + y) (n * l + x) (n * l + y)) hy he)))))))) hr)
                  · repeat refine hP _ _ _ _ ?_
                    refine b_ifeq (fun h6 => ?_) (fun h6 => ?_) (rfl)
                    · iterate 2 refine hP _ _ _ _ ?_
                      refine x_p4 (P := P) (ihy (hfy.trans (ff_n' (ev := fun y => coE cb vb n w h (n * u + x) (n * u + y) (n * l + x) (n * l + y)) hy he))) ?_ rfl ?_ <;> try (first | rfl | (rw [nI_succ]; rfl))
                    · cases h6
              iterate 4 refine hP _ _ _ _ ?_
              refine x_p4 (P := P) (ly (x + 1) (by omega) (by omega) rfl) ?_ rfl ?_ <;> try (first | rfl | (rw [nI_succ]; rfl))
          iterate 2 refine hP _ _ _ _ ?_
          refine x_p4 (P := P) (lx 0 (by omega) rfl x4) ?_ rfl ?_ <;> try (first | rfl | (rw [nI_succ]; rfl))
      iterate 4 refine hP _ _ _ _ ?_
      refine x_p4 (P := P) (ll (u + 1) (by omega) (by omega) rfl x3 x4) ?_ rfl ?_ <;> try (first | rfl | (rw [nI_succ]; rfl))
  iterate 2 refine hP _ _ _ _ ?_
  refine x_p4 (P := P) (lu 0 (by omega) rfl none none none) ?_ rfl ?_ <;> try (first | rfl | (rw [nI_succ]; rfl))
end K8
