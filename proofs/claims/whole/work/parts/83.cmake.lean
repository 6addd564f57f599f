/-! ===== the class: its making: the grid made, finding, colours, history ===== -/
theorem aok_2 {L : x_L} {st : List Value} {X a b : List x_C} {K : Nat} (e : X = a ++ b) (ha : x_hok K a) (hK : K ≤ (a ++ b).length) (h : (decide ((a ++ b).length < x_SP) && (lokB (a ++ b).length L && (sokB (a ++ b).length st && hokB (a ++ b).length b))) = true) : x_aok L st X := by subst e; exact aok_V ha hK h
/-- a kind's grid -/
def kdP (x : Int32) (n w h : Nat) : Prop := (x ≤ 0 ∧ n = 4 ∧ w = 2 ∧ h = 2) ∨ (x = 1 ∧ n = 6 ∧ w = 3 ∧ h = 2) ∨ (1 < x ∧ n = 9 ∧ w = 3 ∧ h = 3)
theorem kdP.k {x : Int32} {n w h : Nat} (k : kdP x n w h) : KD n w h := by
  rcases k with ⟨_, r⟩ | ⟨_, r⟩ | ⟨_, r⟩
  · exact Or.inl r
  · exact Or.inr (Or.inl r)
  · exact Or.inr (Or.inr r)
theorem kdP_ex (x : Int32) : ∃ n w h, kdP x n w h := by
  by_cases h1 : x ≤ 0
  · exact ⟨4, 2, 2, Or.inl ⟨h1, rfl, rfl, rfl⟩⟩
  · by_cases h2 : x = 1
    · exact ⟨6, 3, 2, Or.inr (Or.inl ⟨h2, rfl, rfl, rfl⟩)⟩
    · refine ⟨9, 3, 3, Or.inr (Or.inr ⟨?_, rfl, rfl, rfl⟩)⟩
      rw [Int32.lt_iff_toInt_lt]
      rw [Int32.le_iff_toInt_le] at h1
      have h3 : x.toInt ≠ (1 : Int32).toInt := fun e => h2 (Int32.toInt_inj.mp e)
      have e0 : (0 : Int32).toInt = 0 := by decide
      have e1 : (1 : Int32).toInt = 1 := by decide
      omega
section GJ
variable {sc : Nat × (Nat → Int32)} {c0 c1 : x_C} {n w h d : Nat} {Q : x_O → x_H → Prop}
theorem nw_ok {m : Nat} (hm : m < 2 ^ 31) {x : Int32} (hx : x = nI m) : ¬ x < 0 ∧ x.toNatClampNeg = m := by subst hx; exact ⟨nI_pos hm, nI_clamp hm⟩
theorem g_grid {x : Int32} (hx : kdP x n w h) (ha : x_hok 2 [c0, c1]) (hQ : ∀ (A : Nat → Nat → Int32) bb', gC (fun _ => 0, A) n w h → cC (fun _ => 0, A) n (fun _ => 2 ^ n - 1) → vC (fun _ => 0, A) n (fun _ => none) → pC (fun _ => 0, A) n w h (fun _ => 2 ^ n - 1) → Q (.inl none) (w_G c0 c1 n A [] bb')) : x_run sc x_MM x_EX (d + 3) k_X2_init [.ref 2, .int x] (c0 :: c1 :: [.inr (3, [.int 0, .int 0, .int 0, .null, .null, .null, .null, .null, .null])], 6, 1134) Q := by
  have kd := hx.k
  obtain ⟨g1, g2, g3, g4, g5, g6, g7, g8⟩ := kd.le
  obtain ⟨b1, b2, b3, b4, b5, b6, b7⟩ := kd.b3
  have m3 : 3 * n * n = 3 * (n * n) := Nat.mul_assoc 3 n n
  have hpos : 0 < 2 ^ n := Nat.two_pow_pos n
  refine x_in (M := m_X2_init) rfl rfl (Nat.le_of_ble_eq_true rfl) ⟨rfl, rfl, trivial⟩ ?_
  intro P hP
  have aft : P 25 [some (.ref 2), some (.int x), some (.int (nI w)), some (.int (nI h))] [] (c0 :: c1 :: [.inr (3, [.int 0, .int 0, .int 0, .null, .null, .null, .null, .null, .null])], 6, 1134) := by
    have st1 : P 55 [some (.ref 2), some (.int x), some (.int (nI w)), some (.int (nI h))] [] (c0 :: c1 :: [.inr (3, [.int (nI n), .int (nI (n * n)), .int (nI (3 * n)), .null, .null, .null, .null, .null, .null])], 6, 1134) := by
      have k1 := nw_ok (show n * n < 2 ^ 31 by omega) (x := nI (n * n)) rfl
      have k2 := nw_ok (show 3 * n * n < 2 ^ 31 by omega) (x := nI (3 * n) * nI n) (by rw [pk_mul])
      have k3 := nw_ok (show n * n * 3 < 2 ^ 31 by omega) (x := nI (n * n) * Int32.ofInt 3) (by rw [oi3, pk_mul])
      repeat refine hP _ _ _ _ ?_
      refine And.intro ⟨k1.1, by rw [k1.2]; omega, Nat.le_of_ble_eq_true rfl, by rw [k1.2]; show n * n ≤ 1134; omega, aok_2 (a := [c0, c1]) (b := [_]) rfl ha (Nat.le_of_ble_eq_true rfl) rfl⟩ ?_
      rw [k1.2]
      show P 62 [some (.ref 2), some (.int x), some (.int (nI w)), some (.int (nI h))] [.ref 3, .ref 2] (c0 :: c1 :: [.inr (3, [.int (nI n), .int (nI (n * n)), .int (nI (3 * n)), .null, .null, .null, .null, .null, .null]), .inl (.int, n * n, .inl (fun _ => 0))], 5, 1134 - n * n)
      repeat refine hP _ _ _ _ ?_
      refine And.intro ⟨k1.1, by rw [k1.2]; omega, Nat.le_of_ble_eq_true rfl, by rw [k1.2]; show n * n ≤ 1134 - n * n; omega, aok_2 (a := [c0, c1]) (b := [_, _]) rfl ha (Nat.le_of_ble_eq_true rfl) rfl⟩ ?_
      rw [k1.2]
      show P 72 [some (.ref 2), some (.int x), some (.int (nI w)), some (.int (nI h))] [.ref 4, .ref 2] (c0 :: c1 :: [.inr (3, [.int (nI n), .int (nI (n * n)), .int (nI (3 * n)), .ref 3, .null, .null, .null, .null, .null]), .inl (.int, n * n, .inl (fun _ => 0)), .inl (.int, n * n, .inl (fun _ => 0))], 4, 1134 - n * n - n * n)
      repeat refine hP _ _ _ _ ?_
      refine And.intro ⟨k2.1, by rw [k2.2]; omega, Nat.le_of_ble_eq_true rfl, by rw [k2.2]; show 3 * n * n ≤ 1134 - n * n - n * n; omega, aok_2 (a := [c0, c1]) (b := [_, _, _]) rfl ha (Nat.le_of_ble_eq_true rfl) rfl⟩ ?_
      rw [k2.2]
      show P 87 [some (.ref 2), some (.int x), some (.int (nI w)), some (.int (nI h))] [.ref 5, .ref 2] (c0 :: c1 :: [.inr (3, [.int (nI n), .int (nI (n * n)), .int (nI (3 * n)), .ref 3, .ref 4, .null, .null, .null, .null]), .inl (.int, n * n, .inl (fun _ => 0)), .inl (.int, n * n, .inl (fun _ => 0)), .inl (.int, 3 * n * n, .inl (fun _ => 0))], 3, 1134 - n * n - n * n - 3 * n * n)
      repeat refine hP _ _ _ _ ?_
      refine And.intro ⟨k3.1, by rw [k3.2]; omega, Nat.le_of_ble_eq_true rfl, by rw [k3.2]; show n * n * 3 ≤ 1134 - n * n - n * n - 3 * n * n; omega, aok_2 (a := [c0, c1]) (b := [_, _, _, _]) rfl ha (Nat.le_of_ble_eq_true rfl) rfl⟩ ?_
      rw [k3.2]
      show P 99 [some (.ref 2), some (.int x), some (.int (nI w)), some (.int (nI h))] [.ref 6, .ref 2] (c0 :: c1 :: [.inr (3, [.int (nI n), .int (nI (n * n)), .int (nI (3 * n)), .ref 3, .ref 4, .ref 5, .null, .null, .null]), .inl (.int, n * n, .inl (fun _ => 0)), .inl (.int, n * n, .inl (fun _ => 0)), .inl (.int, 3 * n * n, .inl (fun _ => 0)), .inl (.int, n * n * 3, .inl (fun _ => 0))], 2, 1134 - n * n - n * n - 3 * n * n - n * n * 3)
      repeat refine hP _ _ _ _ ?_
      refine And.intro ⟨k3.1, by rw [k3.2]; omega, Nat.le_of_ble_eq_true rfl, by rw [k3.2]; show n * n * 3 ≤ 1134 - n * n - n * n - 3 * n * n - n * n * 3; omega, aok_2 (a := [c0, c1]) (b := [_, _, _, _, _]) rfl ha (Nat.le_of_ble_eq_true rfl) rfl⟩ ?_
      rw [k3.2]
      show P 111 [some (.ref 2), some (.int x), some (.int (nI w)), some (.int (nI h))] [.ref 7, .ref 2] (c0 :: c1 :: [.inr (3, [.int (nI n), .int (nI (n * n)), .int (nI (3 * n)), .ref 3, .ref 4, .ref 5, .ref 6, .null, .null]), .inl (.int, n * n, .inl (fun _ => 0)), .inl (.int, n * n, .inl (fun _ => 0)), .inl (.int, 3 * n * n, .inl (fun _ => 0)), .inl (.int, n * n * 3, .inl (fun _ => 0)), .inl (.int, n * n * 3, .inl (fun _ => 0))], 1, 1134 - n * n - n * n - 3 * n * n - n * n * 3 - n * n * 3)
      repeat refine hP _ _ _ _ ?_
      refine And.intro ⟨k2.1, by rw [k2.2]; omega, Nat.le_of_ble_eq_true rfl, by rw [k2.2]; show 3 * n * n ≤ 1134 - n * n - n * n - 3 * n * n - n * n * 3 - n * n * 3; omega, aok_2 (a := [c0, c1]) (b := [_, _, _, _, _, _]) rfl ha (Nat.le_of_ble_eq_true rfl) rfl⟩ ?_
      rw [k2.2]
      show P 126 [some (.ref 2), some (.int x), some (.int (nI w)), some (.int (nI h))] [.ref 8, .ref 2] (c0 :: c1 :: [.inr (3, [.int (nI n), .int (nI (n * n)), .int (nI (3 * n)), .ref 3, .ref 4, .ref 5, .ref 6, .ref 7, .null]), .inl (.int, n * n, .inl (fun _ => 0)), .inl (.int, n * n, .inl (fun _ => 0)), .inl (.int, 3 * n * n, .inl (fun _ => 0)), .inl (.int, n * n * 3, .inl (fun _ => 0)), .inl (.int, n * n * 3, .inl (fun _ => 0)), .inl (.int, 3 * n * n, .inl (fun _ => 0))], 0, 1134 - n * n - n * n - 3 * n * n - n * n * 3 - n * n * 3 - 3 * n * n)
      have st2 : P 129 [some (.ref 2), some (.int x), some (.int (nI w)), some (.int (nI h))] [] (w_G c0 c1 n (fun _ _ => 0) [] (0, 1134 - n * n - n * n - 3 * n * n - n * n * 3 - n * n * 3 - 3 * n * n)) := by
        repeat refine hP _ _ _ _ ?_
        refine g_layLines (c0 := c0) (c1 := c1) (A := fun _ _ => 0) (tl := []) (bb := (0, 0)) kd (fun A2 hA2 hL2 => ?_)
        repeat refine hP _ _ _ _ ?_
        refine g_layBoxes kd hL2 rfl rfl (fun A3 hA3 hL3 => ?_)
        repeat refine hP _ _ _ _ ?_
        refine g_fill kd (fun A4 hA4 h34 h8 => ?_)
        repeat refine hP _ _ _ _ ?_
        refine hQ A4 _ ⟨kd, fun g i hg hi => ?_, fun c e hc he => ?_, fun c e hc he => ?_⟩ (fun c hc => ⟨(h34 c hc).1, by show 2 ^ n - 1 < 2 ^ n; omega⟩) (fun c hc => ⟨(h34 c hc).2, fun s e => by cases e⟩) (fun g s hg hs => ?_)
        · obtain ⟨q1, q2, q3⟩ := gat kd hg hi
          have hat := atN_lt kd hg hi
          have := (hL3 _ _ hat q3 trivial).2.2
          rw [q1, q2] at this
          show A4 5 (g * n + i) = _
          rw [hA4 5 (by decide) (by decide) (by decide)]
          exact this
        · show A4 6 (c * 3 + e) = _
          rw [hA4 6 (by decide) (by decide) (by decide)]
          exact (hL3 c e hc he trivial).1
        · show A4 7 (c * 3 + e) = _
          rw [hA4 7 (by decide) (by decide) (by decide)]
          exact (hL3 c e hc he trivial).2.1
        · show A4 8 (g * n + s) = _
          rw [h8 _ (ixB hg hs)]
          congr 1
          apply Nat.eq_of_testBit_eq
          intro i
          rw [plB_bit, Nat.testBit_two_pow_sub_one, Nat.testBit_two_pow_sub_one, decide_eq_true hs, Bool.and_true]
      refine hP _ _ _ _ ?_
      refine x_p4 (P := P) (st2) ?_ rfl ?_ <;> try (first | rfl | (rw [nI_succ]; rfl))
    have e1 : nI n = nI w * nI h := by rw [pk_mul, g8]
    have e2 : nI (n * n) = nI w * nI h * (nI w * nI h) := by rw [pk_mul, g8, pk_mul]
    have e3 : nI (3 * n) = Int32.ofInt 3 * (nI w * nI h) := by rw [pk_mul, g8, oi3, pk_mul]
    iterate 18 refine hP _ _ _ _ ?_
    refine x_p4 (P := P) (st1) ?_ rfl ?_
    · rfl
    · rw [e1, e2, e3]; rfl
  rcases hx with ⟨hx, rfl, rfl, rfl⟩ | ⟨hx, rfl, rfl, rfl⟩ | ⟨hx, rfl, rfl, rfl⟩
  · repeat refine hP _ _ _ _ ?_
    refine And.intro (fun h9 => absurd (show (0 : Int32) < x from h9) (Int32.not_lt.mpr hx)) (fun _ => ?_)
    repeat refine hP _ _ _ _ ?_
    refine And.intro (fun h9 => absurd (show (1 : Int32) < x from h9) (fun h8 => by rw [Int32.lt_iff_toInt_lt] at h8; rw [Int32.le_iff_toInt_le] at hx; have e0 : (0 : Int32).toInt = 0 := (by decide); have e1 : (1 : Int32).toInt = 1 := (by decide); omega)) (fun _ => ?_)
    iterate 3 refine hP _ _ _ _ ?_
    refine x_p4 (P := P) (aft) ?_ rfl ?_ <;> try (first | rfl | (rw [nI_succ]; rfl))
  · subst hx
    repeat refine hP _ _ _ _ ?_
    refine And.intro (fun _ => ?_) (fun h9 => absurd (show (0 : Int32) < 1 by decide) h9)
    repeat refine hP _ _ _ _ ?_
    refine And.intro (fun h9 => absurd (show (1 : Int32) < 1 from h9) (by decide)) (fun _ => ?_)
    iterate 3 refine hP _ _ _ _ ?_
    refine x_p4 (P := P) (aft) ?_ rfl ?_ <;> try (first | rfl | (rw [nI_succ]; rfl))
  · repeat refine hP _ _ _ _ ?_
    refine And.intro (fun _ => ?_) (fun h9 => absurd (show (0 : Int32) < x by rw [Int32.lt_iff_toInt_lt] at hx ⊢; have e0 : (0 : Int32).toInt = 0 := (by decide); have e1 : (1 : Int32).toInt = 1 := (by decide); omega) h9)
    repeat refine hP _ _ _ _ ?_
    refine And.intro (fun _ => ?_) (fun h9 => absurd (show (1 : Int32) < x from hx) h9)
    iterate 2 refine hP _ _ _ _ ?_
    refine x_p4 (P := P) (aft) ?_ rfl ?_ <;> try (first | rfl | (rw [nI_succ]; rfl))
theorem g_finding (kd : KD n w h) {a0 a1 a2 a3 a4 a5 a6 a7 a8 : x_C} (ha : x_hok 9 [a0, a1, a2, a3, a4, a5, a6, a7, a8]) (hQ : ∀ bb', Q (.inl none) (a0 :: a1 :: a2 :: a3 :: a4 :: a5 :: a6 :: a7 :: a8 :: [.inr (2, [.ref 10, .ref 11, .int (-1), .int (-1), .int (-1), .int 0, .int 0]), .inl (.int, n * n, .inl (fun _ => 0)), .inl (.int, n * n, .inl (fun _ => 0))], bb')) : x_run sc x_MM x_EX (d + 1) k_X1_init [.ref 9, .int (nI (n * n))] (a0 :: a1 :: a2 :: a3 :: a4 :: a5 :: a6 :: a7 :: a8 :: [.inr (2, [.null, .null, .int 0, .int 0, .int 0, .int 0, .int 0])], 2, 162) Q := by
  obtain ⟨g1, g2, g3, g4, g5, g6, g7, g8⟩ := kd.le
  have k1 := nw_ok (show n * n < 2 ^ 31 by omega) (x := nI (n * n)) rfl
  refine x_in (M := m_X1_init) rfl rfl (Nat.le_of_ble_eq_true rfl) ⟨rfl, rfl, trivial⟩ ?_
  intro P hP
  repeat refine hP _ _ _ _ ?_
  refine And.intro ⟨k1.1, by rw [k1.2]; omega, Nat.le_of_ble_eq_true rfl, by rw [k1.2]; show n * n ≤ 162; omega, aok_2 (a := [a0, a1, a2, a3, a4, a5, a6, a7, a8]) (b := [_]) rfl ha (Nat.le_of_ble_eq_true rfl) rfl⟩ ?_
  rw [k1.2]
  show P 8 [some (.ref 9), some (.int (nI (n * n)))] [.ref 10, .ref 9] (a0 :: a1 :: a2 :: a3 :: a4 :: a5 :: a6 :: a7 :: a8 :: [.inr (2, [.null, .null, .int 0, .int 0, .int 0, .int 0, .int 0]), .inl (.int, n * n, .inl (fun _ => 0))], 1, 162 - n * n)
  repeat refine hP _ _ _ _ ?_
  refine And.intro ⟨k1.1, by rw [k1.2]; omega, Nat.le_of_ble_eq_true rfl, by rw [k1.2]; show n * n ≤ 162 - n * n; omega, aok_2 (a := [a0, a1, a2, a3, a4, a5, a6, a7, a8]) (b := [_, _]) rfl ha (Nat.le_of_ble_eq_true rfl) rfl⟩ ?_
  rw [k1.2]
  show P 15 [some (.ref 9), some (.int (nI (n * n)))] [.ref 11, .ref 9] (a0 :: a1 :: a2 :: a3 :: a4 :: a5 :: a6 :: a7 :: a8 :: [.inr (2, [.ref 10, .null, .int 0, .int 0, .int 0, .int 0, .int 0]), .inl (.int, n * n, .inl (fun _ => 0)), .inl (.int, n * n, .inl (fun _ => 0))], 0, 162 - n * n - n * n)
  repeat refine hP _ _ _ _ ?_
  exact hQ _
theorem g_colours (kd : KD n w h) {a0 a1 a2 a3 a4 a5 a6 a7 a8 a9 a10 a11 a12 a13 a14 : x_C} (ha : x_hok 15 [a0, a1, a2, a3, a4, a5, a6, a7, a8, a9, a10, a11, a12, a13, a14]) (hQ : ∀ bb', Q (.inl none) (a0 :: a1 :: a2 :: a3 :: a4 :: a5 :: a6 :: a7 :: a8 :: a9 :: a10 :: a11 :: a12 :: a13 :: a14 :: [.inr (1, [.ref 16, .ref 17, .int 0]), .inl (.int, n * n, .inl (fun _ => 0)), .inl (.int, 2 * (n * n), .inl (fun _ => 0))], bb')) : x_run sc x_MM x_EX (d + 1) k_X0_init [.ref 15, .int (nI (n * n))] (a0 :: a1 :: a2 :: a3 :: a4 :: a5 :: a6 :: a7 :: a8 :: a9 :: a10 :: a11 :: a12 :: a13 :: a14 :: [.inr (1, [.null, .null, .int 0])], 2, 243) Q := by
  obtain ⟨g1, g2, g3, g4, g5, g6, g7, g8⟩ := kd.le
  have k1 := nw_ok (show n * n < 2 ^ 31 by omega) (x := nI (n * n)) rfl
  have k2 := nw_ok (show 2 * (n * n) < 2 ^ 31 by omega) (x := Int32.ofInt 2 * nI (n * n)) (by rw [oi2, pk_mul])
  refine x_in (M := m_X0_init) rfl rfl (Nat.le_of_ble_eq_true rfl) ⟨rfl, rfl, trivial⟩ ?_
  intro P hP
  repeat refine hP _ _ _ _ ?_
  refine And.intro ⟨k1.1, by rw [k1.2]; omega, Nat.le_of_ble_eq_true rfl, by rw [k1.2]; show n * n ≤ 243; omega, aok_2 (a := [a0, a1, a2, a3, a4, a5, a6, a7, a8, a9, a10, a11, a12, a13, a14]) (b := [_]) rfl ha (Nat.le_of_ble_eq_true rfl) rfl⟩ ?_
  rw [k1.2]
  show P 8 [some (.ref 15), some (.int (nI (n * n)))] [.ref 16, .ref 15] (a0 :: a1 :: a2 :: a3 :: a4 :: a5 :: a6 :: a7 :: a8 :: a9 :: a10 :: a11 :: a12 :: a13 :: a14 :: [.inr (1, [.null, .null, .int 0]), .inl (.int, n * n, .inl (fun _ => 0))], 1, 243 - n * n)
  repeat refine hP _ _ _ _ ?_
  refine And.intro ⟨k2.1, by rw [k2.2]; omega, Nat.le_of_ble_eq_true rfl, by rw [k2.2]; show 2 * (n * n) ≤ 243 - n * n; omega, aok_2 (a := [a0, a1, a2, a3, a4, a5, a6, a7, a8, a9, a10, a11, a12, a13, a14]) (b := [_, _]) rfl ha (Nat.le_of_ble_eq_true rfl) rfl⟩ ?_
  rw [k2.2]
  show P 17 [some (.ref 15), some (.int (nI (n * n)))] [.ref 17, .ref 15] (a0 :: a1 :: a2 :: a3 :: a4 :: a5 :: a6 :: a7 :: a8 :: a9 :: a10 :: a11 :: a12 :: a13 :: a14 :: [.inr (1, [.ref 16, .null, .int 0]), .inl (.int, n * n, .inl (fun _ => 0)), .inl (.int, 2 * (n * n), .inl (fun _ => 0))], 0, 243 - n * n - 2 * (n * n))
  repeat refine hP _ _ _ _ ?_
  exact hQ _
theorem g_history (kd : KD n w h) {a0 a1 a2 a3 a4 a5 a6 a7 a8 a9 a10 a11 a12 a13 a14 a15 a16 a17 a18 : x_C} (ha : x_hok 19 [a0, a1, a2, a3, a4, a5, a6, a7, a8, a9, a10, a11, a12, a13, a14, a15, a16, a17, a18]) (hQ : ∀ bb', Q (.inl none) (a0 :: a1 :: a2 :: a3 :: a4 :: a5 :: a6 :: a7 :: a8 :: a9 :: a10 :: a11 :: a12 :: a13 :: a14 :: a15 :: a16 :: a17 :: a18 :: [.inr (4, [.ref 20, .ref 21, .ref 22, .ref 23, .int 0, .int 0]), .inl (.int, n * n * n, .inl (fun _ => 0)), .inl (.int, n * n * n + n * n, .inl (fun _ => 0)), .inl (.int, n * n * n + n * n, .inl (fun _ => 0)), .inl (.int, n * n * n + n * n, .inl (fun _ => 0))], bb')) : x_run sc x_MM x_EX (d + 1) k_X3_init [.ref 19, .int (nI n)] (a0 :: a1 :: a2 :: a3 :: a4 :: a5 :: a6 :: a7 :: a8 :: a9 :: a10 :: a11 :: a12 :: a13 :: a14 :: a15 :: a16 :: a17 :: a18 :: [.inr (4, [.null, .null, .null, .null, .int 0, .int 0])], 4, 3159) Q := by
  obtain ⟨g1, g2, g3, g4, g5, g6, g7, g8⟩ := kd.le
  obtain ⟨b1, b2, b3, b4, b5, b6, b7⟩ := kd.b3
  have k1 := nw_ok (show n * n * n < 2 ^ 31 by omega) (x := nI n * nI n * nI n) (by rw [pk_mul, pk_mul])
  have k2 := nw_ok (show n * n * n + n * n < 2 ^ 31 by omega) (x := nI n * nI n * nI n + nI n * nI n) (by rw [pk_mul, pk_mul, nI_add])
  have k3 := nw_ok (show n * n * n + n * n < 2 ^ 31 by omega) (x := Int32.ofNat (n * n * n + n * n)) rfl
  refine x_in (M := m_X3_init) rfl rfl (Nat.le_of_ble_eq_true rfl) ⟨rfl, rfl, trivial⟩ ?_
  intro P hP
  repeat refine hP _ _ _ _ ?_
  refine And.intro ⟨k1.1, by rw [k1.2]; omega, Nat.le_of_ble_eq_true rfl, by rw [k1.2]; show n * n * n ≤ 3159; omega, aok_2 (a := [a0, a1, a2, a3, a4, a5, a6, a7, a8, a9, a10, a11, a12, a13, a14, a15, a16, a17, a18]) (b := [_]) rfl ha (Nat.le_of_ble_eq_true rfl) rfl⟩ ?_
  rw [k1.2]
  show P 12 [some (.ref 19), some (.int (nI n))] [.ref 20, .ref 19] (a0 :: a1 :: a2 :: a3 :: a4 :: a5 :: a6 :: a7 :: a8 :: a9 :: a10 :: a11 :: a12 :: a13 :: a14 :: a15 :: a16 :: a17 :: a18 :: [.inr (4, [.null, .null, .null, .null, .int 0, .int 0]), .inl (.int, n * n * n, .inl (fun _ => 0))], 3, 3159 - n * n * n)
  repeat refine hP _ _ _ _ ?_
  refine And.intro ⟨k2.1, by rw [k2.2]; omega, Nat.le_of_ble_eq_true rfl, by rw [k2.2]; show n * n * n + n * n ≤ 3159 - n * n * n; omega, aok_2 (a := [a0, a1, a2, a3, a4, a5, a6, a7, a8, a9, a10, a11, a12, a13, a14, a15, a16, a17, a18]) (b := [_, _]) rfl ha (Nat.le_of_ble_eq_true rfl) rfl⟩ ?_
  rw [k2.2]
  show P 27 [some (.ref 19), some (.int (nI n))] [.ref 21, .ref 19] (a0 :: a1 :: a2 :: a3 :: a4 :: a5 :: a6 :: a7 :: a8 :: a9 :: a10 :: a11 :: a12 :: a13 :: a14 :: a15 :: a16 :: a17 :: a18 :: [.inr (4, [.ref 20, .null, .null, .null, .int 0, .int 0]), .inl (.int, n * n * n, .inl (fun _ => 0)), .inl (.int, n * n * n + n * n, .inl (fun _ => 0))], 2, 3159 - n * n * n - (n * n * n + n * n))
  repeat refine hP _ _ _ _ ?_
  refine And.intro ⟨k3.1, by rw [k3.2]; omega, Nat.le_of_ble_eq_true rfl, by rw [k3.2]; show n * n * n + n * n ≤ 3159 - n * n * n - (n * n * n + n * n); omega, aok_2 (a := [a0, a1, a2, a3, a4, a5, a6, a7, a8, a9, a10, a11, a12, a13, a14, a15, a16, a17, a18]) (b := [_, _, _]) rfl ha (Nat.le_of_ble_eq_true rfl) rfl⟩ ?_
  rw [k3.2]
  show P 38 [some (.ref 19), some (.int (nI n))] [.ref 22, .ref 19] (a0 :: a1 :: a2 :: a3 :: a4 :: a5 :: a6 :: a7 :: a8 :: a9 :: a10 :: a11 :: a12 :: a13 :: a14 :: a15 :: a16 :: a17 :: a18 :: [.inr (4, [.ref 20, .ref 21, .null, .null, .int 0, .int 0]), .inl (.int, n * n * n, .inl (fun _ => 0)), .inl (.int, n * n * n + n * n, .inl (fun _ => 0)), .inl (.int, n * n * n + n * n, .inl (fun _ => 0))], 1, 3159 - n * n * n - (n * n * n + n * n) - (n * n * n + n * n))
  repeat refine hP _ _ _ _ ?_
  refine And.intro ⟨k3.1, by rw [k3.2]; omega, Nat.le_of_ble_eq_true rfl, by rw [k3.2]; show n * n * n + n * n ≤ 3159 - n * n * n - (n * n * n + n * n) - (n * n * n + n * n); omega, aok_2 (a := [a0, a1, a2, a3, a4, a5, a6, a7, a8, a9, a10, a11, a12, a13, a14, a15, a16, a17, a18]) (b := [_, _, _, _]) rfl ha (Nat.le_of_ble_eq_true rfl) rfl⟩ ?_
  rw [k3.2]
  show P 49 [some (.ref 19), some (.int (nI n))] [.ref 23, .ref 19] (a0 :: a1 :: a2 :: a3 :: a4 :: a5 :: a6 :: a7 :: a8 :: a9 :: a10 :: a11 :: a12 :: a13 :: a14 :: a15 :: a16 :: a17 :: a18 :: [.inr (4, [.ref 20, .ref 21, .ref 22, .null, .int 0, .int 0]), .inl (.int, n * n * n, .inl (fun _ => 0)), .inl (.int, n * n * n + n * n, .inl (fun _ => 0)), .inl (.int, n * n * n + n * n, .inl (fun _ => 0)), .inl (.int, n * n * n + n * n, .inl (fun _ => 0))], 0, 3159 - n * n * n - (n * n * n + n * n) - (n * n * n + n * n) - (n * n * n + n * n))
  repeat refine hP _ _ _ _ ?_
  exact hQ _
end GJ
