/-! ===== the model: its world, geometry ===== -/
abbrev x_S : Type := (Nat → Int32) × (Nat → Nat → Int32)
/-- the world with the model's object at 26 and its arrays behind it; ms.1: its fields by their numbers, ms.2: its arrays by their places -/
def w_M (f : Nat → x_C) (ms : x_S) (tl : List x_C) (bb : Nat × Nat) : x_H :=
  (f 0 :: f 1 :: f 2 :: f 3 :: f 4 :: f 5 :: f 6 :: f 7 :: f 8 :: f 9 :: f 10 :: f 11 :: f 12 :: f 13 :: f 14 :: f 15 :: f 16 :: f 17 :: f 18 :: f 19 :: f 20 :: f 21 :: f 22 :: f 23 :: f 24 :: f 25 ::
   .inr (8, [.int (ms.1 0), .int (ms.1 1), .int (ms.1 2), .int (ms.1 3), .ref 27, .ref 28, .ref 29, .ref 30, .int (ms.1 8), .ref 31, .ref 32, .int (ms.1 11), .int (ms.1 12), .int (ms.1 13), .ref 33, .ref 34, .int (ms.1 16), .ref 35, .ref 36, .ref 37, .ref 38, .ref 39, .ref 40]) ::
   .inl (.int, 81, .inl (ms.2 27)) :: .inl (.int, 81, .inl (ms.2 28)) :: .inl (.boolean, 19, .inl (ms.2 29)) :: .inl (.int, 19, .inl (ms.2 30)) :: .inl (.boolean, 81, .inl (ms.2 31)) :: .inl (.int, 81, .inl (ms.2 32)) :: .inl (.int, 81, .inl (ms.2 33)) :: .inl (.int, 5, .inl (ms.2 34)) :: .inl (.int, 66420, .inl (ms.2 35)) :: .inl (.int, 66420, .inl (ms.2 36)) :: .inl (.int, 820, .inl (ms.2 37)) :: .inl (.boolean, 81, .inl (ms.2 38)) :: .inl (.boolean, 81, .inl (ms.2 39)) :: .inl (.boolean, 81, .inl (ms.2 40)) :: tl, bb)
/-- the three kinds of grids -/
def KD (n w h : Nat) : Prop := (n = 4 ∧ w = 2 ∧ h = 2) ∨ (n = 6 ∧ w = 3 ∧ h = 2) ∨ (n = 9 ∧ w = 3 ∧ h = 3)
def gM (ms : x_S) (n w h : Nat) : Prop := ms.1 1 = nI n ∧ ms.1 2 = nI w ∧ ms.1 3 = nI h ∧ KD n w h
theorem KD.le {n w h : Nat} (k : KD n w h) : 4 ≤ n ∧ n ≤ 9 ∧ 2 ≤ w ∧ w ≤ 3 ∧ 2 ≤ h ∧ h ≤ 3 ∧ n * n ≤ 81 ∧ w * h = n := by
  rcases k with ⟨rfl, rfl, rfl⟩ | ⟨rfl, rfl, rfl⟩ | ⟨rfl, rfl, rfl⟩ <;> decide
def boxN (n w h c : Nat) : Nat := c / n / h * (n / w) + c % n / w
def inN (n w h g c : Nat) : Bool := if g < n then c / n == g else if g < 2 * n then c % n == g - n else boxN n w h c == g - 2 * n
def atN (n w h g i : Nat) : Nat := if g < n then n * g + i else if g < 2 * n then n * i + g - n else n * ((g - 2 * n) / (n / w) * h + i / w) + ((g - 2 * n) % (n / w) * w + i % w)
def seeN (n w h a b : Nat) : Bool := a != b && (a / n == b / n || a % n == b % n || boxN n w h a == boxN n w h b)
section M1
variable {sc : Nat × (Nat → Int32)} {f : Nat → x_C} {ms : x_S} {tl : List x_C} {bb : Nat × Nat} {n w h d : Nat} {Q : x_O → x_H → Prop}
theorem r_cells (hG : gM ms n w h) (hQ : Q (.inl (some (.int (nI (n * n))))) (w_M f ms tl bb)) : x_run sc x_MM x_EX (d + 1) k_X8_cells [.ref 26] (w_M f ms tl bb) Q := by
  obtain ⟨h1, h2, h3, hk⟩ := hG
  refine x_in (M := m_X8_cells) rfl rfl (Nat.le_of_ble_eq_true rfl) ⟨rfl, trivial⟩ ?_
  intro P hP
  iterate 5 refine hP _ _ _ _ ?_
  exact hP _ _ _ _ (x_q1 hQ (by rw [h1, pk_mul]))
theorem r_isCell (hG : gM ms n w h) {c : Int32} (hQ : Q (.inl (some (.int (bI (decide (0 ≤ c.toInt ∧ c.toInt < n * n)))))) (w_M f ms tl bb)) : x_run sc x_MM x_EX (d + 2) k_X8_isCell [.ref 26, .int c] (w_M f ms tl bb) Q := by
  obtain ⟨g1, g2, g3, g4, g5, g6, g7, g8⟩ := hG.2.2.2.le
  refine x_in (M := m_X8_isCell) rfl rfl (Nat.le_of_ble_eq_true rfl) ⟨rfl, rfl, trivial⟩ ?_
  intro P hP
  refine hP _ _ _ _ ?_
  refine hP _ _ _ _ (And.intro (fun hc => ?_) (fun hc => ?_))
  · refine hP _ _ _ _ ?_
    refine hP _ _ _ _ (And.intro rfl (x_q1 hQ ?_))
    rw [decide_eq_false]
    · rfl
    · have hc : c < 0 := hc
      rw [Int32.lt_iff_toInt_lt] at hc
      have : (0 : Int32).toInt = 0 := by decide
      omega
  · iterate 2 refine hP _ _ _ _ ?_
    refine hP _ _ _ _ (r_cells hG ?_)
    refine hP _ _ _ _ (And.intro (fun hb => ?_) (fun hb => ?_))
    · refine hP _ _ _ _ ?_
      refine hP _ _ _ _ (And.intro rfl (x_q1 hQ ?_))
      rw [decide_eq_false]
      · rfl
      · have hb : nI (n * n) ≤ c := hb
        rw [Int32.le_iff_toInt_le, nI_toInt (by omega)] at hb
        omega
    · iterate 2 refine hP _ _ _ _ ?_
      refine hP _ _ _ _ (And.intro rfl (x_q1 hQ ?_))
      rw [decide_eq_true]
      · rfl
      · have hb : ¬ nI (n * n) ≤ c := hb
        have hc : ¬ c < 0 := hc
        rw [Int32.le_iff_toInt_le, nI_toInt (by omega)] at hb
        rw [Int32.lt_iff_toInt_lt] at hc
        have : (0 : Int32).toInt = 0 := by decide
        omega
theorem r_isSymbol (hG : gM ms n w h) {c : Int32} (hQ : Q (.inl (some (.int (bI (decide (0 ≤ c.toInt ∧ c.toInt < n)))))) (w_M f ms tl bb)) : x_run sc x_MM x_EX (d + 1) k_X8_isSymbol [.ref 26, .int c] (w_M f ms tl bb) Q := by
  obtain ⟨g1, g2, g3, g4, g5, g6, g7, g8⟩ := hG.2.2.2.le
  refine x_in (M := m_X8_isSymbol) rfl rfl (Nat.le_of_ble_eq_true rfl) ⟨rfl, rfl, trivial⟩ ?_
  intro P hP
  refine hP _ _ _ _ ?_
  refine hP _ _ _ _ (And.intro (fun hc => ?_) (fun hc => ?_))
  · refine hP _ _ _ _ ?_
    refine hP _ _ _ _ (And.intro rfl (x_q1 hQ ?_))
    rw [decide_eq_false]
    · rfl
    · have hc : c < 0 := hc
      rw [Int32.lt_iff_toInt_lt] at hc
      have : (0 : Int32).toInt = 0 := by decide
      omega
  · iterate 3 refine hP _ _ _ _ ?_
    refine hP _ _ _ _ (And.intro (fun hb => ?_) (fun hb => ?_))
    · refine hP _ _ _ _ ?_
      refine hP _ _ _ _ (And.intro rfl (x_q1 hQ ?_))
      rw [decide_eq_false]
      · rfl
      · have hb : ms.1 1 ≤ c := hb
        rw [hG.1, Int32.le_iff_toInt_le, nI_toInt (by omega)] at hb
        omega
    · iterate 2 refine hP _ _ _ _ ?_
      refine hP _ _ _ _ (And.intro rfl (x_q1 hQ ?_))
      rw [decide_eq_true]
      · rfl
      · have hb : ¬ ms.1 1 ≤ c := hb
        have hc : ¬ c < 0 := hc
        rw [hG.1, Int32.le_iff_toInt_le, nI_toInt (by omega)] at hb
        rw [Int32.lt_iff_toInt_lt] at hc
        have : (0 : Int32).toInt = 0 := by decide
        omega
theorem r_boxOf (hG : gM ms n w h) {c : Nat} (hc : c < 81) (hQ : Q (.inl (some (.int (nI (boxN n w h c))))) (w_M f ms tl bb)) : x_run sc x_MM x_EX (d + 1) k_X8_boxOf [.ref 26, .int (nI c)] (w_M f ms tl bb) Q := by
  obtain ⟨h1, h2, h3, hk⟩ := hG
  obtain ⟨g1, g2, g3, g4, g5, g6, g7, g8⟩ := hk.le
  have e1 : ¬ ms.1 1 = 0 := by rw [h1]; exact nI_ne0 (by omega) (by omega)
  have e2 : ¬ ms.1 2 = 0 := by rw [h2]; exact nI_ne0 (by omega) (by omega)
  have e3 : ¬ ms.1 3 = 0 := by rw [h3]; exact nI_ne0 (by omega) (by omega)
  refine x_in (M := m_X8_boxOf) rfl rfl (Nat.le_of_ble_eq_true rfl) ⟨rfl, rfl, trivial⟩ ?_
  intro P hP
  iterate 3 refine hP _ _ _ _ ?_
  refine hP _ _ _ _ (And.intro e1 ?_)
  iterate 2 refine hP _ _ _ _ ?_
  refine hP _ _ _ _ (And.intro e3 ?_)
  iterate 4 refine hP _ _ _ _ ?_
  refine hP _ _ _ _ (And.intro e2 ?_)
  iterate 4 refine hP _ _ _ _ ?_
  refine hP _ _ _ _ (And.intro e1 ?_)
  iterate 2 refine hP _ _ _ _ ?_
  refine hP _ _ _ _ (And.intro e2 ?_)
  refine hP _ _ _ _ ?_
  refine hP _ _ _ _ (x_q1 hQ ?_)
  have hd1 : c / n < 2 ^ 31 := by have := Nat.div_le_self c n; omega
  have hd2 : c % n < 2 ^ 31 := by have := Nat.mod_le c n; omega
  rw [h1, h2, h3, pk_div (by omega) (by omega) (by omega), pk_div hd1 (by omega) (by omega), pk_div (by omega) (by omega) (by omega), pk_mul, pk_mul, show nI (c / n * n) = nI (c / n) * nI n from (pk_mul _ _).symm, ← pk_div (a := c) (d := n) (by omega) (by omega) (by omega), pk_rem (by omega) (by omega) (by omega), pk_div hd2 (by omega) (by omega), nI_add]
  rfl
end M1
