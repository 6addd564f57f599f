/-! ===== the class: its world, geometry, the grid ===== -/
/-- the world with the class' objects at 0 .. 25; cs.1: fields (0 step, 1 cell, 2 symbol, 3 goers, 4 reasons of the finding; 5 the colours' size; 6 size, 7 depth of the history; 8 the sets' size), cs.2: arrays by their places -/
def w_C (n : Nat) (cs : x_S) (tl : List x_C) (bb : Nat × Nat) : x_H :=
  (.inr (7, [.ref 1, .ref 2, .ref 9, .ref 19, .ref 24, .ref 25]) ::
   .inr (5, [.ref 2, .ref 9, .int (nI n), .ref 12, .ref 15, .ref 18]) ::
   .inr (3, [.int (nI n), .int (nI (n * n)), .int (nI (3 * n)), .ref 3, .ref 4, .ref 5, .ref 6, .ref 7, .ref 8]) ::
   .inl (.int, n * n, .inl (cs.2 3)) :: .inl (.int, n * n, .inl (cs.2 4)) :: .inl (.int, 3 * n * n, .inl (cs.2 5)) :: .inl (.int, n * n * 3, .inl (cs.2 6)) :: .inl (.int, n * n * 3, .inl (cs.2 7)) :: .inl (.int, 3 * n * n, .inl (cs.2 8)) ::
   .inr (2, [.ref 10, .ref 11, .int (cs.1 0), .int (cs.1 1), .int (cs.1 2), .int (cs.1 3), .int (cs.1 4)]) ::
   .inl (.int, n * n, .inl (cs.2 10)) :: .inl (.int, n * n, .inl (cs.2 11)) ::
   .inr (6, [.int (nI n), .ref 13, .ref 14, .int (cs.1 8)]) ::
   .inl (.int, 2 ^ n, .inl (cs.2 13)) :: .inl (.int, 6, .inl (cs.2 14)) ::
   .inr (1, [.ref 16, .ref 17, .int (cs.1 5)]) ::
   .inl (.int, n * n, .inl (cs.2 16)) :: .inl (.int, 2 * (n * n), .inl (cs.2 17)) ::
   .inl (.int, n, .inl (cs.2 18)) ::
   .inr (4, [.ref 20, .ref 21, .ref 22, .ref 23, .int (cs.1 6), .int (cs.1 7)]) ::
   .inl (.int, n * n * n, .inl (cs.2 20)) :: .inl (.int, n * n * n + n * n, .inl (cs.2 21)) :: .inl (.int, n * n * n + n * n, .inl (cs.2 22)) :: .inl (.int, n * n * n + n * n, .inl (cs.2 23)) ::
   .inl (.boolean, 19, .inl (cs.2 24)) :: .inl (.int, 19, .inl (cs.2 25)) :: tl, bb)
/-- the house of cell c in direction e, its place there -/
def hoN (n w h c e : Nat) : Nat := if e = 0 then c / n else if e = 1 then n + c % n else 2 * n + boxN n w h c
def poN (n w h c e : Nat) : Nat := if e = 0 then c % n else if e = 1 then c / n else c / n % h * w + c % n % w
theorem geo_4 : ∀ c, c < 16 → ∀ e, e < 3 → hoN 4 2 2 c e / 4 = e ∧ hoN 4 2 2 c e < 12 ∧ poN 4 2 2 c e < 4 ∧ atN 4 2 2 (hoN 4 2 2 c e) (poN 4 2 2 c e) = c := by decide +kernel
theorem geo_6 : ∀ c, c < 36 → ∀ e, e < 3 → hoN 6 3 2 c e / 6 = e ∧ hoN 6 3 2 c e < 18 ∧ poN 6 3 2 c e < 6 ∧ atN 6 3 2 (hoN 6 3 2 c e) (poN 6 3 2 c e) = c := by decide +kernel
theorem geo_9 : ∀ c, c < 81 → ∀ e, e < 3 → hoN 9 3 3 c e / 9 = e ∧ hoN 9 3 3 c e < 27 ∧ poN 9 3 3 c e < 9 ∧ atN 9 3 3 (hoN 9 3 3 c e) (poN 9 3 3 c e) = c := by decide +kernel
theorem geo {n w h c e : Nat} (k : KD n w h) (hc : c < n * n) (he : e < 3) : hoN n w h c e / n = e ∧ hoN n w h c e < 3 * n ∧ poN n w h c e < n ∧ atN n w h (hoN n w h c e) (poN n w h c e) = c := by
  rcases k with ⟨rfl, rfl, rfl⟩ | ⟨rfl, rfl, rfl⟩ | ⟨rfl, rfl, rfl⟩
  · exact geo_4 c hc e he
  · exact geo_6 c hc e he
  · exact geo_9 c hc e he
theorem gat_4 : ∀ g, g < 12 → ∀ i, i < 4 → hoN 4 2 2 (atN 4 2 2 g i) (g / 4) = g ∧ poN 4 2 2 (atN 4 2 2 g i) (g / 4) = i ∧ g / 4 < 3 := by decide +kernel
theorem gat_6 : ∀ g, g < 18 → ∀ i, i < 6 → hoN 6 3 2 (atN 6 3 2 g i) (g / 6) = g ∧ poN 6 3 2 (atN 6 3 2 g i) (g / 6) = i ∧ g / 6 < 3 := by decide +kernel
theorem gat_9 : ∀ g, g < 27 → ∀ i, i < 9 → hoN 9 3 3 (atN 9 3 3 g i) (g / 9) = g ∧ poN 9 3 3 (atN 9 3 3 g i) (g / 9) = i ∧ g / 9 < 3 := by decide +kernel
theorem gat {n w h g i : Nat} (k : KD n w h) (hg : g < 3 * n) (hi : i < n) : hoN n w h (atN n w h g i) (g / n) = g ∧ poN n w h (atN n w h g i) (g / n) = i ∧ g / n < 3 := by
  rcases k with ⟨rfl, rfl, rfl⟩ | ⟨rfl, rfl, rfl⟩ | ⟨rfl, rfl, rfl⟩
  · exact gat_4 g hg i hi
  · exact gat_6 g hg i hi
  · exact gat_9 g hg i hi
theorem inN_4 : ∀ g, g < 12 → ∀ c, c < 16 → inN 4 2 2 g c = (hoN 4 2 2 c 0 == g || hoN 4 2 2 c 1 == g || hoN 4 2 2 c 2 == g) := by decide +kernel
theorem inN_6 : ∀ g, g < 18 → ∀ c, c < 36 → inN 6 3 2 g c = (hoN 6 3 2 c 0 == g || hoN 6 3 2 c 1 == g || hoN 6 3 2 c 2 == g) := by decide +kernel
theorem inN_9 : ∀ g, g < 27 → ∀ c, c < 81 → inN 9 3 3 g c = (hoN 9 3 3 c 0 == g || hoN 9 3 3 c 1 == g || hoN 9 3 3 c 2 == g) := by decide +kernel
theorem inN_ho {n w h g c : Nat} (k : KD n w h) (hg : g < 3 * n) (hc : c < n * n) : inN n w h g c = (hoN n w h c 0 == g || hoN n w h c 1 == g || hoN n w h c 2 == g) := by
  rcases k with ⟨rfl, rfl, rfl⟩ | ⟨rfl, rfl, rfl⟩ | ⟨rfl, rfl, rfl⟩
  · exact inN_4 g hg c hc
  · exact inN_6 g hg c hc
  · exact inN_9 g hg c hc
theorem seeN_ho (n w h a b : Nat) : seeN n w h a b = (a != b && (hoN n w h a 0 == hoN n w h b 0 || hoN n w h a 1 == hoN n w h b 1 || hoN n w h a 2 == hoN n w h b 2)) := by
  have e1 : (hoN n w h a 1 == hoN n w h b 1) = (a % n == b % n) := by
    show (n + a % n == n + b % n) = (a % n == b % n)
    rw [Bool.eq_iff_iff, beq_iff_eq, beq_iff_eq]
    omega
  have e2 : (hoN n w h a 2 == hoN n w h b 2) = (boxN n w h a == boxN n w h b) := by
    show (2 * n + boxN n w h a == 2 * n + boxN n w h b) = (boxN n w h a == boxN n w h b)
    rw [Bool.eq_iff_iff, beq_iff_eq, beq_iff_eq]
    omega
  rw [e1, e2]
  rfl
theorem ixB {a b m n : Nat} (ha : a < m) (hb : b < n) : a * n + b < m * n := by
  have h1 : (a + 1) * n ≤ m * n := Nat.mul_le_mul_right n ha
  rw [Nat.succ_mul] at h1
  omega
theorem ixI {a b c d n : Nat} (hb : b < n) (hd : d < n) (h : a * n + b = c * n + d) : a = c ∧ b = d := by
  have h1 : (a * n + b) / n = a := by rw [Nat.mul_comm, Nat.mul_add_div (by omega), Nat.div_eq_of_lt hb]; rfl
  have h2 : (c * n + d) / n = c := by rw [Nat.mul_comm, Nat.mul_add_div (by omega), Nat.div_eq_of_lt hd]; rfl
  have h3 : a = c := by rw [← h1, ← h2, h]
  subst h3
  exact ⟨rfl, by omega⟩
theorem KD.b3 {n w h : Nat} (k : KD n w h) : 3 * n * n ≤ 243 ∧ n * n * 3 ≤ 243 ∧ n * n * n ≤ 729 ∧ n * n * n + n * n ≤ 810 ∧ 2 * (n * n) ≤ 162 ∧ 2 ^ n ≤ 512 ∧ 16 ≤ n * n := by
  rcases k with ⟨rfl, rfl, rfl⟩ | ⟨rfl, rfl, rfl⟩ | ⟨rfl, rfl, rfl⟩ <;> decide
theorem ix (a b c : Nat) : nI a * nI b + nI c = nI (a * b + c) := by rw [pk_mul, nI_add]
theorem ix3 (a c : Nat) : nI a * Int32.ofInt 3 + nI c = nI (a * 3 + c) := by rw [oi3, pk_mul, nI_add]
theorem ldx {f : Nat → Int32} {i : Nat} {v x : Int32} (h : f i = v) (e : x = nI i) (hi : i < 2 ^ 31) : f x.toNatClampNeg = v := by subst e; rw [nI_clamp hi]; exact h
theorem upx {f : Nat → Int32} {i : Nat} {v x : Int32} (e : x = nI i) (hi : i < 2 ^ 31) : upd f x.toNatClampNeg v = upd f i v := by subst e; rw [nI_clamp hi]
theorem vpx {i N : Nat} {x : Int32} (e : x = nI i) (h : i < N) (hN : N < 2 ^ 31) : vp_in x N := by subst e; exact vp_in_nI h hN
/-! bits counted, the least bit -/
def ush (x k : Int32) : Int32 := (x.toUInt32 >>> (k.toUInt32 &&& Int32.toUInt32 31)).toInt32
def bc1 (x : Int32) : Int32 := x - (ush x (Int32.ofInt 1) &&& 1431655765)
def bc2 (x : Int32) : Int32 := (x &&& 858993459) + (ush x (Int32.ofInt 2) &&& 858993459)
def bc3 (x : Int32) : Int32 := (x + ush x (Int32.ofInt 4)) &&& 252645135
def bc4 (x : Int32) : Int32 := x + ush x (Int8.ofInt 8).toInt32
def bc5 (x : Int32) : Int32 := x + ush x (Int8.ofInt 16).toInt32
def bcI (x : Int32) : Int32 := bc5 (bc4 (bc3 (bc2 (bc1 x)))) &&& (Int8.ofInt 63).toInt32
theorem bc_ok : ∀ b, b < 512 → bcI (nI b) = nI (pcN b) := by decide +kernel
section CG
variable {sc : Nat × (Nat → Int32)} {cs : x_S} {tl : List x_C} {bb : Nat × Nat} {n w h d : Nat} {Q : x_O → x_H → Prop} {cb : Nat → Nat} {vb : Nat → Option Nat}
theorem c_bitCount {b : Nat} {X : x_H} (hb : b < 512) {x : Int32} (hx : x = nI b) (hQ : Q (.inl (some (.int (nI (pcN b))))) X) : x_run sc x_MM x_EX (d + 1) k_J6_bitCount [.int x] X Q := by
  subst hx
  rw [← bc_ok b hb] at hQ
  refine x_in (M := m_J6_bitCount) rfl rfl (Nat.le_of_ble_eq_true rfl) ⟨rfl, trivial⟩ ?_
  intro P hP
  repeat refine hP _ _ _ _ ?_
  exact hQ
theorem c_leastBit {b : Nat} {X : x_H} (hb : b < 512) (h0 : b ≠ 0) {x : Int32} (hx : x = nI b) (hQ : Q (.inl (some (.int (nI (lowN b))))) X) : x_run sc x_MM x_EX (d + 1) k_X7_leastBit [.int x] X Q := by
  subst hx
  obtain ⟨l1, l2, l3⟩ := lowN_ok b hb h0
  refine x_in (M := m_X7_leastBit) rfl rfl (Nat.le_of_ble_eq_true rfl) ⟨rfl, trivial⟩ ?_
  intro P hP
  have loop : ∀ k, k ≤ lowN b → P 2 [some (.int (nI b)), some (.int (nI k))] [] X := by
    refine x_lp (lowN b) (fun k hk ih => ?_)
    repeat refine hP _ _ _ _ ?_
    refine b_ge (k) (31) (fun h31 => ?_) (fun h31 => ?_) (rfl) (by decide) (by omega) (by omega)
    · omega
    · repeat refine hP _ _ _ _ ?_
      refine b_ifne (fun hb2 => ?_) (fun hb2 => ?_) (bit1 hb (by omega))
      · have e : k = lowN b := by
          rcases Nat.lt_or_ge k (lowN b) with h9 | h9
          · rw [l3 k h9] at hb2; cases hb2
          · omega
        subst e
        repeat refine hP _ _ _ _ ?_
        exact hQ
      · have h9 : k < lowN b := by
          rcases Nat.lt_or_ge k (lowN b) with h9 | h9
          · exact h9
          · have e : k = lowN b := by omega
            subst e
            rw [l2] at hb2; cases hb2
        have ih := ih h9
        iterate 2 refine hP _ _ _ _ ?_
        refine x_p4 (P := P) (ih) ?_ rfl ?_ <;> try (first | rfl | (rw [nI_succ]; rfl))
  iterate 2 refine hP _ _ _ _ ?_
  refine x_p4 (P := P) (loop 0 (by omega)) ?_ rfl ?_ <;> try (first | rfl | (rw [nI_succ]; rfl))
/-- the grid's fixed tables -/
def gC (cs : x_S) (n w h : Nat) : Prop := KD n w h ∧ (∀ g i, g < 3 * n → i < n → cs.2 5 (g * n + i) = nI (atN n w h g i)) ∧ (∀ c e, c < n * n → e < 3 → cs.2 6 (c * 3 + e) = nI (hoN n w h c e)) ∧ ∀ c e, c < n * n → e < 3 → cs.2 7 (c * 3 + e) = nI (poN n w h c e)
def cC (cs : x_S) (n : Nat) (cb : Nat → Nat) : Prop := ∀ c, c < n * n → cs.2 3 c = nI (cb c) ∧ cb c < 2 ^ n
def vC (cs : x_S) (n : Nat) (vb : Nat → Option Nat) : Prop := ∀ c, c < n * n → cs.2 4 c = vI (vb c) ∧ ∀ s, vb c = some s → s < n
def pC (cs : x_S) (n w h : Nat) (cb : Nat → Nat) : Prop := ∀ g s, g < 3 * n → s < n → cs.2 8 (g * n + s) = nI (plB cb n w h g s n)
theorem c_cell (hG : gC cs n w h) {g i : Nat} (hg : g < 3 * n) (hi : i < n) {x y : Int32} (hx : x = nI g) (hy : y = nI i) (hQ : Q (.inl (some (.int (nI (atN n w h g i))))) (w_C n cs tl bb)) : x_run sc x_MM x_EX (d + 1) k_X2_cell [.ref 2, .int x, .int y] (w_C n cs tl bb) Q := by
  subst hx; subst hy
  obtain ⟨b1, b2, b3, b4, b5, b6, b7⟩ := hG.1.b3
  have hb := ixB hg hi
  refine x_in (M := m_X2_cell) rfl rfl (Nat.le_of_ble_eq_true rfl) ⟨rfl, rfl, rfl, trivial⟩ ?_
  intro P hP
  repeat refine hP _ _ _ _ ?_
  refine And.intro (vpx (ix g n i) hb (by omega)) ?_
  rw [ldx (f := cs.2 5) (hG.2.1 g i hg hi) (ix g n i) (by omega)]
  repeat refine hP _ _ _ _ ?_
  exact hQ
theorem c_house (hG : gC cs n w h) {c e : Nat} (hc : c < n * n) (he : e < 3) {x y : Int32} (hx : x = nI c) (hy : y = nI e) (hQ : Q (.inl (some (.int (nI (hoN n w h c e))))) (w_C n cs tl bb)) : x_run sc x_MM x_EX (d + 1) k_X2_house [.ref 2, .int x, .int y] (w_C n cs tl bb) Q := by
  subst hx; subst hy
  obtain ⟨b1, b2, b3, b4, b5, b6, b7⟩ := hG.1.b3
  have hb := ixB hc he
  refine x_in (M := m_X2_house) rfl rfl (Nat.le_of_ble_eq_true rfl) ⟨rfl, rfl, rfl, trivial⟩ ?_
  intro P hP
  repeat refine hP _ _ _ _ ?_
  refine And.intro (vpx (ix3 c e) hb (by omega)) ?_
  rw [ldx (f := cs.2 6) (hG.2.2.1 c e hc he) (ix3 c e) (by omega)]
  repeat refine hP _ _ _ _ ?_
  exact hQ
theorem c_rowOf (hG : gC cs n w h) {c : Nat} (hc : c < n * n) (hQ : Q (.inl (some (.int (nI (c / n))))) (w_C n cs tl bb)) : x_run sc x_MM x_EX (d + 2) k_X2_rowOf [.ref 2, .int (nI c)] (w_C n cs tl bb) Q := by
  refine x_in (M := m_X2_rowOf) rfl rfl (Nat.le_of_ble_eq_true rfl) ⟨rfl, rfl, trivial⟩ ?_
  intro P hP
  repeat refine hP _ _ _ _ ?_
  refine c_house hG hc (e := 0) (by omega) rfl rfl ?_
  repeat refine hP _ _ _ _ ?_
  exact hQ
theorem c_columnOf (hG : gC cs n w h) {c : Nat} (hc : c < n * n) (hQ : Q (.inl (some (.int (nI (c % n))))) (w_C n cs tl bb)) : x_run sc x_MM x_EX (d + 2) k_X2_columnOf [.ref 2, .int (nI c)] (w_C n cs tl bb) Q := by
  refine x_in (M := m_X2_columnOf) rfl rfl (Nat.le_of_ble_eq_true rfl) ⟨rfl, rfl, trivial⟩ ?_
  intro P hP
  repeat refine hP _ _ _ _ ?_
  refine c_house hG hc (e := 1) (by omega) rfl rfl ?_
  repeat refine hP _ _ _ _ ?_
  refine x_q1 hQ ?_
  show nI (c % n) = nI (n + c % n) - nI n
  rw [pk_sub (by omega), Nat.add_sub_cancel_left]
theorem c_places (hG : gC cs n w h) (hP9 : pC cs n w h cb) {g s : Nat} (hg : g < 3 * n) (hs : s < n) {x y : Int32} (hx : x = nI g) (hy : y = nI s) (hQ : Q (.inl (some (.int (nI (plB cb n w h g s n))))) (w_C n cs tl bb)) : x_run sc x_MM x_EX (d + 1) k_X2_places [.ref 2, .int x, .int y] (w_C n cs tl bb) Q := by
  subst hx; subst hy
  obtain ⟨b1, b2, b3, b4, b5, b6, b7⟩ := hG.1.b3
  have hb := ixB hg hs
  refine x_in (M := m_X2_places) rfl rfl (Nat.le_of_ble_eq_true rfl) ⟨rfl, rfl, rfl, trivial⟩ ?_
  intro P hP
  repeat refine hP _ _ _ _ ?_
  refine And.intro (vpx (ix g n s) hb (by omega)) ?_
  rw [ldx (f := cs.2 8) (hP9 g s hg hs) (ix g n s) (by omega)]
  repeat refine hP _ _ _ _ ?_
  exact hQ
theorem vI_m1 {o : Option Nat} (ho : ∀ s, o = some s → s < 2 ^ 31) : vI o = -1 ↔ o = none := by
  cases o with
  | none => exact ⟨fun _ => rfl, fun _ => rfl⟩
  | some s => exact ⟨fun e => absurd e (nI_m1 (ho s rfl)), fun e => by cases e⟩
theorem c_isOpen (k : KD n w h) (hV : vC cs n vb) {c : Nat} (hc : c < n * n) {x : Int32} (hx : x = nI c) (hQ : Q (.inl (some (.int (bI (vb c).isNone)))) (w_C n cs tl bb)) : x_run sc x_MM x_EX (d + 1) k_X2_isOpen [.ref 2, .int x] (w_C n cs tl bb) Q := by
  subst hx
  obtain ⟨g1, g2, g3, g4, g5, g6, g7, g8⟩ := k.le
  have hvc := hV c hc
  have ho : ∀ s, vb c = some s → s < 2 ^ 31 := fun s hs => by have := hvc.2 s hs; omega
  refine x_in (M := m_X2_isOpen) rfl rfl (Nat.le_of_ble_eq_true rfl) ⟨rfl, rfl, trivial⟩ ?_
  intro P hP
  repeat refine hP _ _ _ _ ?_
  refine And.intro (vp_in_nI hc (by omega)) ?_
  rw [ldv (f := cs.2 4) hvc.1 (by omega)]
  repeat refine hP _ _ _ _ ?_
  refine And.intro (fun h9 => ?_) (fun h9 => ?_)
  · have h9 : ¬ vI (vb c) = -1 := h9
    rw [vI_m1 ho] at h9
    repeat refine hP _ _ _ _ ?_
    refine And.intro rfl (x_q1 hQ ?_)
    cases hv : vb c with
    | none => exact absurd hv h9
    | some _ => rfl
  · have h9 : vI (vb c) = -1 := Decidable.of_not_not h9
    rw [vI_m1 ho] at h9
    repeat refine hP _ _ _ _ ?_
    refine And.intro rfl (x_q1 hQ ?_)
    rw [h9]
    rfl
theorem c_isIn (hG : gC cs n w h) {c g : Nat} (hc : c < n * n) (hg : g < 3 * n) {x y : Int32} (hx : x = nI c) (hy : y = nI g) (hQ : Q (.inl (some (.int (bI (inN n w h g c))))) (w_C n cs tl bb)) : x_run sc x_MM x_EX (d + 2) k_X2_isIn [.ref 2, .int x, .int y] (w_C n cs tl bb) Q := by
  subst hx; subst hy
  obtain ⟨g1, g2, g3, g4, g5, g6, g7, g8⟩ := hG.1.le
  have q0 := (geo hG.1 hc (e := 0) (by omega)).2.1
  have q1 := (geo hG.1 hc (e := 1) (by omega)).2.1
  have q2 := (geo hG.1 hc (e := 2) (by omega)).2.1
  rw [inN_ho hG.1 hg hc] at hQ
  refine x_in (M := m_X2_isIn) rfl rfl (Nat.le_of_ble_eq_true rfl) ⟨rfl, rfl, rfl, trivial⟩ ?_
  intro P hP
  have yes : (hoN n w h c 0 == g || hoN n w h c 1 == g || hoN n w h c 2 == g) = true → P 30 [some (.ref 2), some (.int (nI c)), some (.int (nI g))] [] (w_C n cs tl bb) := by
    intro hy
    repeat refine hP _ _ _ _ ?_
    refine And.intro rfl (x_q1 hQ ?_)
    rw [hy]; rfl
  repeat refine hP _ _ _ _ ?_
  refine c_house hG hc (e := 0) (by omega) rfl rfl ?_
  repeat refine hP _ _ _ _ ?_
  refine b_eq (hoN n w h c 0) (g) (fun h0 => ?_) (fun h0 => ?_) (rfl) (rfl) (by omega) (by omega)
  · exact yes (by rw [h0]; simp)
  · repeat refine hP _ _ _ _ ?_
    refine c_house hG hc (e := 1) (by omega) rfl rfl ?_
    repeat refine hP _ _ _ _ ?_
    refine b_eq (hoN n w h c 1) (g) (fun h1 => ?_) (fun h1 => ?_) (rfl) (rfl) (by omega) (by omega)
    · exact yes (by rw [h1]; simp)
    · repeat refine hP _ _ _ _ ?_
      refine c_house hG hc (e := 2) (by omega) rfl rfl ?_
      repeat refine hP _ _ _ _ ?_
      refine b_ne (hoN n w h c 2) (g) (fun h2 => ?_) (fun h2 => ?_) (rfl) (rfl) (by omega) (by omega)
      · repeat refine hP _ _ _ _ ?_
        refine And.intro rfl (x_q1 hQ ?_)
        rw [beq_eq_false_iff_ne.mpr h0, beq_eq_false_iff_ne.mpr h1, beq_eq_false_iff_ne.mpr h2]; rfl
      · exact yes (by rw [h2]; simp)
theorem c_see (hG : gC cs n w h) {a b : Nat} (ha : a < n * n) (hb : b < n * n) {x y : Int32} (hx : x = nI a) (hy : y = nI b) (hQ : Q (.inl (some (.int (bI (seeN n w h a b))))) (w_C n cs tl bb)) : x_run sc x_MM x_EX (d + 1) k_X2_see [.ref 2, .int x, .int y] (w_C n cs tl bb) Q := by
  subst hx; subst hy
  obtain ⟨g1, g2, g3, g4, g5, g6, g7, g8⟩ := hG.1.le
  obtain ⟨b1, b2, b3, b4, b5, b6, b7⟩ := hG.1.b3
  have qa : ∀ e, e < 3 → hoN n w h a e < 3 * n := fun e he => (geo hG.1 ha he).2.1
  have qb : ∀ e, e < 3 → hoN n w h b e < 3 * n := fun e he => (geo hG.1 hb he).2.1
  have qa0 := qa 0 (by omega)
  have qa1 := qa 1 (by omega)
  have qa2 := qa 2 (by omega)
  have qb0 := qb 0 (by omega)
  have qb1 := qb 1 (by omega)
  have qb2 := qb 2 (by omega)
  rw [seeN_ho] at hQ
  have e0 : ∀ c, nI c * Int32.ofInt 3 + Int32.ofInt 0 = nI (c * 3 + 0) := fun c => by rw [oi0]; exact ix3 c 0
  have e1 : ∀ c, nI c * Int32.ofInt 3 + Int32.ofInt 1 = nI (c * 3 + 1) := fun c => by rw [oi1]; exact ix3 c 1
  have e2 : ∀ c, nI c * Int32.ofInt 3 + Int32.ofInt 2 = nI (c * 3 + 2) := fun c => by rw [oi2]; exact ix3 c 2
  refine x_in (M := m_X2_see) rfl rfl (Nat.le_of_ble_eq_true rfl) ⟨rfl, rfl, rfl, trivial⟩ ?_
  intro P hP
  have yes : (a != b && (hoN n w h a 0 == hoN n w h b 0 || hoN n w h a 1 == hoN n w h b 1 || hoN n w h a 2 == hoN n w h b 2)) = true → P 74 [some (.ref 2), some (.int (nI a)), some (.int (nI b)), some (.int (nI a * Int32.ofInt 3)), some (.int (nI b * Int32.ofInt 3))] [] (w_C n cs tl bb) := by
    intro hy
    repeat refine hP _ _ _ _ ?_
    refine And.intro rfl (x_q1 hQ ?_)
    rw [hy]; rfl
  have no : (a != b && (hoN n w h a 0 == hoN n w h b 0 || hoN n w h a 1 == hoN n w h b 1 || hoN n w h a 2 == hoN n w h b 2)) = false → P 78 [some (.ref 2), some (.int (nI a)), some (.int (nI b)), some (.int (nI a * Int32.ofInt 3)), some (.int (nI b * Int32.ofInt 3))] [] (w_C n cs tl bb) := by
    intro hy
    repeat refine hP _ _ _ _ ?_
    refine And.intro rfl (x_q1 hQ ?_)
    rw [hy]; rfl
  repeat refine hP _ _ _ _ ?_
  refine b_eq (a) (b) (fun hab => ?_) (fun hab => ?_) (rfl) (rfl) (by omega) (by omega)
  · exact no (by rw [hab]; simp)
  · have hne : (a != b) = true := by rw [bne_iff_ne]; exact hab
    rw [hne, Bool.true_and] at yes no
    repeat refine hP _ _ _ _ ?_
    refine And.intro (vpx (e0 a) (ixB ha (by omega)) (by omega)) ?_
    rw [ldx (f := cs.2 6) (hG.2.2.1 a 0 ha (by omega)) (e0 a) (by omega)]
    repeat refine hP _ _ _ _ ?_
    refine And.intro (vpx (e0 b) (ixB hb (by omega)) (by omega)) ?_
    rw [ldx (f := cs.2 6) (hG.2.2.1 b 0 hb (by omega)) (e0 b) (by omega)]
    repeat refine hP _ _ _ _ ?_
    refine b_eq (hoN n w h a 0) (hoN n w h b 0) (fun h0 => ?_) (fun h0 => ?_) (rfl) (rfl) (by omega) (by omega)
    · exact yes (by rw [h0]; simp)
    · repeat refine hP _ _ _ _ ?_
      refine And.intro (vpx (e1 a) (ixB ha (by omega)) (by omega)) ?_
      rw [ldx (f := cs.2 6) (hG.2.2.1 a 1 ha (by omega)) (e1 a) (by omega)]
      repeat refine hP _ _ _ _ ?_
      refine And.intro (vpx (e1 b) (ixB hb (by omega)) (by omega)) ?_
      rw [ldx (f := cs.2 6) (hG.2.2.1 b 1 hb (by omega)) (e1 b) (by omega)]
      repeat refine hP _ _ _ _ ?_
      refine b_eq (hoN n w h a 1) (hoN n w h b 1) (fun h1 => ?_) (fun h1 => ?_) (rfl) (rfl) (by omega) (by omega)
      · exact yes (by rw [h1]; simp)
      · repeat refine hP _ _ _ _ ?_
        refine And.intro (vpx (e2 a) (ixB ha (by omega)) (by omega)) ?_
        rw [ldx (f := cs.2 6) (hG.2.2.1 a 2 ha (by omega)) (e2 a) (by omega)]
        repeat refine hP _ _ _ _ ?_
        refine And.intro (vpx (e2 b) (ixB hb (by omega)) (by omega)) ?_
        rw [ldx (f := cs.2 6) (hG.2.2.1 b 2 hb (by omega)) (e2 b) (by omega)]
        repeat refine hP _ _ _ _ ?_
        refine b_ne (hoN n w h a 2) (hoN n w h b 2) (fun h2 => ?_) (fun h2 => ?_) (rfl) (rfl) (by omega) (by omega)
        · exact no (by rw [beq_eq_false_iff_ne.mpr h0, beq_eq_false_iff_ne.mpr h1, beq_eq_false_iff_ne.mpr h2]; rfl)
        · exact yes (by rw [h2]; simp)
end CG
