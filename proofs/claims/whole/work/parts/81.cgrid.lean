/-! ===== the class: its making: the grid ===== -/
def vokB (n : Nat) (v : Value) : Bool := match v with
  | .ref k => decide (k < n) || decide (k = x_SP)
  | _ => true
def lokB (n : Nat) : x_L → Bool
  | [] => true
  | none :: L => lokB n L
  | some v :: L => vokB n v && lokB n L
def sokB (n : Nat) : List Value → Bool
  | [] => true
  | v :: L => vokB n v && sokB n L
def hokB (n : Nat) : List x_C → Bool
  | [] => true
  | .inl _ :: X => hokB n X
  | .inr (_, fs) :: X => sokB n fs && hokB n X
theorem vok_B {n : Nat} {v : Value} (h : vokB n v = true) : x_vok n v := by
  cases v with
  | ref k =>
    have h : (decide (k < n) || decide (k = x_SP)) = true := h
    rw [Bool.or_eq_true, decide_eq_true_eq, decide_eq_true_eq] at h
    exact h
  | _ => trivial
theorem lok_B {n : Nat} : ∀ {L : x_L}, lokB n L = true → x_lok n L
  | [], _ => trivial
  | none :: L, h => lok_B (L := L) h
  | some v :: L, h => by
    have h : (vokB n v && lokB n L) = true := h
    rw [Bool.and_eq_true] at h
    exact ⟨vok_B h.1, lok_B h.2⟩
theorem sok_B {n : Nat} : ∀ {L : List Value}, sokB n L = true → x_sok n L
  | [], _ => trivial
  | v :: L, h => by
    have h : (vokB n v && sokB n L) = true := h
    rw [Bool.and_eq_true] at h
    exact ⟨vok_B h.1, sok_B h.2⟩
theorem hok_B {n : Nat} : ∀ {X : List x_C}, hokB n X = true → x_hok n X
  | [], _ => trivial
  | .inl _ :: X, h => hok_B (X := X) h
  | .inr (_, fs) :: X, h => by
    have h : (sokB n fs && hokB n X) = true := h
    rw [Bool.and_eq_true] at h
    exact ⟨sok_B h.1, hok_B h.2⟩
theorem aok_B {L : x_L} {st : List Value} {X : List x_C} (h : (decide (X.length < x_SP) && (lokB X.length L && (sokB X.length st && hokB X.length X))) = true) : x_aok L st X := by
  rw [Bool.and_eq_true, Bool.and_eq_true, Bool.and_eq_true, decide_eq_true_eq] at h
  exact ⟨h.1, lok_B h.2.1, sok_B h.2.2.1, hok_B h.2.2.2⟩
/-- the grid at 2 and its arrays behind it -/
def w_G (c0 c1 : x_C) (n : Nat) (A : Nat → Nat → Int32) (tl : List x_C) (bb : Nat × Nat) : x_H :=
  (c0 :: c1 :: .inr (3, [.int (nI n), .int (nI (n * n)), .int (nI (3 * n)), .ref 3, .ref 4, .ref 5, .ref 6, .ref 7, .ref 8]) ::
   .inl (.int, n * n, .inl (A 3)) :: .inl (.int, n * n, .inl (A 4)) :: .inl (.int, 3 * n * n, .inl (A 5)) :: .inl (.int, n * n * 3, .inl (A 6)) :: .inl (.int, n * n * 3, .inl (A 7)) :: .inl (.int, 3 * n * n, .inl (A 8)) :: tl, bb)
def sG (A : Nat → Nat → Int32) (p : Nat) (g : Nat → Int32) : Nat → Nat → Int32 := fun q => if q = p then g else A q
/-- what is laid -/
def ldD (A : Nat → Nat → Int32) (n w h : Nat) (D : Nat → Nat → Prop) : Prop := ∀ c e, c < n * n → e < 3 → D c e → A 6 (c * 3 + e) = nI (hoN n w h c e) ∧ A 7 (c * 3 + e) = nI (poN n w h c e) ∧ A 5 (hoN n w h c e * n + poN n w h c e) = nI c
theorem bx_4 : ∀ a, a < 2 → ∀ b, b < 2 → ∀ u, u < 2 → ∀ v, v < 2 → 4 * (a * 2 + u) + (b * 2 + v) < 4 * 4 ∧ boxN 4 2 2 (4 * (a * 2 + u) + (b * 2 + v)) = a * 2 + b ∧ poN 4 2 2 (4 * (a * 2 + u) + (b * 2 + v)) 2 = u * 2 + v := by decide +kernel
theorem bx_6 : ∀ a, a < 3 → ∀ b, b < 2 → ∀ u, u < 2 → ∀ v, v < 3 → 6 * (a * 2 + u) + (b * 3 + v) < 6 * 6 ∧ boxN 6 3 2 (6 * (a * 2 + u) + (b * 3 + v)) = a * 2 + b ∧ poN 6 3 2 (6 * (a * 2 + u) + (b * 3 + v)) 2 = u * 3 + v := by decide +kernel
theorem bx_9 : ∀ a, a < 3 → ∀ b, b < 3 → ∀ u, u < 3 → ∀ v, v < 3 → 9 * (a * 3 + u) + (b * 3 + v) < 9 * 9 ∧ boxN 9 3 3 (9 * (a * 3 + u) + (b * 3 + v)) = a * 3 + b ∧ poN 9 3 3 (9 * (a * 3 + u) + (b * 3 + v)) 2 = u * 3 + v := by decide +kernel
theorem bx_ok {n w h a b u v : Nat} (k : KD n w h) (ha : a < w) (hb : b < h) (hu : u < h) (hv : v < w) : n * (a * h + u) + (b * w + v) < n * n ∧ boxN n w h (n * (a * h + u) + (b * w + v)) = a * h + b ∧ poN n w h (n * (a * h + u) + (b * w + v)) 2 = u * w + v := by
  rcases k with ⟨rfl, rfl, rfl⟩ | ⟨rfl, rfl, rfl⟩ | ⟨rfl, rfl, rfl⟩
  · exact bx_4 a ha b hb u hu v hv
  · exact bx_6 a ha b hb u hu v hv
  · exact bx_9 a ha b hb u hu v hv
def Dx (n w h bx pl : Nat) (c e : Nat) : Prop := e < 2 ∨ (e = 2 ∧ (boxN n w h c < bx ∨ (boxN n w h c = bx ∧ poN n w h c 2 < pl)))
theorem ldD_mono {A : Nat → Nat → Int32} {n w h : Nat} {D D' : Nat → Nat → Prop} (hL : ldD A n w h D) (hm : ∀ c e, c < n * n → e < 3 → D' c e → D c e) : ldD A n w h D' := fun c e hc he hd => hL c e hc he (hm c e hc he hd)
section GI
variable {sc : Nat × (Nat → Int32)} {c0 c1 : x_C} {A : Nat → Nat → Int32} {tl : List x_C} {bb : Nat × Nat} {n w h d : Nat} {Q : x_O → x_H → Prop}
theorem g_lay (k : KD n w h) {D : Nat → Nat → Prop} (hL : ldD A n w h D) {c e i p : Nat} (hc : c < n * n) (he : e < 3) (hi : e * n + i = hoN n w h c e) (hp : p = poN n w h c e) {x y z u : Int32} (hx : x = nI c) (hy : y = nI e) (hz : z = nI i) (hu : u = nI p) (hQ : ∀ A' : Nat → Nat → Int32, (∀ q, q ≠ 5 → q ≠ 6 → q ≠ 7 → A' q = A q) → ldD A' n w h (fun c' e' => D c' e' ∨ (c' = c ∧ e' = e)) → Q (.inl none) (w_G c0 c1 n A' tl bb)) : x_run sc x_MM x_EX (d + 1) k_X2_lay [.ref 2, .int x, .int y, .int z, .int u] (w_G c0 c1 n A tl bb) Q := by
  subst hx; subst hy; subst hz; subst hu; subst hp
  obtain ⟨g1, g2, g3, g4, g5, g6, g7, g8⟩ := k.le
  obtain ⟨b1, b2, b3, b4, b5, b6, b7⟩ := k.b3
  obtain ⟨q1, q2, q3, q4⟩ := geo k hc he
  have hb := ixB hc he
  have hb2 := ixB q2 q3
  have eh : nI e * nI n + nI i = nI (hoN n w h c e) := by rw [ix, hi]
  have e1 : (nI e * nI n + nI i) * nI n + nI (poN n w h c e) = nI (hoN n w h c e * n + poN n w h c e) := by rw [eh, ix]
  refine x_in (M := m_X2_lay) rfl rfl (Nat.le_of_ble_eq_true rfl) ⟨rfl, rfl, rfl, rfl, rfl, trivial⟩ ?_
  intro P hP
  repeat refine hP _ _ _ _ ?_
  refine And.intro (vpx e1 hb2 (by omega)) ?_
  rw [upx (f := A 5) e1 (by omega)]
  repeat refine hP _ _ _ _ ?_
  refine And.intro (vpx (ix3 c e) hb (by omega)) ?_
  rw [upx (f := A 6) (ix3 c e) (by omega), eh]
  repeat refine hP _ _ _ _ ?_
  refine And.intro (vpx (ix3 c e) hb (by omega)) ?_
  rw [upx (f := A 7) (ix3 c e) (by omega)]
  repeat refine hP _ _ _ _ ?_
  refine x_q2 (hQ (sG (sG (sG A 5 (upd (A 5) (hoN n w h c e * n + poN n w h c e) (nI c))) 6 (upd (A 6) (c * 3 + e) (nI (hoN n w h c e)))) 7 (upd (A 7) (c * 3 + e) (nI (poN n w h c e)))) (fun q h5 h6 h7 => by show (if q = 7 then _ else if q = 6 then _ else if q = 5 then _ else A q) = _; rw [if_neg h7, if_neg h6, if_neg h5]) (fun c' e' hc' he' hd => ?_)) rfl
  show upd (A 6) (c * 3 + e) (nI (hoN n w h c e)) (c' * 3 + e') = _ ∧ upd (A 7) (c * 3 + e) (nI (poN n w h c e)) (c' * 3 + e') = _ ∧ upd (A 5) (hoN n w h c e * n + poN n w h c e) (nI c) (hoN n w h c' e' * n + poN n w h c' e') = _
  obtain ⟨p1, p2, p3, p4⟩ := geo k hc' he'
  by_cases hce : c' = c ∧ e' = e
  · obtain ⟨rfl, rfl⟩ := hce
    rw [pk_us, pk_us, pk_us]
    exact ⟨rfl, rfl, rfl⟩
  · have hd : D c' e' := hd.resolve_right hce
    obtain ⟨d1, d2, d3⟩ := hL c' e' hc' he' hd
    rw [pk_un (fun e9 => hce (ixI he' he e9)), pk_un (fun e9 => hce (ixI he' he e9)), pk_un (fun e9 => ?_)]
    · exact ⟨d1, d2, d3⟩
    · have h9 := ixI p3 q3 e9
      have ee : e' = e := by rw [← p1, ← q1, h9.1]
      have ec : c' = c := by rw [← p4, ← q4, h9.1, h9.2]
      exact hce ⟨ec, ee⟩
theorem g_layLines (k : KD n w h) (hQ : ∀ A' : Nat → Nat → Int32, (∀ q, q ≠ 5 → q ≠ 6 → q ≠ 7 → A' q = A q) → ldD A' n w h (fun _ e => e < 2) → Q (.inl none) (w_G c0 c1 n A' tl bb)) : x_run sc x_MM x_EX (d + 2) k_X2_layLines [.ref 2] (w_G c0 c1 n A tl bb) Q := by
  obtain ⟨g1, g2, g3, g4, g5, g6, g7, g8⟩ := k.le
  refine x_in (M := m_X2_layLines) rfl rfl (Nat.le_of_ble_eq_true rfl) ⟨rfl, trivial⟩ ?_
  intro P hP
  have loop : ∀ y, y ≤ n → ∀ A2 : Nat → Nat → Int32, (∀ q, q ≠ 5 → q ≠ 6 → q ≠ 7 → A2 q = A q) → ldD A2 n w h (fun c e => e < 2 ∧ c < n * y) → ∀ x2, P 2 [some (.ref 2), some (.int (nI y)), x2] [] (w_G c0 c1 n A2 tl bb) := by
    refine x_lp n (fun y hy ih A2 hA hL x2 => ?_)
    repeat refine hP _ _ _ _ ?_
    refine b_ge (y) (n) (fun hy9 => ?_) (fun hy9 => ?_) (rfl) (rfl) (by omega) (by omega)
    · have e9 : y = n := by omega
      subst e9
      repeat refine hP _ _ _ _ ?_
      exact hQ A2 hA (ldD_mono hL (fun c e hc _ he => ⟨he, hc⟩))
    · have ih := ih hy9
      have inner : ∀ x, x ≤ n → ∀ A3 : Nat → Nat → Int32, (∀ q, q ≠ 5 → q ≠ 6 → q ≠ 7 → A3 q = A q) → ldD A3 n w h (fun c e => e < 2 ∧ c < n * y + x) → P 12 [some (.ref 2), some (.int (nI y)), some (.int (nI x))] [] (w_G c0 c1 n A3 tl bb) := by
        refine x_lp n (fun x hx ihx A3 hA3 hL3 => ?_)
        repeat refine hP _ _ _ _ ?_
        refine b_ge (x) (n) (fun hx9 => ?_) (fun hx9 => ?_) (rfl) (rfl) (by omega) (by omega)
        · have e9 : x = n := by omega
          subst e9
          iterate 2 refine hP _ _ _ _ ?_
          refine x_p4 (P := P) (ih A3 hA3 (ldD_mono hL3 (fun c e _ _ hd => ⟨hd.1, by have := hd.2; rw [Nat.mul_succ] at this; exact this⟩)) (some (.int (nI x)))) ?_ rfl ?_ <;> try (first | rfl | (rw [nI_succ]; rfl))
        · have ihx := ihx hx9
          have hc : n * y + x < n * n := by rw [← at_row (w := w) (h := h) hy9]; exact atN_lt k (by omega) hx9
          have d1 : (n * y + x) / n = y := by rw [Nat.mul_add_div (by omega), Nat.div_eq_of_lt hx9]; rfl
          have d2 : (n * y + x) % n = x := by rw [Nat.mul_add_mod, Nat.mod_eq_of_lt hx9]
          repeat refine hP _ _ _ _ ?_
          refine g_lay k hL3 hc (e := 0) (i := y) (p := x) (by omega) (by show 0 * n + y = (n * y + x) / n; rw [d1]; omega) (by show x = (n * y + x) % n; rw [d2]) (ix n y x) rfl rfl rfl (fun A4 hA4 hL4 => ?_)
          repeat refine hP _ _ _ _ ?_
          refine g_lay k hL4 hc (e := 1) (i := x) (p := y) (by omega) (by show 1 * n + x = n + (n * y + x) % n; rw [d2]; omega) (by show y = (n * y + x) / n; rw [d1]) (ix n y x) rfl rfl rfl (fun A5 hA5 hL5 => ?_)
          iterate 2 refine hP _ _ _ _ ?_
          refine x_p4 (P := P) (ihx A5 (fun q h5 h6 h7 => (hA5 q h5 h6 h7).trans ((hA4 q h5 h6 h7).trans (hA3 q h5 h6 h7))) (ldD_mono hL5 (fun c e _ _ hd => by by_cases hcc : c = n * y + x; (rcases (show e = 0 ∨ e = 1 by omega) with h0 | h0; exact Or.inl (Or.inr ⟨hcc, h0⟩); exact Or.inr ⟨hcc, h0⟩); exact Or.inl (Or.inl ⟨hd.1, by have := hd.2; omega⟩)))) ?_ rfl ?_ <;> try (first | rfl | (rw [nI_succ]; rfl))
      iterate 2 refine hP _ _ _ _ ?_
      refine x_p4 (P := P) (inner 0 (by omega) A2 hA (ldD_mono hL (fun c e _ _ hd => hd))) ?_ rfl ?_ <;> try (first | rfl | (rw [nI_succ]; rfl))
  iterate 2 refine hP _ _ _ _ ?_
  refine x_p4 (P := P) (loop 0 (by omega) A (fun _ _ _ _ => rfl) (fun c e _ _ hd => absurd hd.2 (by omega)) none) ?_ rfl ?_ <;> try (first | rfl | (rw [nI_succ]; rfl))
theorem g_layBoxes (k : KD n w h) (hL : ldD A n w h (fun _ e => e < 2)) {x y : Int32} (hx : x = nI w) (hy : y = nI h) (hQ : ∀ A' : Nat → Nat → Int32, (∀ q, q ≠ 5 → q ≠ 6 → q ≠ 7 → A' q = A q) → ldD A' n w h (fun _ _ => True) → Q (.inl none) (w_G c0 c1 n A' tl bb)) : x_run sc x_MM x_EX (d + 2) k_X2_layBoxes [.ref 2, .int x, .int y] (w_G c0 c1 n A tl bb) Q := by
  subst hx; subst hy
  obtain ⟨g1, g2, g3, g4, g5, g6, g7, g8⟩ := k.le
  have hhw : h * w = n := by rw [Nat.mul_comm]; exact g8
  refine x_in (M := m_X2_layBoxes) rfl rfl (Nat.le_of_ble_eq_true rfl) ⟨rfl, rfl, rfl, trivial⟩ ?_
  intro P hP
  have ltop : ∀ a, a ≤ w → ∀ A2 : Nat → Nat → Int32, (∀ q, q ≠ 5 → q ≠ 6 → q ≠ 7 → A2 q = A q) → ldD A2 n w h (Dx n w h (a * h) 0) → ∀ x5 x6 x7 x8, P 5 [some (.ref 2), some (.int (nI w)), some (.int (nI h)), some (.int (nI (a * h))), some (.int (nI (a * h))), x5, x6, x7, x8] [] (w_G c0 c1 n A2 tl bb) := by
    refine x_lp w (fun a ha ih A2 hA hL2 x5 x6 x7 x8 => ?_)
    have hah : a * h ≤ n := by rw [← g8]; exact Nat.mul_le_mul_right h ha
    repeat refine hP _ _ _ _ ?_
    refine b_ge (a * h) (n) (fun ha9 => ?_) (fun ha9 => ?_) (rfl) (rfl) (by omega) (by omega)
    · have e9 : a * h = n := by omega
      rw [e9] at hL2
      repeat refine hP _ _ _ _ ?_
      exact hQ A2 hA (ldD_mono hL2 (fun c e hc he _ => by rcases (show e < 2 ∨ e = 2 by omega) with h0 | h0; exact Or.inl h0; exact Or.inr ⟨h0, Or.inl (boxN_lt k hc)⟩))
    · have haw : a < w := by
        rcases Nat.lt_or_ge a w with h7 | h7
        · exact h7
        · exfalso
          have : w * h ≤ a * h := Nat.mul_le_mul_right h h7
          omega
      have ih := ih haw
      have lleft : ∀ b, b ≤ h → ∀ A3 : Nat → Nat → Int32, (∀ q, q ≠ 5 → q ≠ 6 → q ≠ 7 → A3 q = A q) → ldD A3 n w h (Dx n w h (a * h + b) 0) → ∀ x6 x7 x8, P 17 [some (.ref 2), some (.int (nI w)), some (.int (nI h)), some (.int (nI (a * h + b))), some (.int (nI (a * h))), some (.int (nI (b * w))), x6, x7, x8] [] (w_G c0 c1 n A3 tl bb) := by
        refine x_lp h (fun b hb ihb A3 hA3 hL3 x6 x7 x8 => ?_)
        have hbw : b * w ≤ n := by rw [← hhw]; exact Nat.mul_le_mul_right w hb
        repeat refine hP _ _ _ _ ?_
        refine b_ge (b * w) (n) (fun hb9 => ?_) (fun hb9 => ?_) (rfl) (rfl) (by omega) (by omega)
        · have eb : b = h := by
            rcases Nat.lt_or_ge b h with h7 | h7
            · exfalso
              have : (b + 1) * w ≤ h * w := Nat.mul_le_mul_right w h7
              rw [Nat.succ_mul] at this
              omega
            · omega
          subst eb
          have e1 : (a + 1) * b = a * b + b := Nat.succ_mul a b
          rw [e1, ← nI_add] at ih
          iterate 5 refine hP _ _ _ _ ?_
          refine x_p4 (P := P) (ih A3 hA3 hL3 (some (.int (nI (b * w)))) x6 x7 x8) ?_ rfl ?_
          · rw [nI_add]; rfl
          · rfl
        · have hbh : b < h := by
            rcases Nat.lt_or_ge b h with h7 | h7
            · exact h7
            · exfalso
              have : h * w ≤ b * w := Nat.mul_le_mul_right w h7
              omega
          have ihb := ihb hbh
          have ly : ∀ u, u ≤ h → ∀ A4 : Nat → Nat → Int32, (∀ q, q ≠ 5 → q ≠ 6 → q ≠ 7 → A4 q = A q) → ldD A4 n w h (Dx n w h (a * h + b) (u * w)) → ∀ x8, P 33 [some (.ref 2), some (.int (nI w)), some (.int (nI h)), some (.int (nI (a * h + b))), some (.int (nI (a * h))), some (.int (nI (b * w))), some (.int (nI (u * w))), some (.int (nI (a * h + u))), x8] [] (w_G c0 c1 n A4 tl bb) := by
            refine x_lp h (fun u hu ihu A4 hA4 hL4 x8 => ?_)
            have huw : u * w ≤ n := by rw [← hhw]; exact Nat.mul_le_mul_right w hu
            repeat refine hP _ _ _ _ ?_
            refine b_ge (a * h + u) (a * h + h) (fun hu9 => ?_) (fun hu9 => ?_) (rfl) (by rw [nI_add]) (by omega) (by omega)
            · have eu : u = h := by omega
              subst eu
              have e1 : (b + 1) * w = b * w + w := Nat.succ_mul b w
              rw [e1] at ihb
              iterate 6 refine hP _ _ _ _ ?_
              refine x_p4 (P := P) (ihb A4 hA4 (ldD_mono hL4 (fun c e hc he hd => by rcases hd with h0 | ⟨h0, h1⟩; exact Or.inl h0; rcases h1 with h1 | h1; (rcases Nat.lt_or_ge (boxN n w u c) (a * u + b) with h2 | h2; exact Or.inr ⟨h0, Or.inl h2⟩; exact Or.inr ⟨h0, Or.inr ⟨by omega, by rw [hhw]; exact (geo k hc (show 2 < 3 by omega)).2.2.1⟩⟩); exact absurd h1.2 (Nat.not_lt_zero _))) (some (.int (nI (u * w)))) (some (.int (nI (a * u + u)))) x8) ?_ rfl ?_
              · rw [show nI (a * u + (b + 1)) = nI (a * u + b) + 1 by rw [← Nat.add_assoc, nI_succ], show nI (b * w + w) = nI (b * w) + nI w by rw [nI_add]]; rfl
              · rfl
            · have huh : u < h := by omega
              have ihu := ihu huh
              have lx : ∀ v, v ≤ w → ∀ A5 : Nat → Nat → Int32, (∀ q, q ≠ 5 → q ≠ 6 → q ≠ 7 → A5 q = A q) → ldD A5 n w h (Dx n w h (a * h + b) (u * w + v)) → P 46 [some (.ref 2), some (.int (nI w)), some (.int (nI h)), some (.int (nI (a * h + b))), some (.int (nI (a * h))), some (.int (nI (b * w))), some (.int (nI (u * w + v))), some (.int (nI (a * h + u))), some (.int (nI (b * w + v)))] [] (w_G c0 c1 n A5 tl bb) := by
                refine x_lp w (fun v hv ihv A5 hA5 hL5 => ?_)
                repeat refine hP _ _ _ _ ?_
                refine b_ge (b * w + v) (b * w + w) (fun hv9 => ?_) (fun hv9 => ?_) (rfl) (by rw [nI_add]) (by omega) (by omega)
                · have ev : v = w := by omega
                  subst ev
                  have e1 : (u + 1) * v = u * v + v := Nat.succ_mul u v
                  rw [e1] at ihu
                  iterate 2 refine hP _ _ _ _ ?_
                  refine x_p4 (P := P) (ihu A5 hA5 hL5 (some (.int (nI (b * v + v))))) ?_ rfl ?_ <;> try (first | rfl | (rw [← Nat.add_assoc, nI_succ]; rfl))
                · have hvw : v < w := by omega
                  have ihv := ihv hvw
                  obtain ⟨x1, x2, x3⟩ := bx_ok k haw hbh huh hvw
                  repeat refine hP _ _ _ _ ?_
                  refine g_lay k hL5 x1 (e := 2) (i := a * h + b) (p := u * w + v) (by omega) (by show 2 * n + (a * h + b) = 2 * n + boxN n w h _; rw [x2]) x3.symm (by rw [pk_mul, nI_add]) rfl rfl rfl (fun A6 hA6 hL6 => ?_)
                  iterate 3 refine hP _ _ _ _ ?_
                  refine x_p4 (P := P) (ihv A6 (fun q h5 h6 h7 => (hA6 q h5 h6 h7).trans (hA5 q h5 h6 h7)) (ldD_mono hL6 (fun c e hc he hd => by rcases hd with h0 | ⟨h0, h1⟩; exact Or.inl (Or.inl h0); rcases h1 with h1 | h1; exact Or.inl (Or.inr ⟨h0, Or.inl h1⟩); (rcases Nat.lt_or_ge (poN n w h c 2) (u * w + v) with h2 | h2; exact Or.inl (Or.inr ⟨h0, Or.inr ⟨h1.1, h2⟩⟩); (have y1 := (geo k hc (show 2 < 3 by omega)).2.2.2; have y2 := (geo k x1 (show 2 < 3 by omega)).2.2.2; have y3 : hoN n w h c 2 = hoN n w h (n * (a * h + u) + (b * w + v)) 2 := (by show 2 * n + boxN n w h c = 2 * n + boxN n w h _; rw [h1.1, x2]); have y4 : poN n w h c 2 = poN n w h (n * (a * h + u) + (b * w + v)) 2 := (by rw [x3]; omega); exact Or.inr ⟨by rw [← y1, ← y2, y3, y4], h0⟩))))) ?_ rfl ?_
                  · rw [show nI (u * w + (v + 1)) = nI (u * w + v) + 1 by rw [← Nat.add_assoc, nI_succ], show nI (b * w + (v + 1)) = nI (b * w + v) + 1 by rw [← Nat.add_assoc, nI_succ]]; rfl
                  · rfl
              iterate 2 refine hP _ _ _ _ ?_
              refine x_p4 (P := P) (lx 0 (by omega) A4 hA4 hL4) ?_ rfl ?_ <;> try (first | rfl | (rw [nI_succ]; rfl))
          iterate 4 refine hP _ _ _ _ ?_
          refine x_p4 (P := P) (ly 0 (by omega) A3 hA3 (ldD_mono hL3 (fun c e hc he hd => by rw [Nat.zero_mul] at hd; exact hd)) x8) ?_ rfl ?_
          · rw [Nat.zero_mul]; rfl
          · rfl
      iterate 2 refine hP _ _ _ _ ?_
      refine x_p4 (P := P) (lleft 0 (by omega) A2 hA hL2 x6 x7 x8) ?_ rfl ?_
      · rw [Nat.zero_mul]; rfl
      · rfl
  iterate 4 refine hP _ _ _ _ ?_
  refine x_p4 (P := P) (ltop 0 (by omega) A (fun _ _ _ _ => rfl) (ldD_mono hL (fun c e hc he hd => by rcases hd with h0 | ⟨h0, h1⟩; exact h0; (rw [Nat.zero_mul] at h1; rcases h1 with h1 | h1; exact absurd h1 (Nat.not_lt_zero _); exact absurd h1.2 (Nat.not_lt_zero _)))) none none none none) ?_ rfl ?_
  · rw [Nat.zero_mul]; rfl
  · rfl
theorem g_fill (k : KD n w h) (hQ : ∀ A' : Nat → Nat → Int32, (∀ q, q ≠ 3 → q ≠ 4 → q ≠ 8 → A' q = A q) → (∀ c, c < n * n → A' 3 c = nI (2 ^ n - 1) ∧ A' 4 c = -1) → (∀ i, i < 3 * n * n → A' 8 i = nI (2 ^ n - 1)) → Q (.inl none) (w_G c0 c1 n A' tl bb)) : x_run sc x_MM x_EX (d + 1) k_X2_fill [.ref 2] (w_G c0 c1 n A tl bb) Q := by
  obtain ⟨g1, g2, g3, g4, g5, g6, g7, g8⟩ := k.le
  obtain ⟨b1, b2, b3, b4, b5, b6, b7⟩ := k.b3
  have hpos : 0 < 2 ^ n := Nat.two_pow_pos n
  have eall : (Int32.ofInt 1 <<< (nI n &&& 31)) - Int32.ofInt 1 = nI (2 ^ n - 1) := by
    obtain ⟨m, hm⟩ : ∃ m, 2 ^ n = m + 1 := ⟨2 ^ n - 1, by omega⟩
    rw [sh1 (by omega), hm, show Int32.ofInt 1 = 1 from rfl, nI_pred]; rfl
  refine x_in (M := m_X2_fill) rfl rfl (Nat.le_of_ble_eq_true rfl) ⟨rfl, trivial⟩ ?_
  intro P hP
  have lp2 : ∀ i, i ≤ 3 * n * n → ∀ A2 : Nat → Nat → Int32, (∀ q, q ≠ 3 → q ≠ 4 → q ≠ 8 → A2 q = A q) → (∀ c, c < n * n → A2 3 c = nI (2 ^ n - 1) ∧ A2 4 c = -1) → (∀ j, j < i → A2 8 j = nI (2 ^ n - 1)) → P 41 [some (.ref 2), some (.int (nI (2 ^ n - 1))), some (.int (nI i))] [] (w_G c0 c1 n A2 tl bb) := by
    refine x_lp (3 * n * n) (fun i hi ih A2 hA h34 h8 => ?_)
    repeat refine hP _ _ _ _ ?_
    refine b_ge (i) (3 * n * n) (fun hi9 => ?_) (fun hi9 => ?_) (rfl) (rfl) (by omega) (by omega)
    · repeat refine hP _ _ _ _ ?_
      exact hQ A2 hA h34 (fun j hj => h8 j (by omega))
    · have ih := ih hi9
      repeat refine hP _ _ _ _ ?_
      refine And.intro (vp_in_nI hi9 (by omega)) ?_
      rw [upv (f := A2 8) (by omega)]
      iterate 2 refine hP _ _ _ _ ?_
      refine x_p4 (P := P) (ih (sG A2 8 (upd (A2 8) i (nI (2 ^ n - 1)))) (fun q q3 q4 q8 => by show (if q = 8 then _ else A2 q) = _; rw [if_neg q8]; exact hA q q3 q4 q8) h34 (all_lt (fun j hj => by show upd (A2 8) i _ j = _; rw [pk_un (by omega)]; exact h8 j hj) (by show upd (A2 8) i _ i = _; rw [pk_us]))) ?_ rfl ?_ <;> try (first | rfl | (rw [nI_succ]; rfl))
  have lp1 : ∀ c, c ≤ n * n → ∀ A2 : Nat → Nat → Int32, (∀ q, q ≠ 3 → q ≠ 4 → q ≠ 8 → A2 q = A q) → (∀ e, e < c → A2 3 e = nI (2 ^ n - 1) ∧ A2 4 e = -1) → P 11 [some (.ref 2), some (.int (nI (2 ^ n - 1))), some (.int (nI c))] [] (w_G c0 c1 n A2 tl bb) := by
    refine x_lp (n * n) (fun c hc ih A2 hA h34 => ?_)
    repeat refine hP _ _ _ _ ?_
    refine b_ge (c) (n * n) (fun hc9 => ?_) (fun hc9 => ?_) (rfl) (rfl) (by omega) (by omega)
    · iterate 2 refine hP _ _ _ _ ?_
      refine x_p4 (P := P) (lp2 0 (by omega) A2 hA (fun e he => h34 e (by omega)) (fun j hj => absurd hj (Nat.not_lt_zero j))) ?_ rfl ?_ <;> try (first | rfl | (rw [nI_succ]; rfl))
    · have ih := ih hc9
      repeat refine hP _ _ _ _ ?_
      refine And.intro (vp_in_nI hc9 (by omega)) ?_
      rw [upv (f := A2 3) (by omega)]
      repeat refine hP _ _ _ _ ?_
      refine And.intro (vp_in_nI hc9 (by omega)) ?_
      rw [upv (f := A2 4) (by omega)]
      iterate 2 refine hP _ _ _ _ ?_
      refine x_p4 (P := P) (ih (sG (sG A2 3 (upd (A2 3) c (nI (2 ^ n - 1)))) 4 (upd (A2 4) c (Int32.ofInt (-1)))) (fun q q3 q4 q8 => by show (if q = 4 then _ else if q = 3 then _ else A2 q) = _; rw [if_neg q4, if_neg q3]; exact hA q q3 q4 q8) (all_lt (fun e he => by show upd (A2 3) c _ e = _ ∧ upd (A2 4) c _ e = _; rw [pk_un (by omega), pk_un (by omega)]; exact h34 e he) (by show upd (A2 3) c _ c = _ ∧ upd (A2 4) c _ c = _; rw [pk_us, pk_us]; exact ⟨rfl, rfl⟩))) ?_ rfl ?_ <;> try (first | rfl | (rw [nI_succ]; rfl))
  iterate 9 refine hP _ _ _ _ ?_
  refine x_p4 (P := P) (lp1 0 (by omega) A (fun _ _ _ _ => rfl) (fun e he => absurd he (Nat.not_lt_zero e))) ?_ rfl ?_
  · rw [← eall]; rfl
  · rfl
end GI
