/-! ===== the class: its making: sets, finding, colours, history ===== -/
theorem vok_mono {m m' : Nat} (h : m ≤ m') {v : Value} (hv : x_vok m v) : x_vok m' v := by
  cases v with
  | ref k => rcases hv with h1 | h1; exact Or.inl (Nat.lt_of_lt_of_le h1 h); exact Or.inr h1
  | _ => trivial
theorem sok_mono {m m' : Nat} (h : m ≤ m') : ∀ {L : List Value}, x_sok m L → x_sok m' L
  | [], _ => trivial
  | _ :: _, hh => ⟨vok_mono h hh.1, sok_mono h hh.2⟩
theorem hok_mono {m m' : Nat} (h : m ≤ m') : ∀ {X : List x_C}, x_hok m X → x_hok m' X
  | [], _ => trivial
  | .inl _ :: X, hh => hok_mono (X := X) h hh
  | .inr (_, _) :: _, hh => ⟨sok_mono h hh.1, hok_mono h hh.2⟩
theorem hok_app {m : Nat} : ∀ {a b : List x_C}, x_hok m a → x_hok m b → x_hok m (a ++ b)
  | [], _, _, hb => hb
  | .inl _ :: a, _, ha, hb => hok_app (a := a) ha hb
  | .inr (_, _) :: _, _, ha, hb => ⟨ha.1, hok_app ha.2 hb⟩
theorem aok_V {L : x_L} {st : List Value} {a b : List x_C} {K : Nat} (ha : x_hok K a) (hK : K ≤ (a ++ b).length) (h : (decide ((a ++ b).length < x_SP) && (lokB (a ++ b).length L && (sokB (a ++ b).length st && hokB (a ++ b).length b))) = true) : x_aok L st (a ++ b) := by
  rw [Bool.and_eq_true, Bool.and_eq_true, Bool.and_eq_true, decide_eq_true_eq] at h
  exact ⟨h.1, lok_B h.2.1, sok_B h.2.2.1, hok_app (hok_mono hK ha) (hok_B h.2.2.2)⟩
/-- the sets at 12, their arrays behind them -/
def w_S (a0 a1 a2 a3 a4 a5 a6 a7 a8 a9 a10 a11 : x_C) (n : Nat) (B S : Nat → Int32) (z : Int32) (tl : List x_C) (bb : Nat × Nat) : x_H :=
  (a0 :: a1 :: a2 :: a3 :: a4 :: a5 :: a6 :: a7 :: a8 :: a9 :: a10 :: a11 :: .inr (6, [.int (nI n), .ref 13, .ref 14, .int z]) :: .inl (.int, 2 ^ n, .inl B) :: .inl (.int, 6, .inl S) :: tl, bb)
def gaL (n k fr ch : Nat) : List Nat := (cmb k (List.range' fr (n - fr))).map fun c => ch ||| mkB c
theorem cmb_short : ∀ (k : Nat) (l : List Nat), l.length < k → cmb k l = []
  | 0, _, h => absurd h (Nat.not_lt_zero _)
  | _ + 1, [], _ => rfl
  | k + 1, a :: l, h => by
    have h : l.length + 1 < k + 1 := h
    show (cmb k l).map (a :: ·) ++ cmb (k + 1) l = []
    rw [cmb_short k l (by omega), cmb_short (k + 1) l (by omega)]
    rfl
theorem gaL_s {n k fr ch : Nat} (h : fr < n) : gaL n (k + 1) fr ch = gaL n k (fr + 1) (ch ||| 2 ^ fr) ++ gaL n (k + 1) (fr + 1) ch := by
  unfold gaL
  rw [show n - fr = (n - (fr + 1)) + 1 by omega, List.range'_succ]
  show ((cmb k (List.range' (fr + 1) (n - (fr + 1)))).map (fr :: ·) ++ cmb (k + 1) (List.range' (fr + 1) (n - (fr + 1)))).map _ = _
  rw [List.map_append, List.map_map]
  congr 1
  apply List.map_congr_left
  intro c _
  show ch ||| (2 ^ fr ||| mkB c) = ch ||| 2 ^ fr ||| mkB c
  rw [Nat.or_assoc]
theorem gaL_e {n k fr ch : Nat} (h : n - fr < k) : gaL n k fr ch = [] := by
  unfold gaL
  rw [cmb_short k _ (by rw [List.length_range']; exact h)]
  rfl
theorem st_mono (n : Nat) {a b : Nat} (h : a < b) (hb : b ≤ 5) : stN n (a + 1) ≤ stN n b := by
  unfold stN
  repeat' split
  all_goals omega
theorem x_rD {sc : Nat × (Nat → Int32)} {d d' mj : Nat} {av av' : List Value} {X X' : x_H} {Q : x_O → x_H → Prop} (h : x_run sc x_MM x_EX d mj av X Q) (hd : d = d') (ha : av = av') (e : X = X') : x_run sc x_MM x_EX d' mj av' X' Q := by subst hd; subst ha; subst e; exact h
section GS
variable {sc : Nat × (Nat → Int32)} {a0 a1 a2 a3 a4 a5 a6 a7 a8 a9 a10 a11 : x_C} {B S : Nat → Int32} {tl : List x_C} {bb : Nat × Nat} {n w h : Nat}
theorem g_gather (kd : KD n w h) : ∀ (k : Nat) {d fr ch z : Nat} {B : Nat → Int32} {bb : Nat × Nat} {Q : x_O → x_H → Prop} {x y u : Int32}, k ≤ 4 → fr ≤ n → ch < 512 → z + (gaL n k fr ch).length ≤ 2 ^ n → x = nI fr → y = nI k → u = nI ch → (∀ B' : Nat → Int32, (∀ j, j < z → B' j = B j) → (∀ t y, (gaL n k fr ch)[t]? = some y → B' (z + t) = nI y) → Q (.inl none) (w_S a0 a1 a2 a3 a4 a5 a6 a7 a8 a9 a10 a11 n B' S (nI (z + (gaL n k fr ch).length)) tl bb)) → x_run sc x_MM x_EX (d + k + 1) k_X6_gather [.ref 12, .int x, .int y, .int u] (w_S a0 a1 a2 a3 a4 a5 a6 a7 a8 a9 a10 a11 n B S (nI z) tl bb) Q
  | 0, d, fr, ch, z, B, bb, Q, x, y, u, hk, hfr, hch, hz, hx, hy, hu, hQ => by
    subst hx; subst hy; subst hu
    obtain ⟨b1, b2, b3, b4, b5, b6, b7⟩ := kd.b3
    have e0 : gaL n 0 fr ch = [ch] := by
      unfold gaL
      rw [show cmb 0 (List.range' fr (n - fr)) = [[]] by cases List.range' fr (n - fr) <;> rfl]
      show [ch ||| 0] = [ch]
      rw [Nat.or_zero]
    rw [e0] at hz hQ
    have hz : z + 1 ≤ 2 ^ n := hz
    refine x_in (M := m_X6_gather) rfl rfl (Nat.le_of_ble_eq_true rfl) ⟨rfl, rfl, rfl, rfl, trivial⟩ ?_
    intro P hP
    repeat refine hP _ _ _ _ ?_
    refine b_le0 0 rfl (by omega) (fun _ => ?_) (fun h0 => absurd rfl h0)
    repeat refine hP _ _ _ _ ?_
    refine b_ge (z) (2 ^ n) (fun h9 => ?_) (fun h9 => ?_) (rfl) (rfl) (by omega) (by omega)
    · omega
    · repeat refine hP _ _ _ _ ?_
      refine And.intro (vp_in_nI h9 (by omega)) ?_
      rw [upv (f := B) (by omega)]
      repeat refine hP _ _ _ _ ?_
      refine x_q2 (hQ (upd B z (nI ch)) (fun j hj => pk_un (by omega)) (fun t y ht => ?_)) ?_
      · have h1 := (List.getElem?_eq_some_iff.mp ht).1
        have h2 : t = 0 := by simpa using h1
        subst h2
        cases ht
        exact pk_us
      · rw [show nI (z + [ch].length) = nI z + Int32.ofInt 1 by rw [oi1, nI_add]; rfl]
        rfl
  | k + 1, d, fr, ch, z, B, bb, Q, x, y, u, hk, hfr, hch, hz, hx, hy, hu, hQ => by
    subst hx; subst hy; subst hu
    obtain ⟨g1, g2, g3, g4, g5, g6, g7, g8⟩ := kd.le
    obtain ⟨b1, b2, b3, b4, b5, b6, b7⟩ := kd.b3
    refine x_in (M := m_X6_gather) rfl rfl (Nat.le_of_ble_eq_true rfl) ⟨rfl, rfl, rfl, rfl, trivial⟩ ?_
    intro P hP
    have loop : ∀ nx, nx ≤ n → fr ≤ nx → ∀ (B2 : Nat → Int32) (L1 : List Nat), gaL n (k + 1) fr ch = L1 ++ gaL n (k + 1) nx ch → (∀ j, j < z → B2 j = B j) → (∀ t y, L1[t]? = some y → B2 (z + t) = nI y) → P 7 [some (.ref 12), some (.int (nI fr)), some (.int (nI (k + 1))), some (.int (nI ch)), some (.int (nI nx))] [] (w_S a0 a1 a2 a3 a4 a5 a6 a7 a8 a9 a10 a11 n B2 S (nI (z + L1.length)) tl bb) := by
      refine x_lp n (fun nx hnx ih hfn B2 L1 hL hlo hB => ?_)
      have hlen : (gaL n (k + 1) fr ch).length = L1.length + (gaL n (k + 1) nx ch).length := by rw [hL, List.length_append]
      repeat refine hP _ _ _ _ ?_
      refine b_gt (nx) (n - (k + 1)) (fun h9 => ?_) (fun h9 => ?_) (rfl) (by rw [pk_sub (by omega)]) (by omega) (by omega)
      · have e := gaL_e (ch := ch) (show n - nx < k + 1 by omega)
        rw [e, List.append_nil] at hL
        rw [hL] at hQ
        repeat refine hP _ _ _ _ ?_
        exact hQ B2 hlo hB
      · have hnn : nx < n := by omega
        have ih := ih hnn (by omega)
        have es := gaL_s (k := k) (ch := ch) hnn
        have h2 : 2 ^ nx < 512 := Nat.lt_of_lt_of_le (p2_lt hnn) (Nat.pow_le_pow_right (by omega) g2)
        rw [es, List.length_append] at hlen
        repeat refine hP _ _ _ _ ?_
        refine g_gather kd k (d := d) (fr := nx + 1) (ch := ch ||| 2 ^ nx) (z := z + L1.length) (by omega) (by omega) (Nat.or_lt_two_pow (n := 9) hch h2) (by omega) (by rw [oi1, nI_add]) (by rw [show Int32.ofInt 1 = 1 from rfl, nI_pred]) (by rw [sh1 (by omega), nx_or]) (fun B3 hlo3 hB3 => ?_)
        rw [show z + L1.length + (gaL n k (nx + 1) (ch ||| 2 ^ nx)).length = z + (L1 ++ gaL n k (nx + 1) (ch ||| 2 ^ nx)).length by rw [List.length_append, Nat.add_assoc]]
        iterate 2 refine hP _ _ _ _ ?_
        refine x_p4 (P := P) (ih B3 (L1 ++ gaL n k (nx + 1) (ch ||| 2 ^ nx)) (by rw [hL, es, List.append_assoc]) (fun j hj => (hlo3 j (by omega)).trans (hlo j hj)) (fun t y ht => by rcases Nat.lt_or_ge t L1.length with h7 | h7; (rw [List.getElem?_append_left h7] at ht; rw [hlo3 _ (by omega)]; exact hB t y ht); (rw [List.getElem?_append_right h7] at ht; have := hB3 _ y ht; rw [show z + L1.length + (t - L1.length) = z + t by omega] at this; exact this))) ?_ rfl ?_
        · rw [show nI (nx + 1) = nI nx + 1 by rw [nI_succ]]; rfl
        · rfl
    repeat refine hP _ _ _ _ ?_
    refine b_le0 (k + 1) rfl (by omega) (fun h0 => absurd h0 (by omega)) (fun _ => ?_)
    iterate 2 refine hP _ _ _ _ ?_
    refine x_p4 (P := P) (loop fr hfr (Nat.le_refl _) B [] rfl (fun _ _ => rfl) (fun t y ht => by cases ht)) ?_ rfl ?_ <;> try (first | rfl | (rw [nI_succ]; rfl))
/-- the sets made -/
theorem g_sets (kd : KD n w h) {d : Nat} {Q : x_O → x_H → Prop} (ha : x_hok 12 [a0, a1, a2, a3, a4, a5, a6, a7, a8, a9, a10, a11]) (hQ : ∀ (B S : Nat → Int32) (z : Int32) bb', (∀ k, 2 ≤ k → k ≤ 5 → S k = nI (stN n k)) → (∀ k t c, 2 ≤ k → k ≤ 4 → (CC k n)[t]? = some c → B (stN n k + t) = nI (mkB c)) → Q (.inl none) (w_S a0 a1 a2 a3 a4 a5 a6 a7 a8 a9 a10 a11 n B S z [] bb')) : x_run sc x_MM x_EX (d + 6) k_X6_init [.ref 12, .int (nI n)] (a0 :: a1 :: a2 :: a3 :: a4 :: a5 :: a6 :: a7 :: a8 :: a9 :: a10 :: a11 :: [.inr (6, [.int 0, .null, .null, .int 0])], 2, 518) Q := by
  obtain ⟨g1, g2, g3, g4, g5, g6, g7, g8⟩ := kd.le
  obtain ⟨b1, b2, b3, b4, b5, b6, b7⟩ := kd.b3
  have hga : ∀ k, gaL n k 0 0 = (CC k n).map mkB := by
    intro k
    unfold gaL CC
    rw [Nat.sub_zero, ← List.range_eq_range']
    apply List.map_congr_left
    intro c _
    exact Nat.zero_or _
  have hp : (Int32.ofInt 1 <<< (nI n &&& 31)) = nI (2 ^ n) := sh1 (by omega)
  have hc1 : (nI (2 ^ n)).toNatClampNeg = 2 ^ n := nI_clamp (by omega)
  have loop : ∀ k, k ≤ 5 → 2 ≤ k → ∀ (B2 S2 : Nat → Int32) (bb2 : Nat × Nat) (P : Nat → x_L → List Value → x_H → Prop), (∀ pc L st X, x_st sc m_X6_init (x_run sc x_MM x_EX (d + 5)) Q P pc L st X → P pc L st X) → (∀ j, 2 ≤ j → j < k → S2 j = nI (stN n j)) → (∀ j t c, 2 ≤ j → j < k → (CC j n)[t]? = some c → B2 (stN n j + t) = nI (mkB c)) → P 28 [some (.ref 12), some (.int (nI n)), some (.int (nI k))] [] (w_S a0 a1 a2 a3 a4 a5 a6 a7 a8 a9 a10 a11 n B2 S2 (nI (stN n k)) [] bb2) := by
    refine x_lp 5 (fun k hk ih hk2 B2 S2 bb2 P hP hS hB => ?_)
    have hs1 := stN_le kd
    have hs2 := stN_mo n hk
    repeat refine hP _ _ _ _ ?_
    refine b_gt (k) (4) (fun h9 => ?_) (fun h9 => ?_) (rfl) (oi4) (by omega) (by omega)
    · have e9 : k = 5 := by omega
      subst e9
      repeat refine hP _ _ _ _ ?_
      refine And.intro (vpx oi5 (by omega) (by omega)) ?_
      rw [upx (f := S2) oi5 (by omega)]
      repeat refine hP _ _ _ _ ?_
      refine hQ B2 (upd S2 5 (nI (stN n 5))) (nI (stN n 5)) _ (fun j h1 h2 => ?_) (fun j t c h1 h2 hc => hB j t c h1 (by omega) hc)
      by_cases hj : j = 5
      · subst hj; exact pk_us
      · rw [pk_un hj]; exact hS j h1 (by omega)
    · have ih := ih (by omega) (by omega)
      have hss := stN_s n (show k < 5 by omega) hk2
      have hs3 := stN_mo n (show k + 1 ≤ 5 by omega)
      have hgl : (gaL n k 0 0).length = (CC k n).length := by rw [hga, List.length_map]
      repeat refine hP _ _ _ _ ?_
      refine And.intro (vp_in_nI (by omega) (by omega)) ?_
      rw [upv (f := S2) (by omega)]
      repeat refine hP _ _ _ _ ?_
      refine x_rD (g_gather (d := d + 4 - k) (S := upd S2 k (nI (stN n k))) (tl := []) (bb := (0, 0)) kd k (fr := 0) (ch := 0) (z := stN n k) (B := B2) (by omega) (Nat.zero_le _) (by decide) (by omega) oi0 rfl oi0 (fun B3 hlo hB3 => ?_)) (by omega) rfl rfl
      rw [hgl, ← hss]
      iterate 2 refine hP _ _ _ _ ?_
      refine x_p4 (P := P) (ih B3 (upd S2 k (nI (stN n k))) bb2 P hP (fun j h1 h2 => by by_cases hj : j = k; (subst hj; exact pk_us); (rw [pk_un hj]; exact hS j h1 (by omega))) (fun j t c h1 h2 hc => by rcases Nat.lt_or_ge j k with h7 | h7; (have h8 := stN_s n (show j < 5 by omega) h1; have h10 : stN n (j + 1) ≤ stN n k := st_mono n h7 (by omega); have h11 := (List.getElem?_eq_some_iff.mp hc).1; rw [hlo _ (by omega)]; exact hB j t c h1 h7 hc); (have ej : j = k := (by omega); subst ej; exact hB3 t (mkB c) (by rw [hga, List.getElem?_map, hc]; rfl)))) ?_ rfl ?_ <;> try (first | rfl | (rw [nI_succ]; rfl))
  refine x_in (M := m_X6_init) rfl rfl (Nat.le_of_ble_eq_true rfl) ⟨rfl, rfl, trivial⟩ ?_
  intro P hP
  repeat refine hP _ _ _ _ ?_
  refine And.intro ⟨by rw [hp]; exact nI_pos (by omega), by rw [hp, hc1]; omega, Nat.le_of_ble_eq_true rfl, by rw [hp, hc1]; show 2 ^ n ≤ 518; omega, (show x_aok _ _ ([a0, a1, a2, a3, a4, a5, a6, a7, a8, a9, a10, a11] ++ [_]) from aok_V (K := 12) ha (Nat.le_of_ble_eq_true rfl) rfl)⟩ ?_
  rw [hp, hc1]
  show P 15 [some (.ref 12), some (.int (nI n)), none] [.ref 13, .ref 12] (a0 :: a1 :: a2 :: a3 :: a4 :: a5 :: a6 :: a7 :: a8 :: a9 :: a10 :: a11 :: [.inr (6, [.int (nI n), .null, .null, .int 0]), .inl (.int, 2 ^ n, .inl (fun _ => 0))], 1, 518 - 2 ^ n)
  repeat refine hP _ _ _ _ ?_
  refine And.intro ⟨by decide, Nat.le_of_ble_eq_true rfl, Nat.le_of_ble_eq_true rfl, (show 6 ≤ 518 - 2 ^ n by omega), (show x_aok _ _ ([a0, a1, a2, a3, a4, a5, a6, a7, a8, a9, a10, a11] ++ [_, _]) from aok_V (K := 12) ha (Nat.le_of_ble_eq_true rfl) rfl)⟩ ?_
  show P 23 [some (.ref 12), some (.int (nI n)), none] [.ref 14, .ref 12] (a0 :: a1 :: a2 :: a3 :: a4 :: a5 :: a6 :: a7 :: a8 :: a9 :: a10 :: a11 :: [.inr (6, [.int (nI n), .ref 13, .null, .int 0]), .inl (.int, 2 ^ n, .inl (fun _ => 0)), .inl (.int, 6, .inl (fun _ => 0))], 0, 518 - 2 ^ n - 6)
  iterate 3 refine hP _ _ _ _ ?_
  refine x_p4 (P := P) (loop 2 (by omega) (by omega) (fun _ => 0) (fun _ => 0) (0, 518 - 2 ^ n - 6) P hP (fun j h1 h2 => absurd h2 (by omega)) (fun j t c h1 h2 => absurd h2 (by omega))) ?_ rfl ?_ <;> try (first | rfl | (rw [nI_succ]; rfl))
end GS
