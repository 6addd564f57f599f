/-! ===== the class made, the model made ===== -/
/-- the game's beginning -/
def s0 (n : Nat) : pS := (fun _ => 2 ^ n - 1, fun _ => none, fun k => k == 18, fun _ => 0, none, [])
theorem inv_s0 {n w h : Nat} (k : KD n w h) : inv n w h (s0 n) := by
  have hpos : 0 < 2 ^ n := Nat.two_pow_pos n
  exact ⟨k, fun c _ => by show 2 ^ n - 1 < 2 ^ n; omega, fun c _ s e => (by cases e), fun c s _ e => (by cases e), trivial, fun _ _ e => (by cases e)⟩
section GL
variable {sc : Nat × (Nat → Int32)} {n w h d : Nat} {Q : x_O → x_H → Prop}
theorem k_init {x : Int32} (hx : kdP x n w h) (hQ : ∀ cs bb', repC cs n w h (s0 n) → Q (.inl none) (w_C n cs [] bb')) : x_run sc x_MM x_EX (d + 8) k_X7_init [.ref 0, .int x] ([.inr (7, [.null, .null, .null, .null, .null, .null])], 25, 5298) Q := by
  have kd := hx.k
  obtain ⟨g1, g2, g3, g4, g5, g6, g7, g8⟩ := kd.le
  obtain ⟨b1, b2, b3, b4, b5, b6, b7⟩ := kd.b3
  refine x_in (M := m_X7_init) rfl rfl (Nat.le_of_ble_eq_true rfl) ⟨rfl, rfl, trivial⟩ ?_
  intro P hP
  repeat refine hP _ _ _ _ ?_
  refine And.intro ⟨Nat.le_of_ble_eq_true rfl, Nat.le_of_ble_eq_true rfl, aok_B rfl⟩ ?_
  show P 8 [some (.ref 0), some (.int x), none] [.ref 1, .ref 0] ([.inr (7, [.null, .null, .null, .null, .null, .null]), .inr (5, [.null, .null, .int 0, .null, .null, .null])], 24, 5298 - 6)
  repeat refine hP _ _ _ _ ?_
  refine And.intro ⟨Nat.le_of_ble_eq_true rfl, Nat.le_of_ble_eq_true rfl, lok_B rfl, sok_B rfl⟩ ?_
  refine g_seeker hx (fun A B S9 z b1' hm => ?_)
  show P 13 [some (.ref 0), some (.int x), none] [.ref 1, .ref 0] (w_K (.inr (7, [.null, .null, .null, .null, .null, .null])) n A B S9 z [] (24 - 17, 5298 - 6 - 2089))
  repeat refine hP _ _ _ _ ?_
  refine And.intro ⟨Nat.le_of_ble_eq_true rfl, Nat.le_of_ble_eq_true rfl, aok_B rfl⟩ ?_
  show P 42 [some (.ref 0), some (.int x), none] [.ref 19, .ref 0] (w_K (.inr (7, [.ref 1, .ref 2, .ref 9, .null, .null, .null])) n A B S9 z [.inr (4, [.null, .null, .null, .null, .int 0, .int 0])] (24 - 17 - 1, 5298 - 6 - 2089 - 6))
  repeat refine hP _ _ _ _ ?_
  refine And.intro ⟨Nat.le_of_ble_eq_true rfl, Nat.le_of_ble_eq_true rfl, lok_B rfl, sok_B rfl⟩ ?_
  refine g_history kd (by exact hok_B rfl) (fun b2' => ?_)
  show P 53 [some (.ref 0), some (.int x), none] [.ref 19, .ref 0] (w_K (.inr (7, [.ref 1, .ref 2, .ref 9, .null, .null, .null])) n A B S9 z [.inr (4, [.ref 20, .ref 21, .ref 22, .ref 23, .int 0, .int 0]), .inl (.int, n * n * n, .inl (fun _ => 0)), .inl (.int, n * n * n + n * n, .inl (fun _ => 0)), .inl (.int, n * n * n + n * n, .inl (fun _ => 0)), .inl (.int, n * n * n + n * n, .inl (fun _ => 0))] (24 - 17 - 1 - 4, 5298 - 6 - 2089 - 6 - 3159))
  repeat refine hP _ _ _ _ ?_
  refine And.intro ⟨by decide, Nat.le_of_ble_eq_true rfl, Nat.le_of_ble_eq_true rfl, Nat.le_of_ble_eq_true rfl, aok_B rfl⟩ ?_
  show P 61 [some (.ref 0), some (.int x), none] [.ref 24, .ref 0] (w_K (.inr (7, [.ref 1, .ref 2, .ref 9, .ref 19, .null, .null])) n A B S9 z [.inr (4, [.ref 20, .ref 21, .ref 22, .ref 23, .int 0, .int 0]), .inl (.int, n * n * n, .inl (fun _ => 0)), .inl (.int, n * n * n + n * n, .inl (fun _ => 0)), .inl (.int, n * n * n + n * n, .inl (fun _ => 0)), .inl (.int, n * n * n + n * n, .inl (fun _ => 0)), .inl (.boolean, 19, .inl (fun _ => 0))] (1, 19))
  have loop : ∀ k, k ≤ 19 → ∀ W : Nat → Int32, (∀ j, j < k → W j = bI (!(j == 18))) → P 66 [some (.ref 0), some (.int x), some (.int (nI k))] [] (w_K (.inr (7, [.ref 1, .ref 2, .ref 9, .ref 19, .ref 24, .null])) n A B S9 z [.inr (4, [.ref 20, .ref 21, .ref 22, .ref 23, .int 0, .int 0]), .inl (.int, n * n * n, .inl (fun _ => 0)), .inl (.int, n * n * n + n * n, .inl (fun _ => 0)), .inl (.int, n * n * n + n * n, .inl (fun _ => 0)), .inl (.int, n * n * n + n * n, .inl (fun _ => 0)), .inl (.boolean, 19, .inl W)] (1, 19)) := by
    refine x_lp 19 (fun k hk ih W hW => ?_)
    repeat refine hP _ _ _ _ ?_
    refine b_ge (k) (19) (fun hk9 => ?_) (fun hk9 => ?_) (rfl) (ob19) (by omega) (by omega)
    · have e9 : k = 19 := by omega
      subst e9
      repeat refine hP _ _ _ _ ?_
      refine And.intro ⟨by decide, Nat.le_of_ble_eq_true rfl, Nat.le_of_ble_eq_true rfl, Nat.le_of_ble_eq_true rfl, aok_B rfl⟩ ?_
      show P 100 [some (.ref 0), some (.int x), some (.int (nI 19))] [.ref 25, .ref 0] (w_K (.inr (7, [.ref 1, .ref 2, .ref 9, .ref 19, .ref 24, .null])) n A B S9 z [.inr (4, [.ref 20, .ref 21, .ref 22, .ref 23, .int 0, .int 0]), .inl (.int, n * n * n, .inl (fun _ => 0)), .inl (.int, n * n * n + n * n, .inl (fun _ => 0)), .inl (.int, n * n * n + n * n, .inl (fun _ => 0)), .inl (.int, n * n * n + n * n, .inl (fun _ => 0)), .inl (.boolean, 19, .inl W), .inl (.int, 19, .inl (fun _ => 0))] (0, 0))
      repeat refine hP _ _ _ _ ?_
      have hq := hQ (fun k => if k ≤ 2 then -1 else if k = 8 then z else 0, fun p => if p = 13 then B else if p = 14 then S9 else if p = 24 then W else if 3 ≤ p ∧ p ≤ 8 then A p else fun _ => 0) (0, 0) ⟨⟨hm.1.1, hm.1.2.1, hm.1.2.2.1, hm.1.2.2.2, hm.2.1, hm.2.2⟩, hW, fun _ _ => rfl, ⟨rfl, rfl, rfl, ⟨fun c hc => ⟨rfl, by show (0 : Nat) < 512; decide⟩, by show (0 : Int32) = nI (gcN (fun _ => 0) (n * n)); rw [gcN_z]; rfl⟩, by show (0 : Int32) = nI (rcN (fun _ => false) (n * n)); rw [(rsL_z _).2]; rfl, fun j c e => (by rw [(rsL_z _).1] at e; cases e)⟩, rfl, rfl, trivial⟩
      exact hq
    · have ih := ih hk9
      have e18 : (Int8.ofInt 18).toInt32 = nI 18 := by decide
      repeat refine hP _ _ _ _ ?_
      refine b_eq (k) (18) (fun h18 => ?_) (fun h18 => ?_) (rfl) (e18) (by omega) (by omega)
      · repeat refine hP _ _ _ _ ?_
        refine And.intro (vp_in_nI hk9 (by omega)) ?_
        rw [upv (f := W) (by omega)]
        iterate 2 refine hP _ _ _ _ ?_
        refine x_p4 (P := P) (ih (upd W k (vp_nar .boolean (Int32.ofInt 0))) (all_lt (fun j hj => by rw [pk_un (by omega)]; exact hW j hj) (by rw [pk_us, h18]; decide))) ?_ rfl ?_ <;> try (first | rfl | (rw [nI_succ]; rfl))
      · repeat refine hP _ _ _ _ ?_
        refine And.intro (vp_in_nI hk9 (by omega)) ?_
        rw [upv (f := W) (by omega)]
        iterate 2 refine hP _ _ _ _ ?_
        refine x_p4 (P := P) (ih (upd W k (vp_nar .boolean (Int32.ofInt 1))) (all_lt (fun j hj => by rw [pk_un (by omega)]; exact hW j hj) (by rw [pk_us, beq_eq_false_iff_ne.mpr h18]; decide))) ?_ rfl ?_ <;> try (first | rfl | (rw [nI_succ]; rfl))
  iterate 3 refine hP _ _ _ _ ?_
  refine x_p4 (P := P) (loop 0 (by omega) (fun _ => 0) (fun j hj => absurd hj (Nat.not_lt_zero j))) ?_ rfl ?_ <;> try (first | rfl | (rw [nI_succ]; rfl))
/-- the model behind any 26 cells -/
theorem m_init {a0 a1 a2 a3 a4 a5 a6 a7 a8 a9 a10 a11 a12 a13 a14 a15 a16 a17 a18 a19 a20 a21 a22 a23 a24 a25 : x_C} {x : Int32} (hx : kdP x n w h) (ha : x_hok 26 [a0, a1, a2, a3, a4, a5, a6, a7, a8, a9, a10, a11, a12, a13, a14, a15, a16, a17, a18, a19, a20, a21, a22, a23, a24, a25]) (hQ : ∀ ms bb', repM ms n w h (s0 n) → Q (.inl none) (w_M (fun i => [a0, a1, a2, a3, a4, a5, a6, a7, a8, a9, a10, a11, a12, a13, a14, a15, a16, a17, a18, a19, a20, a21, a22, a23, a24, a25].getD i a0) ms [] bb')) : x_run sc x_MM x_EX (d + 2) k_X8_init [.ref 26, .int x] (a0 :: a1 :: a2 :: a3 :: a4 :: a5 :: a6 :: a7 :: a8 :: a9 :: a10 :: a11 :: a12 :: a13 :: a14 :: a15 :: a16 :: a17 :: a18 :: a19 :: a20 :: a21 :: a22 :: a23 :: a24 :: a25 :: [.inr (8, [.int 0, .int 0, .int 0, .int 0, .null, .null, .null, .null, .int 0, .null, .null, .int 0, .int 0, .int 0, .null, .null, .int 0, .null, .null, .null, .null, .null, .null])], 14, 134351) Q := by
  obtain ⟨ff9, hff⟩ : ∃ g : Nat → x_C, g = fun i => [a0, a1, a2, a3, a4, a5, a6, a7, a8, a9, a10, a11, a12, a13, a14, a15, a16, a17, a18, a19, a20, a21, a22, a23, a24, a25].getD i a0 := ⟨_, rfl⟩
  rw [← hff] at hQ
  have kc : (66420 : Int32).toNatClampNeg = 66420 := by decide +kernel
  have kd := hx.k
  obtain ⟨g1, g2, g3, g4, g5, g6, g7, g8⟩ := kd.le
  have hpos : 0 < 2 ^ n := Nat.two_pow_pos n
  have eall : (Int32.ofInt 1 <<< (nI n &&& 31)) - Int32.ofInt 1 = nI (2 ^ n - 1) := by
    obtain ⟨m, hm⟩ : ∃ m, 2 ^ n = m + 1 := ⟨2 ^ n - 1, by omega⟩
    rw [sh1 (by omega), hm, show Int32.ofInt 1 = 1 from rfl, nI_pred]; rfl
  refine x_in (M := m_X8_init) rfl rfl (Nat.le_of_ble_eq_true rfl) ⟨rfl, rfl, trivial⟩ ?_
  intro P hP
  have loop : ∀ c, c ≤ n * n → ∀ ms : x_S, gM ms n w h → (∀ e, e < c → ms.2 27 e = nI (2 ^ n - 1) ∧ ms.2 28 e = -1) → (∀ k, k < 19 → ms.2 29 k = bI (k == 18)) → (∀ k, k < 19 → ms.2 30 k = 0) → ms.1 8 = -1 → ms.1 16 = 0 → ∀ bb', P 182 [some (.ref 26), some (.int x), some (.int (nI c))] [] (w_M ff9 ms [] bb') := by
    refine x_lp (n * n) (fun c hc ih ms hG h34 h29 h30 h8 h16 bb' => ?_)
    repeat refine hP _ _ _ _ ?_
    refine r_cells hG ?_
    repeat refine hP _ _ _ _ ?_
    refine b_ge (c) (n * n) (fun hc9 => ?_) (fun hc9 => ?_) (rfl) (rfl) (by omega) (by omega)
    · repeat refine hP _ _ _ _ ?_
      exact hQ ms _ ⟨hG, fun e he => ⟨(h34 e (by omega)).1, by show 2 ^ n - 1 < 2 ^ n; omega⟩, fun e he => ⟨(h34 e (by omega)).2, fun s e9 => (by cases e9)⟩, h29, h30, h8, h16, trivial⟩
    · have ih := ih hc9
      have e1 : (Int32.ofInt 1 <<< (ms.1 1 &&& 31)) - Int32.ofInt 1 = nI (2 ^ n - 1) := by rw [hG.1]; exact eall
      repeat refine hP _ _ _ _ ?_
      refine And.intro (vp_in_nI (by omega) (by omega)) ?_
      rw [upv (f := ms.2 27) (by omega), e1]
      repeat refine hP _ _ _ _ ?_
      refine And.intro (vp_in_nI (by omega) (by omega)) ?_
      rw [upv (f := ms.2 28) (by omega)]
      iterate 2 refine hP _ _ _ _ ?_
      refine x_p4 (P := P) (ih (sA (sA ms 27 (upd (ms.2 27) c (nI (2 ^ n - 1)))) 28 (upd (ms.2 28) c (Int32.ofInt (-1)))) hG (all_lt (fun e he => by show upd (ms.2 27) c _ e = _ ∧ upd (ms.2 28) c _ e = _; rw [pk_un (by omega), pk_un (by omega)]; exact h34 e he) (by show upd (ms.2 27) c _ c = _ ∧ upd (ms.2 28) c _ c = _; rw [pk_us, pk_us]; exact ⟨rfl, rfl⟩)) h29 h30 h8 h16 bb') ?_ rfl ?_ <;> try (first | rfl | (rw [nI_succ]; rfl))
  have aft : P 172 [some (.ref 26), some (.int x), none] [] (w_M ff9 (fun k => if k = 1 then nI n else if k = 2 then nI w else if k = 3 then nI h else if k = 8 then -1 else 0, fun _ _ => 0) [] (0, 0)) := by
    repeat refine hP _ _ _ _ ?_
    refine And.intro (vpx (i := 18) (by decide) (by omega) (by omega)) ?_
    iterate 2 refine hP _ _ _ _ ?_
    refine x_p4 (P := P) (loop 0 (by omega) (sA (fun k => if k = 1 then nI n else if k = 2 then nI w else if k = 3 then nI h else if k = 8 then -1 else 0, fun _ _ => 0) 29 (upd (fun _ => 0) 18 (bI true))) ⟨rfl, rfl, rfl, kd⟩ (fun e he => absurd he (Nat.not_lt_zero e)) (fun k hk => by show upd (fun _ => 0) 18 (bI true) k = _; by_cases h9 : k = 18; (subst h9; rw [pk_us]; rfl); (rw [pk_un h9, beq_eq_false_iff_ne.mpr h9]; rfl)) (fun _ _ => rfl) rfl rfl (0, 0)) ?_ rfl ?_
    · rfl
    · rfl
  rw [hff] at aft
  repeat refine hP _ _ _ _ ?_
  refine And.intro ⟨by decide, Nat.le_of_ble_eq_true rfl, Nat.le_of_ble_eq_true rfl, Nat.le_of_ble_eq_true rfl, aok_2 (a := [a0, a1, a2, a3, a4, a5, a6, a7, a8, a9, a10, a11, a12, a13, a14, a15, a16, a17, a18, a19, a20, a21, a22, a23, a24, a25]) (b := [_]) rfl ha (Nat.le_of_ble_eq_true rfl) rfl⟩ ?_
  show P 9 [some (.ref 26), some (.int x), none] [.ref 27, .ref 26] (a0 :: a1 :: a2 :: a3 :: a4 :: a5 :: a6 :: a7 :: a8 :: a9 :: a10 :: a11 :: a12 :: a13 :: a14 :: a15 :: a16 :: a17 :: a18 :: a19 :: a20 :: a21 :: a22 :: a23 :: a24 :: a25 :: [.inr (8, [.int 0, .int 0, .int 0, .int 0, .null, .null, .null, .null, .int 0, .null, .null, .int 0, .int 0, .int 0, .null, .null, .int 0, .null, .null, .null, .null, .null, .null]), .inl (.int, 81, .inl (fun _ => 0))], 13, 134351 - 81)
  repeat refine hP _ _ _ _ ?_
  refine And.intro ⟨by decide, Nat.le_of_ble_eq_true rfl, Nat.le_of_ble_eq_true rfl, Nat.le_of_ble_eq_true rfl, aok_2 (a := [a0, a1, a2, a3, a4, a5, a6, a7, a8, a9, a10, a11, a12, a13, a14, a15, a16, a17, a18, a19, a20, a21, a22, a23, a24, a25]) (b := [_, _]) rfl ha (Nat.le_of_ble_eq_true rfl) rfl⟩ ?_
  show P 17 [some (.ref 26), some (.int x), none] [.ref 28, .ref 26] (a0 :: a1 :: a2 :: a3 :: a4 :: a5 :: a6 :: a7 :: a8 :: a9 :: a10 :: a11 :: a12 :: a13 :: a14 :: a15 :: a16 :: a17 :: a18 :: a19 :: a20 :: a21 :: a22 :: a23 :: a24 :: a25 :: [.inr (8, [.int 0, .int 0, .int 0, .int 0, .ref 27, .null, .null, .null, .int 0, .null, .null, .int 0, .int 0, .int 0, .null, .null, .int 0, .null, .null, .null, .null, .null, .null]), .inl (.int, 81, .inl (fun _ => 0)), .inl (.int, 81, .inl (fun _ => 0))], 12, 134351 - 81 - 81)
  repeat refine hP _ _ _ _ ?_
  refine And.intro ⟨by decide, Nat.le_of_ble_eq_true rfl, Nat.le_of_ble_eq_true rfl, Nat.le_of_ble_eq_true rfl, aok_2 (a := [a0, a1, a2, a3, a4, a5, a6, a7, a8, a9, a10, a11, a12, a13, a14, a15, a16, a17, a18, a19, a20, a21, a22, a23, a24, a25]) (b := [_, _, _]) rfl ha (Nat.le_of_ble_eq_true rfl) rfl⟩ ?_
  show P 25 [some (.ref 26), some (.int x), none] [.ref 29, .ref 26] (a0 :: a1 :: a2 :: a3 :: a4 :: a5 :: a6 :: a7 :: a8 :: a9 :: a10 :: a11 :: a12 :: a13 :: a14 :: a15 :: a16 :: a17 :: a18 :: a19 :: a20 :: a21 :: a22 :: a23 :: a24 :: a25 :: [.inr (8, [.int 0, .int 0, .int 0, .int 0, .ref 27, .ref 28, .null, .null, .int 0, .null, .null, .int 0, .int 0, .int 0, .null, .null, .int 0, .null, .null, .null, .null, .null, .null]), .inl (.int, 81, .inl (fun _ => 0)), .inl (.int, 81, .inl (fun _ => 0)), .inl (.boolean, 19, .inl (fun _ => 0))], 11, 134351 - 81 - 81 - 19)
  repeat refine hP _ _ _ _ ?_
  refine And.intro ⟨by decide, Nat.le_of_ble_eq_true rfl, Nat.le_of_ble_eq_true rfl, Nat.le_of_ble_eq_true rfl, aok_2 (a := [a0, a1, a2, a3, a4, a5, a6, a7, a8, a9, a10, a11, a12, a13, a14, a15, a16, a17, a18, a19, a20, a21, a22, a23, a24, a25]) (b := [_, _, _, _]) rfl ha (Nat.le_of_ble_eq_true rfl) rfl⟩ ?_
  show P 33 [some (.ref 26), some (.int x), none] [.ref 30, .ref 26] (a0 :: a1 :: a2 :: a3 :: a4 :: a5 :: a6 :: a7 :: a8 :: a9 :: a10 :: a11 :: a12 :: a13 :: a14 :: a15 :: a16 :: a17 :: a18 :: a19 :: a20 :: a21 :: a22 :: a23 :: a24 :: a25 :: [.inr (8, [.int 0, .int 0, .int 0, .int 0, .ref 27, .ref 28, .ref 29, .null, .int 0, .null, .null, .int 0, .int 0, .int 0, .null, .null, .int 0, .null, .null, .null, .null, .null, .null]), .inl (.int, 81, .inl (fun _ => 0)), .inl (.int, 81, .inl (fun _ => 0)), .inl (.boolean, 19, .inl (fun _ => 0)), .inl (.int, 19, .inl (fun _ => 0))], 10, 134351 - 81 - 81 - 19 - 19)
  repeat refine hP _ _ _ _ ?_
  refine And.intro ⟨by decide, Nat.le_of_ble_eq_true rfl, Nat.le_of_ble_eq_true rfl, Nat.le_of_ble_eq_true rfl, aok_2 (a := [a0, a1, a2, a3, a4, a5, a6, a7, a8, a9, a10, a11, a12, a13, a14, a15, a16, a17, a18, a19, a20, a21, a22, a23, a24, a25]) (b := [_, _, _, _, _]) rfl ha (Nat.le_of_ble_eq_true rfl) rfl⟩ ?_
  show P 46 [some (.ref 26), some (.int x), none] [.ref 31, .ref 26] (a0 :: a1 :: a2 :: a3 :: a4 :: a5 :: a6 :: a7 :: a8 :: a9 :: a10 :: a11 :: a12 :: a13 :: a14 :: a15 :: a16 :: a17 :: a18 :: a19 :: a20 :: a21 :: a22 :: a23 :: a24 :: a25 :: [.inr (8, [.int 0, .int 0, .int 0, .int 0, .ref 27, .ref 28, .ref 29, .ref 30, .int (-1), .null, .null, .int 0, .int 0, .int 0, .null, .null, .int 0, .null, .null, .null, .null, .null, .null]), .inl (.int, 81, .inl (fun _ => 0)), .inl (.int, 81, .inl (fun _ => 0)), .inl (.boolean, 19, .inl (fun _ => 0)), .inl (.int, 19, .inl (fun _ => 0)), .inl (.boolean, 81, .inl (fun _ => 0))], 9, 134351 - 81 - 81 - 19 - 19 - 81)
  repeat refine hP _ _ _ _ ?_
  refine And.intro ⟨by decide, Nat.le_of_ble_eq_true rfl, Nat.le_of_ble_eq_true rfl, Nat.le_of_ble_eq_true rfl, aok_2 (a := [a0, a1, a2, a3, a4, a5, a6, a7, a8, a9, a10, a11, a12, a13, a14, a15, a16, a17, a18, a19, a20, a21, a22, a23, a24, a25]) (b := [_, _, _, _, _, _]) rfl ha (Nat.le_of_ble_eq_true rfl) rfl⟩ ?_
  show P 54 [some (.ref 26), some (.int x), none] [.ref 32, .ref 26] (a0 :: a1 :: a2 :: a3 :: a4 :: a5 :: a6 :: a7 :: a8 :: a9 :: a10 :: a11 :: a12 :: a13 :: a14 :: a15 :: a16 :: a17 :: a18 :: a19 :: a20 :: a21 :: a22 :: a23 :: a24 :: a25 :: [.inr (8, [.int 0, .int 0, .int 0, .int 0, .ref 27, .ref 28, .ref 29, .ref 30, .int (-1), .ref 31, .null, .int 0, .int 0, .int 0, .null, .null, .int 0, .null, .null, .null, .null, .null, .null]), .inl (.int, 81, .inl (fun _ => 0)), .inl (.int, 81, .inl (fun _ => 0)), .inl (.boolean, 19, .inl (fun _ => 0)), .inl (.int, 19, .inl (fun _ => 0)), .inl (.boolean, 81, .inl (fun _ => 0)), .inl (.int, 81, .inl (fun _ => 0))], 8, 134351 - 81 - 81 - 19 - 19 - 81 - 81)
  repeat refine hP _ _ _ _ ?_
  refine And.intro ⟨by decide, Nat.le_of_ble_eq_true rfl, Nat.le_of_ble_eq_true rfl, Nat.le_of_ble_eq_true rfl, aok_2 (a := [a0, a1, a2, a3, a4, a5, a6, a7, a8, a9, a10, a11, a12, a13, a14, a15, a16, a17, a18, a19, a20, a21, a22, a23, a24, a25]) (b := [_, _, _, _, _, _, _]) rfl ha (Nat.le_of_ble_eq_true rfl) rfl⟩ ?_
  show P 62 [some (.ref 26), some (.int x), none] [.ref 33, .ref 26] (a0 :: a1 :: a2 :: a3 :: a4 :: a5 :: a6 :: a7 :: a8 :: a9 :: a10 :: a11 :: a12 :: a13 :: a14 :: a15 :: a16 :: a17 :: a18 :: a19 :: a20 :: a21 :: a22 :: a23 :: a24 :: a25 :: [.inr (8, [.int 0, .int 0, .int 0, .int 0, .ref 27, .ref 28, .ref 29, .ref 30, .int (-1), .ref 31, .ref 32, .int 0, .int 0, .int 0, .null, .null, .int 0, .null, .null, .null, .null, .null, .null]), .inl (.int, 81, .inl (fun _ => 0)), .inl (.int, 81, .inl (fun _ => 0)), .inl (.boolean, 19, .inl (fun _ => 0)), .inl (.int, 19, .inl (fun _ => 0)), .inl (.boolean, 81, .inl (fun _ => 0)), .inl (.int, 81, .inl (fun _ => 0)), .inl (.int, 81, .inl (fun _ => 0))], 7, 134351 - 81 - 81 - 19 - 19 - 81 - 81 - 81)
  repeat refine hP _ _ _ _ ?_
  refine And.intro ⟨by decide, Nat.le_of_ble_eq_true rfl, Nat.le_of_ble_eq_true rfl, Nat.le_of_ble_eq_true rfl, aok_2 (a := [a0, a1, a2, a3, a4, a5, a6, a7, a8, a9, a10, a11, a12, a13, a14, a15, a16, a17, a18, a19, a20, a21, a22, a23, a24, a25]) (b := [_, _, _, _, _, _, _, _]) rfl ha (Nat.le_of_ble_eq_true rfl) rfl⟩ ?_
  show P 69 [some (.ref 26), some (.int x), none] [.ref 34, .ref 26] (a0 :: a1 :: a2 :: a3 :: a4 :: a5 :: a6 :: a7 :: a8 :: a9 :: a10 :: a11 :: a12 :: a13 :: a14 :: a15 :: a16 :: a17 :: a18 :: a19 :: a20 :: a21 :: a22 :: a23 :: a24 :: a25 :: [.inr (8, [.int 0, .int 0, .int 0, .int 0, .ref 27, .ref 28, .ref 29, .ref 30, .int (-1), .ref 31, .ref 32, .int 0, .int 0, .int 0, .ref 33, .null, .int 0, .null, .null, .null, .null, .null, .null]), .inl (.int, 81, .inl (fun _ => 0)), .inl (.int, 81, .inl (fun _ => 0)), .inl (.boolean, 19, .inl (fun _ => 0)), .inl (.int, 19, .inl (fun _ => 0)), .inl (.boolean, 81, .inl (fun _ => 0)), .inl (.int, 81, .inl (fun _ => 0)), .inl (.int, 81, .inl (fun _ => 0)), .inl (.int, 5, .inl (fun _ => 0))], 6, 134351 - 81 - 81 - 19 - 19 - 81 - 81 - 81 - 5)
  repeat refine hP _ _ _ _ ?_
  refine And.intro ⟨by decide, Nat.le_of_ble_eq_true rfl, Nat.le_of_ble_eq_true rfl, Nat.le_of_ble_eq_true rfl, aok_2 (a := [a0, a1, a2, a3, a4, a5, a6, a7, a8, a9, a10, a11, a12, a13, a14, a15, a16, a17, a18, a19, a20, a21, a22, a23, a24, a25]) (b := [_, _, _, _, _, _, _, _, _]) rfl ha (Nat.le_of_ble_eq_true rfl) rfl⟩ ?_
  rw [kc]
  show P 77 [some (.ref 26), some (.int x), none] [.ref 35, .ref 26] (a0 :: a1 :: a2 :: a3 :: a4 :: a5 :: a6 :: a7 :: a8 :: a9 :: a10 :: a11 :: a12 :: a13 :: a14 :: a15 :: a16 :: a17 :: a18 :: a19 :: a20 :: a21 :: a22 :: a23 :: a24 :: a25 :: [.inr (8, [.int 0, .int 0, .int 0, .int 0, .ref 27, .ref 28, .ref 29, .ref 30, .int (-1), .ref 31, .ref 32, .int 0, .int 0, .int 0, .ref 33, .ref 34, .int 0, .null, .null, .null, .null, .null, .null]), .inl (.int, 81, .inl (fun _ => 0)), .inl (.int, 81, .inl (fun _ => 0)), .inl (.boolean, 19, .inl (fun _ => 0)), .inl (.int, 19, .inl (fun _ => 0)), .inl (.boolean, 81, .inl (fun _ => 0)), .inl (.int, 81, .inl (fun _ => 0)), .inl (.int, 81, .inl (fun _ => 0)), .inl (.int, 5, .inl (fun _ => 0)), .inl (.int, 66420, .inl (fun _ => 0))], 5, 134351 - 81 - 81 - 19 - 19 - 81 - 81 - 81 - 5 - 66420)
  repeat refine hP _ _ _ _ ?_
  refine And.intro ⟨by decide, Nat.le_of_ble_eq_true rfl, Nat.le_of_ble_eq_true rfl, Nat.le_of_ble_eq_true rfl, aok_2 (a := [a0, a1, a2, a3, a4, a5, a6, a7, a8, a9, a10, a11, a12, a13, a14, a15, a16, a17, a18, a19, a20, a21, a22, a23, a24, a25]) (b := [_, _, _, _, _, _, _, _, _, _]) rfl ha (Nat.le_of_ble_eq_true rfl) rfl⟩ ?_
  rw [kc]
  show P 85 [some (.ref 26), some (.int x), none] [.ref 36, .ref 26] (a0 :: a1 :: a2 :: a3 :: a4 :: a5 :: a6 :: a7 :: a8 :: a9 :: a10 :: a11 :: a12 :: a13 :: a14 :: a15 :: a16 :: a17 :: a18 :: a19 :: a20 :: a21 :: a22 :: a23 :: a24 :: a25 :: [.inr (8, [.int 0, .int 0, .int 0, .int 0, .ref 27, .ref 28, .ref 29, .ref 30, .int (-1), .ref 31, .ref 32, .int 0, .int 0, .int 0, .ref 33, .ref 34, .int 0, .ref 35, .null, .null, .null, .null, .null]), .inl (.int, 81, .inl (fun _ => 0)), .inl (.int, 81, .inl (fun _ => 0)), .inl (.boolean, 19, .inl (fun _ => 0)), .inl (.int, 19, .inl (fun _ => 0)), .inl (.boolean, 81, .inl (fun _ => 0)), .inl (.int, 81, .inl (fun _ => 0)), .inl (.int, 81, .inl (fun _ => 0)), .inl (.int, 5, .inl (fun _ => 0)), .inl (.int, 66420, .inl (fun _ => 0)), .inl (.int, 66420, .inl (fun _ => 0))], 4, 134351 - 81 - 81 - 19 - 19 - 81 - 81 - 81 - 5 - 66420 - 66420)
  repeat refine hP _ _ _ _ ?_
  refine And.intro ⟨by decide, Nat.le_of_ble_eq_true rfl, Nat.le_of_ble_eq_true rfl, Nat.le_of_ble_eq_true rfl, aok_2 (a := [a0, a1, a2, a3, a4, a5, a6, a7, a8, a9, a10, a11, a12, a13, a14, a15, a16, a17, a18, a19, a20, a21, a22, a23, a24, a25]) (b := [_, _, _, _, _, _, _, _, _, _, _]) rfl ha (Nat.le_of_ble_eq_true rfl) rfl⟩ ?_
  show P 94 [some (.ref 26), some (.int x), none] [.ref 37, .ref 26] (a0 :: a1 :: a2 :: a3 :: a4 :: a5 :: a6 :: a7 :: a8 :: a9 :: a10 :: a11 :: a12 :: a13 :: a14 :: a15 :: a16 :: a17 :: a18 :: a19 :: a20 :: a21 :: a22 :: a23 :: a24 :: a25 :: [.inr (8, [.int 0, .int 0, .int 0, .int 0, .ref 27, .ref 28, .ref 29, .ref 30, .int (-1), .ref 31, .ref 32, .int 0, .int 0, .int 0, .ref 33, .ref 34, .int 0, .ref 35, .ref 36, .null, .null, .null, .null]), .inl (.int, 81, .inl (fun _ => 0)), .inl (.int, 81, .inl (fun _ => 0)), .inl (.boolean, 19, .inl (fun _ => 0)), .inl (.int, 19, .inl (fun _ => 0)), .inl (.boolean, 81, .inl (fun _ => 0)), .inl (.int, 81, .inl (fun _ => 0)), .inl (.int, 81, .inl (fun _ => 0)), .inl (.int, 5, .inl (fun _ => 0)), .inl (.int, 66420, .inl (fun _ => 0)), .inl (.int, 66420, .inl (fun _ => 0)), .inl (.int, 820, .inl (fun _ => 0))], 3, 134351 - 81 - 81 - 19 - 19 - 81 - 81 - 81 - 5 - 66420 - 66420 - 820)
  repeat refine hP _ _ _ _ ?_
  refine And.intro ⟨by decide, Nat.le_of_ble_eq_true rfl, Nat.le_of_ble_eq_true rfl, Nat.le_of_ble_eq_true rfl, aok_2 (a := [a0, a1, a2, a3, a4, a5, a6, a7, a8, a9, a10, a11, a12, a13, a14, a15, a16, a17, a18, a19, a20, a21, a22, a23, a24, a25]) (b := [_, _, _, _, _, _, _, _, _, _, _, _]) rfl ha (Nat.le_of_ble_eq_true rfl) rfl⟩ ?_
  show P 102 [some (.ref 26), some (.int x), none] [.ref 38, .ref 26] (a0 :: a1 :: a2 :: a3 :: a4 :: a5 :: a6 :: a7 :: a8 :: a9 :: a10 :: a11 :: a12 :: a13 :: a14 :: a15 :: a16 :: a17 :: a18 :: a19 :: a20 :: a21 :: a22 :: a23 :: a24 :: a25 :: [.inr (8, [.int 0, .int 0, .int 0, .int 0, .ref 27, .ref 28, .ref 29, .ref 30, .int (-1), .ref 31, .ref 32, .int 0, .int 0, .int 0, .ref 33, .ref 34, .int 0, .ref 35, .ref 36, .ref 37, .null, .null, .null]), .inl (.int, 81, .inl (fun _ => 0)), .inl (.int, 81, .inl (fun _ => 0)), .inl (.boolean, 19, .inl (fun _ => 0)), .inl (.int, 19, .inl (fun _ => 0)), .inl (.boolean, 81, .inl (fun _ => 0)), .inl (.int, 81, .inl (fun _ => 0)), .inl (.int, 81, .inl (fun _ => 0)), .inl (.int, 5, .inl (fun _ => 0)), .inl (.int, 66420, .inl (fun _ => 0)), .inl (.int, 66420, .inl (fun _ => 0)), .inl (.int, 820, .inl (fun _ => 0)), .inl (.boolean, 81, .inl (fun _ => 0))], 2, 134351 - 81 - 81 - 19 - 19 - 81 - 81 - 81 - 5 - 66420 - 66420 - 820 - 81)
  repeat refine hP _ _ _ _ ?_
  refine And.intro ⟨by decide, Nat.le_of_ble_eq_true rfl, Nat.le_of_ble_eq_true rfl, Nat.le_of_ble_eq_true rfl, aok_2 (a := [a0, a1, a2, a3, a4, a5, a6, a7, a8, a9, a10, a11, a12, a13, a14, a15, a16, a17, a18, a19, a20, a21, a22, a23, a24, a25]) (b := [_, _, _, _, _, _, _, _, _, _, _, _, _]) rfl ha (Nat.le_of_ble_eq_true rfl) rfl⟩ ?_
  show P 110 [some (.ref 26), some (.int x), none] [.ref 39, .ref 26] (a0 :: a1 :: a2 :: a3 :: a4 :: a5 :: a6 :: a7 :: a8 :: a9 :: a10 :: a11 :: a12 :: a13 :: a14 :: a15 :: a16 :: a17 :: a18 :: a19 :: a20 :: a21 :: a22 :: a23 :: a24 :: a25 :: [.inr (8, [.int 0, .int 0, .int 0, .int 0, .ref 27, .ref 28, .ref 29, .ref 30, .int (-1), .ref 31, .ref 32, .int 0, .int 0, .int 0, .ref 33, .ref 34, .int 0, .ref 35, .ref 36, .ref 37, .ref 38, .null, .null]), .inl (.int, 81, .inl (fun _ => 0)), .inl (.int, 81, .inl (fun _ => 0)), .inl (.boolean, 19, .inl (fun _ => 0)), .inl (.int, 19, .inl (fun _ => 0)), .inl (.boolean, 81, .inl (fun _ => 0)), .inl (.int, 81, .inl (fun _ => 0)), .inl (.int, 81, .inl (fun _ => 0)), .inl (.int, 5, .inl (fun _ => 0)), .inl (.int, 66420, .inl (fun _ => 0)), .inl (.int, 66420, .inl (fun _ => 0)), .inl (.int, 820, .inl (fun _ => 0)), .inl (.boolean, 81, .inl (fun _ => 0)), .inl (.boolean, 81, .inl (fun _ => 0))], 1, 134351 - 81 - 81 - 19 - 19 - 81 - 81 - 81 - 5 - 66420 - 66420 - 820 - 81 - 81)
  repeat refine hP _ _ _ _ ?_
  refine And.intro ⟨by decide, Nat.le_of_ble_eq_true rfl, Nat.le_of_ble_eq_true rfl, Nat.le_of_ble_eq_true rfl, aok_2 (a := [a0, a1, a2, a3, a4, a5, a6, a7, a8, a9, a10, a11, a12, a13, a14, a15, a16, a17, a18, a19, a20, a21, a22, a23, a24, a25]) (b := [_, _, _, _, _, _, _, _, _, _, _, _, _, _]) rfl ha (Nat.le_of_ble_eq_true rfl) rfl⟩ ?_
  show P 118 [some (.ref 26), some (.int x), none] [.ref 40, .ref 26] (a0 :: a1 :: a2 :: a3 :: a4 :: a5 :: a6 :: a7 :: a8 :: a9 :: a10 :: a11 :: a12 :: a13 :: a14 :: a15 :: a16 :: a17 :: a18 :: a19 :: a20 :: a21 :: a22 :: a23 :: a24 :: a25 :: [.inr (8, [.int 0, .int 0, .int 0, .int 0, .ref 27, .ref 28, .ref 29, .ref 30, .int (-1), .ref 31, .ref 32, .int 0, .int 0, .int 0, .ref 33, .ref 34, .int 0, .ref 35, .ref 36, .ref 37, .ref 38, .ref 39, .null]), .inl (.int, 81, .inl (fun _ => 0)), .inl (.int, 81, .inl (fun _ => 0)), .inl (.boolean, 19, .inl (fun _ => 0)), .inl (.int, 19, .inl (fun _ => 0)), .inl (.boolean, 81, .inl (fun _ => 0)), .inl (.int, 81, .inl (fun _ => 0)), .inl (.int, 81, .inl (fun _ => 0)), .inl (.int, 5, .inl (fun _ => 0)), .inl (.int, 66420, .inl (fun _ => 0)), .inl (.int, 66420, .inl (fun _ => 0)), .inl (.int, 820, .inl (fun _ => 0)), .inl (.boolean, 81, .inl (fun _ => 0)), .inl (.boolean, 81, .inl (fun _ => 0)), .inl (.boolean, 81, .inl (fun _ => 0))], 0, 134351 - 81 - 81 - 19 - 19 - 81 - 81 - 81 - 5 - 66420 - 66420 - 820 - 81 - 81 - 81)
  have sel : P 121 [some (.ref 26), some (.int x), none] [] (a0 :: a1 :: a2 :: a3 :: a4 :: a5 :: a6 :: a7 :: a8 :: a9 :: a10 :: a11 :: a12 :: a13 :: a14 :: a15 :: a16 :: a17 :: a18 :: a19 :: a20 :: a21 :: a22 :: a23 :: a24 :: a25 :: [.inr (8, [.int 0, .int 0, .int 0, .int 0, .ref 27, .ref 28, .ref 29, .ref 30, .int (-1), .ref 31, .ref 32, .int 0, .int 0, .int 0, .ref 33, .ref 34, .int 0, .ref 35, .ref 36, .ref 37, .ref 38, .ref 39, .ref 40]), .inl (.int, 81, .inl (fun _ => 0)), .inl (.int, 81, .inl (fun _ => 0)), .inl (.boolean, 19, .inl (fun _ => 0)), .inl (.int, 19, .inl (fun _ => 0)), .inl (.boolean, 81, .inl (fun _ => 0)), .inl (.int, 81, .inl (fun _ => 0)), .inl (.int, 81, .inl (fun _ => 0)), .inl (.int, 5, .inl (fun _ => 0)), .inl (.int, 66420, .inl (fun _ => 0)), .inl (.int, 66420, .inl (fun _ => 0)), .inl (.int, 820, .inl (fun _ => 0)), .inl (.boolean, 81, .inl (fun _ => 0)), .inl (.boolean, 81, .inl (fun _ => 0)), .inl (.boolean, 81, .inl (fun _ => 0))], 0, 134351 - 81 - 81 - 19 - 19 - 81 - 81 - 81 - 5 - 66420 - 66420 - 820 - 81 - 81 - 81) := by
    rcases hx with ⟨hx, rfl, rfl, rfl⟩ | ⟨hx, rfl, rfl, rfl⟩ | ⟨hx, rfl, rfl, rfl⟩
    · have n0 : ¬ (0 : Int32) < x := Int32.not_lt.mpr hx
      have n2 : x < 2 := by
        rw [Int32.lt_iff_toInt_lt]
        rw [Int32.le_iff_toInt_le] at hx
        have e0 : (0 : Int32).toInt = 0 := by decide
        have e2 : (2 : Int32).toInt = 2 := by decide
        omega
      repeat refine hP _ _ _ _ ?_
      refine And.intro (fun h9 => absurd (show (0 : Int32) < x from h9) n0) (fun _ => ?_)
      repeat refine hP _ _ _ _ ?_
      refine And.intro (fun h9 => absurd (show (0 : Int32) < x from h9) n0) (fun _ => ?_)
      repeat refine hP _ _ _ _ ?_
      refine And.intro (fun _ => ?_) (fun h9 => absurd n2 h9)
      iterate 2 refine hP _ _ _ _ ?_
      refine x_p4 (P := P) (aft) ?_ rfl ?_ <;> try (first | rfl | (rw [nI_succ]; rfl))
    · subst hx
      repeat refine hP _ _ _ _ ?_
      refine And.intro (fun _ => ?_) (fun h9 => absurd (show (0 : Int32) < 1 by decide) h9)
      repeat refine hP _ _ _ _ ?_
      refine And.intro (fun h9 => absurd rfl h9) (fun _ => ?_)
      repeat refine hP _ _ _ _ ?_
      refine And.intro (fun _ => ?_) (fun h9 => absurd (show (0 : Int32) < 1 by decide) h9)
      repeat refine hP _ _ _ _ ?_
      refine And.intro (fun _ => ?_) (fun h9 => absurd (show (1 : Int32) < 2 by decide) h9)
      iterate 2 refine hP _ _ _ _ ?_
      refine x_p4 (P := P) (aft) ?_ rfl ?_ <;> try (first | rfl | (rw [nI_succ]; rfl))
    · have n0 : (0 : Int32) < x := by
        rw [Int32.lt_iff_toInt_lt] at hx ⊢
        have e0 : (0 : Int32).toInt = 0 := by decide
        have e1 : (1 : Int32).toInt = 1 := by decide
        omega
      have n1 : x ≠ 1 := fun e => by rw [e] at hx; exact absurd hx (by decide)
      have n2 : ¬ x < 2 := by
        rw [Int32.lt_iff_toInt_lt] at hx ⊢
        have e2 : (2 : Int32).toInt = 2 := by decide
        have e1 : (1 : Int32).toInt = 1 := by decide
        omega
      repeat refine hP _ _ _ _ ?_
      refine And.intro (fun _ => ?_) (fun h9 => absurd n0 h9)
      repeat refine hP _ _ _ _ ?_
      refine And.intro (fun _ => ?_) (fun h9 => absurd n1 h9)
      repeat refine hP _ _ _ _ ?_
      refine And.intro (fun _ => ?_) (fun h9 => absurd n0 h9)
      repeat refine hP _ _ _ _ ?_
      refine And.intro (fun h9 => absurd (show x < 2 from h9) n2) (fun _ => ?_)
      iterate 3 refine hP _ _ _ _ ?_
      refine x_p4 (P := P) (aft) ?_ rfl ?_ <;> try (first | rfl | (rw [nI_succ]; rfl))
  refine hP _ _ _ _ ?_
  refine x_p4 (P := P) (sel) ?_ rfl ?_ <;> try (first | rfl | (rw [nI_succ]; rfl))
end GL
