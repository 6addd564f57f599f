/-! ===== the law: its world, its small methods ===== -/
def mC9 (ms : x_S) (tl : List x_C) : List x_C := .inr (8, [.int (ms.1 0), .int (ms.1 1), .int (ms.1 2), .int (ms.1 3), .ref 27, .ref 28, .ref 29, .ref 30, .int (ms.1 8), .ref 31, .ref 32, .int (ms.1 11), .int (ms.1 12), .int (ms.1 13), .ref 33, .ref 34, .int (ms.1 16), .ref 35, .ref 36, .ref 37, .ref 38, .ref 39, .ref 40]) :: .inl (.int, 81, .inl (ms.2 27)) :: .inl (.int, 81, .inl (ms.2 28)) :: .inl (.boolean, 19, .inl (ms.2 29)) :: .inl (.int, 19, .inl (ms.2 30)) :: .inl (.boolean, 81, .inl (ms.2 31)) :: .inl (.int, 81, .inl (ms.2 32)) :: .inl (.int, 81, .inl (ms.2 33)) :: .inl (.int, 5, .inl (ms.2 34)) :: .inl (.int, 66420, .inl (ms.2 35)) :: .inl (.int, 66420, .inl (ms.2 36)) :: .inl (.int, 820, .inl (ms.2 37)) :: .inl (.boolean, 81, .inl (ms.2 38)) :: .inl (.boolean, 81, .inl (ms.2 39)) :: .inl (.boolean, 81, .inl (ms.2 40)) :: tl
def fC9 (n : Nat) (cs : x_S) : Nat → x_C := fun i => (w_C n cs [] (0, 0)).1.getD i (.inl (.int, 0, .inl (fun _ => 0)))
def lo9 (q : Nat → Int64) : x_C := .inl (.long, 1, .inr (.inl q))
/-- class, model and the long[] -/
def w_L (n : Nat) (cs ms : x_S) (q : Nat → Int64) (bb : Nat × Nat) : x_H := w_C n cs (mC9 ms [lo9 q]) bb
theorem w_LM (n : Nat) (cs ms : x_S) (q : Nat → Int64) (bb : Nat × Nat) : w_M (fC9 n cs) ms [lo9 q] bb = w_L n cs ms q bb := rfl
theorem ex_s1 : ex_L_set 5 aioobe = some (some (22, 4)) := by unfold ex_L_set; rw [if_pos (by decide), if_pos rfl]
theorem ex_s2 : ex_L_set 5 iae = some (some (26, 4)) := by unfold ex_L_set; rw [if_pos (by decide), if_neg (by decide), if_pos rfl]
theorem ex_t1 : ex_L_take 5 aioobe = some (some (22, 4)) := by unfold ex_L_take; rw [if_pos (by decide), if_pos rfl]
theorem ex_t2 : ex_L_take 5 iae = some (some (26, 4)) := by unfold ex_L_take; rw [if_pos (by decide), if_neg (by decide), if_pos rfl]
theorem ex_e1 : ex_L_enable 5 aioobe = some (some (22, 4)) := by unfold ex_L_enable; rw [if_pos (by decide), if_pos rfl]
theorem ex_done1 : ex_L_done 4 aioobe = some (some (13, 3)) := by unfold ex_L_done; rw [if_pos (by decide), if_pos rfl]
theorem ex_candidates1 : ex_L_candidates 4 aioobe = some (some (13, 3)) := by unfold ex_L_candidates; rw [if_pos (by decide), if_pos rfl]
theorem ex_value1 : ex_L_value 4 aioobe = some (some (13, 3)) := by unfold ex_L_value; rw [if_pos (by decide), if_pos rfl]
theorem opX_t {n : Nat} {s : pS} {x y : Int32} {k : Nat} (h : thr2 n x y = k) (hk : k ≠ 0) : opX n s x y = false := by
  unfold thr2 at h
  unfold opX
  cases h1 : okB x (n * n) with
  | false => rfl
  | true =>
    cases h2 : okB y n with
    | false => rfl
    | true => rw [h1, h2] at h; exact absurd h.symm hk
section LA
variable {sc : Nat × (Nat → Int32)} {cs ms : x_S} {q : Nat → Int64} {bb : Nat × Nat} {n w h d : Nat} {Q : x_O → x_H → Prop} {s : pS}
theorem l_set (hR : repC cs n w h s) (hI : inv n w h s) {x y : Int32} (hQ : ∀ cs' q' bb', repC cs' n w h (setX n w h s x y) → (thr2 n x y = 0 → q' 0 = if opX n s x y then 1 else 0) → Q (.inl (some (.int (nI (thr2 n x y))))) (w_L n cs' ms q' bb')) : x_run sc x_MM x_EX (d + 6) k_L_set [.ref 0, .int x, .int y, .ref 41] (w_L n cs ms q (2, 12)) Q := by
  refine x_in (M := m_L_set) rfl rfl (Nat.le_of_ble_eq_true rfl) ⟨rfl, rfl, rfl, rfl, trivial⟩ ?_
  intro P hP
  repeat refine hP _ _ _ _ ?_
  refine And.intro ⟨Nat.le_of_ble_eq_true rfl, Nat.le_of_ble_eq_true rfl, lok_B rfl, sok_B rfl⟩ ?_
  refine k_set hR hI (fun h1 bb' => ?_) (fun h2 bb' => ?_) (fun h3 cs2 bb' hr2 => ?_)
  · have e : setX n w h s x y = s := by unfold setX; rw [opX_t h1 (by decide)]; rfl
    rw [h1, e] at hQ
    dsimp only
    rw [show m_L_set.exc (0 + 1 + 1 + 1 + 1 + 1) aioobe = some (some (22, 4)) from ex_s1]
    repeat refine hP _ _ _ _ ?_
    exact hQ cs q _ hR (fun h0 => absurd h0 (by decide))
  · have e : setX n w h s x y = s := by unfold setX; rw [opX_t h2 (by decide)]; rfl
    rw [h2, e] at hQ
    dsimp only
    rw [show m_L_set.exc (0 + 1 + 1 + 1 + 1 + 1) iae = some (some (26, 4)) from ex_s2]
    repeat refine hP _ _ _ _ ?_
    exact hQ cs q _ hR (fun h0 => absurd h0 (by decide))
  · rw [h3] at hQ
    repeat refine hP _ _ _ _ ?_
    refine b_ifeq (fun hop => ?_) (fun hop => ?_) (rfl)
    · repeat refine hP _ _ _ _ ?_
      refine And.intro (vpx (i := 0) oi0 (by omega) (by omega)) ?_
      repeat refine hP _ _ _ _ ?_
      exact hQ cs2 (vp_updL q (Int32.ofInt 0).toNatClampNeg (Int64.ofNat 0)) _ hr2 (fun _ => by rw [hop]; rfl)
    · repeat refine hP _ _ _ _ ?_
      refine And.intro (vpx (i := 0) oi0 (by omega) (by omega)) ?_
      repeat refine hP _ _ _ _ ?_
      exact hQ cs2 (vp_updL q (Int32.ofInt 0).toNatClampNeg (Int64.ofNat 1)) _ hr2 (fun _ => by rw [hop]; rfl)
theorem l_take (hR : repC cs n w h s) (hI : inv n w h s) {x y : Int32} (hQ : ∀ cs' q' bb', repC cs' n w h (takX n s x y) → (thr2 n x y = 0 → q' 0 = if opX n s x y then 1 else 0) → Q (.inl (some (.int (nI (thr2 n x y))))) (w_L n cs' ms q' bb')) : x_run sc x_MM x_EX (d + 4) k_L_take [.ref 0, .int x, .int y, .ref 41] (w_L n cs ms q (2, 12)) Q := by
  refine x_in (M := m_L_take) rfl rfl (Nat.le_of_ble_eq_true rfl) ⟨rfl, rfl, rfl, rfl, trivial⟩ ?_
  intro P hP
  repeat refine hP _ _ _ _ ?_
  refine And.intro ⟨Nat.le_of_ble_eq_true rfl, Nat.le_of_ble_eq_true rfl, lok_B rfl, sok_B rfl⟩ ?_
  refine k_take hR hI (fun h1 bb' => ?_) (fun h2 bb' => ?_) (fun h3 cs2 bb' hr2 => ?_)
  · have e : takX n s x y = s := by unfold takX; rw [opX_t h1 (by decide)]; rfl
    rw [h1, e] at hQ
    dsimp only
    rw [show m_L_take.exc (0 + 1 + 1 + 1 + 1 + 1) aioobe = some (some (22, 4)) from ex_t1]
    repeat refine hP _ _ _ _ ?_
    exact hQ cs q _ hR (fun h0 => absurd h0 (by decide))
  · have e : takX n s x y = s := by unfold takX; rw [opX_t h2 (by decide)]; rfl
    rw [h2, e] at hQ
    dsimp only
    rw [show m_L_take.exc (0 + 1 + 1 + 1 + 1 + 1) iae = some (some (26, 4)) from ex_t2]
    repeat refine hP _ _ _ _ ?_
    exact hQ cs q _ hR (fun h0 => absurd h0 (by decide))
  · rw [h3] at hQ
    repeat refine hP _ _ _ _ ?_
    refine b_ifeq (fun hop => ?_) (fun hop => ?_) (rfl)
    · repeat refine hP _ _ _ _ ?_
      refine And.intro (vpx (i := 0) oi0 (by omega) (by omega)) ?_
      repeat refine hP _ _ _ _ ?_
      exact hQ cs2 (vp_updL q (Int32.ofInt 0).toNatClampNeg (Int64.ofNat 0)) _ hr2 (fun _ => by rw [hop]; rfl)
    · repeat refine hP _ _ _ _ ?_
      refine And.intro (vpx (i := 0) oi0 (by omega) (by omega)) ?_
      repeat refine hP _ _ _ _ ?_
      exact hQ cs2 (vp_updL q (Int32.ofInt 0).toNatClampNeg (Int64.ofNat 1)) _ hr2 (fun _ => by rw [hop]; rfl)
theorem l_enable (hR : repC cs n w h s) (hI : inv n w h s) {x : Int32} {b : Bool} (hQ : ∀ cs' q' bb', repC cs' n w h (enX s x b) → (thr1 19 x = 0 → q' 0 = if enB s x b then 1 else 0) → Q (.inl (some (.int (nI (thr1 19 x))))) (w_L n cs' ms q' bb')) : x_run sc x_MM x_EX (d + 3) k_L_enable [.ref 0, .int x, .int (bI b), .ref 41] (w_L n cs ms q (1, 6)) Q := by
  refine x_in (M := m_L_enable) rfl rfl (Nat.le_of_ble_eq_true rfl) ⟨rfl, rfl, rfl, rfl, trivial⟩ ?_
  intro P hP
  repeat refine hP _ _ _ _ ?_
  refine And.intro ⟨Nat.le_of_ble_eq_true rfl, Nat.le_of_ble_eq_true rfl, lok_B rfl, sok_B rfl⟩ ?_
  refine k_enable hR hI (fun h1 bb' => ?_) (fun h3 cs2 bb' hr2 => ?_)
  · have e : enX s x b = s := by
      unfold thr1 at h1
      unfold enX enB
      cases h9 : okB x 19 with
      | false => rfl
      | true => rw [h9] at h1; exact absurd h1 (by decide)
    rw [h1, e] at hQ
    dsimp only
    rw [show m_L_enable.exc (0 + 1 + 1 + 1 + 1 + 1) aioobe = some (some (22, 4)) from ex_e1]
    repeat refine hP _ _ _ _ ?_
    exact hQ cs q _ hR (fun h0 => absurd h0 (by decide))
  · rw [h3] at hQ
    repeat refine hP _ _ _ _ ?_
    refine b_ifeq (fun hop => ?_) (fun hop => ?_) (rfl)
    · repeat refine hP _ _ _ _ ?_
      refine And.intro (vpx (i := 0) oi0 (by omega) (by omega)) ?_
      repeat refine hP _ _ _ _ ?_
      exact hQ cs2 (vp_updL q (Int32.ofInt 0).toNatClampNeg (Int64.ofNat 0)) _ hr2 (fun _ => by rw [hop]; rfl)
    · repeat refine hP _ _ _ _ ?_
      refine And.intro (vpx (i := 0) oi0 (by omega) (by omega)) ?_
      repeat refine hP _ _ _ _ ?_
      exact hQ cs2 (vp_updL q (Int32.ofInt 0).toNatClampNeg (Int64.ofNat 1)) _ hr2 (fun _ => by rw [hop]; rfl)
theorem l_done (hR : repC cs n w h s) {x : Int32} (hQ : ∀ q' bb', (thr1 19 x = 0 → q' 0 = (donI s x).toInt64) → Q (.inl (some (.int (nI (thr1 19 x))))) (w_L n cs ms q' bb')) : x_run sc x_MM x_EX (d + 3) k_L_done [.ref 0, .int x, .ref 41] (w_L n cs ms q (1, 6)) Q := by
  refine x_in (M := m_L_done) rfl rfl (Nat.le_of_ble_eq_true rfl) ⟨rfl, rfl, rfl, trivial⟩ ?_
  intro P hP
  repeat refine hP _ _ _ _ ?_
  refine And.intro ⟨Nat.le_of_ble_eq_true rfl, Nat.le_of_ble_eq_true rfl, lok_B rfl, sok_B rfl⟩ ?_
  refine k_done hR (fun h1 bb' => ?_) (fun h3 bb' => ?_)
  · rw [h1] at hQ
    dsimp only
    rw [show m_L_done.exc (0 + 1 + 1 + 1 + 1) aioobe = some (some (13, 3)) from ex_done1]
    repeat refine hP _ _ _ _ ?_
    exact hQ q _ (fun h0 => absurd h0 (by decide))
  · rw [h3] at hQ
    repeat refine hP _ _ _ _ ?_
    refine And.intro (vpx (i := 0) oi0 (by omega) (by omega)) ?_
    repeat refine hP _ _ _ _ ?_
    exact hQ (vp_updL q (Int32.ofInt 0).toNatClampNeg ((donI s x).toInt64)) _ (fun _ => rfl)
theorem l_candidates (hR : repC cs n w h s) (hI : inv n w h s) {x : Int32} (hQ : ∀ q' bb', (thr1 (n * n) x = 0 → q' 0 = (cndI n s x).toInt64) → Q (.inl (some (.int (nI (thr1 (n * n) x))))) (w_L n cs ms q' bb')) : x_run sc x_MM x_EX (d + 3) k_L_candidates [.ref 0, .int x, .ref 41] (w_L n cs ms q (1, 6)) Q := by
  refine x_in (M := m_L_candidates) rfl rfl (Nat.le_of_ble_eq_true rfl) ⟨rfl, rfl, rfl, trivial⟩ ?_
  intro P hP
  repeat refine hP _ _ _ _ ?_
  refine And.intro ⟨Nat.le_of_ble_eq_true rfl, Nat.le_of_ble_eq_true rfl, lok_B rfl, sok_B rfl⟩ ?_
  refine k_candidates hR hI (fun h1 bb' => ?_) (fun h3 bb' => ?_)
  · rw [h1] at hQ
    dsimp only
    rw [show m_L_candidates.exc (0 + 1 + 1 + 1 + 1) aioobe = some (some (13, 3)) from ex_candidates1]
    repeat refine hP _ _ _ _ ?_
    exact hQ q _ (fun h0 => absurd h0 (by decide))
  · rw [h3] at hQ
    repeat refine hP _ _ _ _ ?_
    refine And.intro (vpx (i := 0) oi0 (by omega) (by omega)) ?_
    repeat refine hP _ _ _ _ ?_
    exact hQ (vp_updL q (Int32.ofInt 0).toNatClampNeg ((cndI n s x).toInt64)) _ (fun _ => rfl)
theorem l_value (hR : repC cs n w h s) (hI : inv n w h s) {x : Int32} (hQ : ∀ q' bb', (thr1 (n * n) x = 0 → q' 0 = (valI n s x).toInt64) → Q (.inl (some (.int (nI (thr1 (n * n) x))))) (w_L n cs ms q' bb')) : x_run sc x_MM x_EX (d + 3) k_L_value [.ref 0, .int x, .ref 41] (w_L n cs ms q (1, 6)) Q := by
  refine x_in (M := m_L_value) rfl rfl (Nat.le_of_ble_eq_true rfl) ⟨rfl, rfl, rfl, trivial⟩ ?_
  intro P hP
  repeat refine hP _ _ _ _ ?_
  refine And.intro ⟨Nat.le_of_ble_eq_true rfl, Nat.le_of_ble_eq_true rfl, lok_B rfl, sok_B rfl⟩ ?_
  refine k_value hR hI (fun h1 bb' => ?_) (fun h3 bb' => ?_)
  · rw [h1] at hQ
    dsimp only
    rw [show m_L_value.exc (0 + 1 + 1 + 1 + 1) aioobe = some (some (13, 3)) from ex_value1]
    repeat refine hP _ _ _ _ ?_
    exact hQ q _ (fun h0 => absurd h0 (by decide))
  · rw [h3] at hQ
    repeat refine hP _ _ _ _ ?_
    refine And.intro (vpx (i := 0) oi0 (by omega) (by omega)) ?_
    repeat refine hP _ _ _ _ ?_
    exact hQ (vp_updL q (Int32.ofInt 0).toNatClampNeg ((valI n s x).toInt64)) _ (fun _ => rfl)
theorem l_cell {X : x_H} (hsc : sc.1 < 2 ^ 31) (hQ : Q (.inl (some (.int (if 0 < sc.1 then sc.2 0 else 0)))) X) {y : Int32} (hy : y = nI 0) : x_run sc x_MM x_EX (d + 1) k_L_cell [.ref x_SP, .int y] X Q := by
  subst hy
  refine x_in (M := m_L_cell) rfl rfl (Nat.le_of_ble_eq_true rfl) ⟨rfl, rfl, trivial⟩ ?_
  intro P hP
  repeat refine hP _ _ _ _ ?_
  refine b_ge (0) (sc.1) (fun h9 => ?_) (fun h9 => ?_) (rfl) (rfl) (by omega) (by omega)
  · rw [if_neg (by omega)] at hQ
    repeat refine hP _ _ _ _ ?_
    exact hQ
  · rw [if_pos h9] at hQ
    repeat refine hP _ _ _ _ ?_
    refine And.intro (vp_in_nI h9 (by omega)) ?_
    repeat refine hP _ _ _ _ ?_
    exact hQ
end LA
