/-! ===== the model over the pure game: solve, undo, set, take and the small ones ===== -/
section RQ
variable {sc : Nat × (Nat → Int32)} {f : Nat → x_C} {ms m3 : x_S} {tl : List x_C} {bb : Nat × Nat} {n w h d : Nat} {Q : x_O → x_H → Prop} {s : pS}
theorem solP_n {m : Nat} (he : fdP n w h s = none) : solP n w h (m + 1) s = (0, noF s) := by
  simp only [solP, he]
theorem solP_s {m k : Nat} {r : rS} (he : fdP n w h s = some (k, r)) : solP n w h (m + 1) s = ((solP n w h m (actP s k r)).1 + 1, (solP n w h m (actP s k r)).2) := by
  simp only [solP, he]
theorem solP_le {n w h : Nat} : ∀ (m : Nat) (s : pS), (solP n w h m s).1 ≤ m
  | 0, s => Nat.le_refl 0
  | m + 1, s => by
    cases he : fdP n w h s with
    | none => rw [solP_n he]; exact Nat.zero_le _
    | some p => obtain ⟨k, r⟩ := p; rw [solP_s he]; have := solP_le (n := n) (w := w) (h := h) m (actP s k r); show _ + 1 ≤ _; omega
theorem t_solve (hR : repM ms n w h s) (hI : inv n w h s) {x : Int32} (hQ : ∀ ms', repM ms' n w h (solX n w h s x) → Q (.inl (some (.int (solI n w h s x)))) (w_M f ms' tl bb)) : x_run sc x_MM x_EX (d + 8) k_X8_solve [.ref 26, .int x] (w_M f ms tl bb) Q := by
  have hR0 := rep_0 (v := 0) hR
  refine x_in (M := m_X8_solve) rfl rfl (Nat.le_of_ble_eq_true rfl) ⟨rfl, rfl, trivial⟩ ?_
  intro P hP
  repeat refine hP _ _ _ _ ?_
  refine And.intro (fun h9 => ?_) (fun h9 => ?_)
  · have h9 : ¬ x < 0 := Int32.not_lt.mpr h9
    have hQ : ∀ ms', repM ms' n w h (solP n w h x.toNatClampNeg s).2 → Q (.inl (some (.int (nI (solP n w h x.toNatClampNeg s).1)))) (w_M f ms' tl bb) := by
      intro ms' h5
      have := hQ ms'
      unfold solX solI at this
      rw [if_neg h9, if_neg h9] at this
      exact this h5
    obtain ⟨M, hM, rfl⟩ := i32_nn h9
    rw [nI_clamp hM] at hQ
    have fin : ∀ (m2 : x_S) (i : Nat) (s2 : pS), repM m2 n w h s2 → (solP n w h M s).1 = i → (solP n w h M s).2 = noF s2 → P 35 [some (.ref 26), some (.int (nI M)), some (.int (nI i))] [] (w_M f m2 tl bb) := by
      intro m2 i s2 hr2 e1 e2
      repeat refine hP _ _ _ _ ?_
      refine x_q1 (hQ (sF m2 8 (-1)) (e2 ▸ rep_scr hr2 (scr.rf _))) ?_
      rw [e1]
    have loop : ∀ i, i ≤ M → ∀ (m2 : x_S) (s2 : pS), repM m2 n w h s2 → inv n w h s2 → (solP n w h M s).1 = i + (solP n w h (M - i) s2).1 → (solP n w h M s).2 = (solP n w h (M - i) s2).2 → P 13 [some (.ref 26), some (.int (nI M)), some (.int (nI i))] [] (w_M f m2 tl bb) := by
      refine x_lp M (fun i hi ih m2 s2 hr2 hi2 e1 e2 => ?_)
      repeat refine hP _ _ _ _ ?_
      refine b_ge (i) (M) (fun hi9 => ?_) (fun hi9 => ?_) (rfl) (rfl) (by omega) (by omega)
      · rw [show M - i = 0 by omega] at e1 e2
        exact fin m2 i s2 hr2 e1 e2
      · have ih := ih hi9
        obtain ⟨j, hj⟩ : ∃ j, M - i = j + 1 := ⟨M - i - 1, by omega⟩
        rw [hj] at e1 e2
        rw [show M - (i + 1) = j by omega] at ih
        repeat refine hP _ _ _ _ ?_
        refine r_search hr2.1 hr2.2.1 hr2.2.2.1 hr2.2.2.2.1 (fun hb => ?_) (fun m3 k r hb hm hk hs hres => ?_) (fun m3 hb hm hs => ?_)
        · have e : fdP n w h s2 = none := by unfold fdP; rw [if_pos hb]
          rw [solP_n e] at e1 e2
          repeat refine hP _ _ _ _ ?_
          refine And.intro (fun _ => ?_) (fun h7 => absurd (show (-2 : Int32) < 0 by decide) h7)
          exact fin _ i (noF s2) (rep_scr hr2 (scr.rf _)) e1 e2
        · have e : fdP n w h s2 = some (k, r) := by unfold fdP; rw [if_neg hb, hs]
          rw [solP_s e] at e1 e2
          have hok := fdP_ok hi2 e
          have hr3 := rep_fd (k := k) (rep_scr hr2 hm) hres
          have hi3 : inv n w h (s2.cb, s2.vb, s2.off, s2.dn, some (k, r), s2.hs) := by
            have := inv_find hi2
            unfold findP at this
            rw [e] at this
            exact this
          have hres3 : resM (sF m3 8 (nI k)) n r := ⟨hres.1, hres.2.1, hres.2.2⟩
          repeat refine hP _ _ _ _ ?_
          refine And.intro (fun h7 => absurd (show nI k < 0 from h7) (nI_pos (by omega))) (fun _ => ?_)
          repeat refine hP _ _ _ _ ?_
          refine r_act hr3.1 hr3.2.2.2.2.2.2.1 (inv_d hi3) rfl hk hres3.1 ?_
          have hr4 := rep_act hr3 hi2.2.1 rfl hres3 hok.2.2
          iterate 2 refine hP _ _ _ _ ?_
          refine x_p4 (P := P) (ih _ (actP s2 k r) hr4 (inv_act hi2 hok.2.1 hok.2.2) (by rw [e1]; show _ + (_ + 1) = _; omega) e2) ?_ rfl ?_ <;> try (first | rfl | (rw [nI_succ]; rfl))
        · have e : fdP n w h s2 = none := by unfold fdP; rw [if_neg hb, hs]
          rw [solP_n e] at e1 e2
          repeat refine hP _ _ _ _ ?_
          refine And.intro (fun _ => ?_) (fun h7 => absurd (show (-1 : Int32) < 0 by decide) h7)
          exact fin _ i (noF s2) (rep_scr hr2 hm) e1 e2
    iterate 2 refine hP _ _ _ _ ?_
    refine x_p4 (P := P) (loop 0 (by omega) (sF ms 0 0) s hR0 hI (by rw [Nat.sub_zero]; omega) rfl) ?_ rfl ?_ <;> try (first | rfl | (rw [nI_succ]; rfl))
  · have h9 : x < 0 := Int32.not_le.mp h9
    repeat refine hP _ _ _ _ ?_
    have := hQ (sF ms 0 0)
    unfold solX solI at this
    rw [if_pos h9, if_pos h9] at this
    exact this hR0
theorem rep_undo (hR : repM ms n w h s) (hI : inv n w h s) {cb0 : Nat → Nat} {vb0 : Nat → Option Nat} {k : Nat} {r : rS} {t : List ((Nat → Nat) × (Nat → Option Nat) × Nat × rS)} (he : s.hs = (cb0, vb0, k, r) :: t) : repM (undoM ms t.length k) n w h (undoP s) := by
  obtain ⟨cb, vb, off, dn, fd, hs⟩ := s
  have he : hs = (cb0, vb0, k, r) :: t := he
  subst he
  obtain ⟨a1, a2, a3, a4, a5, a6, a7, a8⟩ := hR
  obtain ⟨b1, b2, b3, b4⟩ := a8
  obtain ⟨i1, i2, i3, i4, i5, i6⟩ := hI
  obtain ⟨c1, c2, c3, c4, c5, c6, c7, c8⟩ := i5
  obtain ⟨g1, g2, g3, g4, g5, g6, g7, g8⟩ := a1.2.2.2.le
  refine ⟨a1, fun c hc => ⟨?_, c3 c hc⟩, fun c hc => ⟨?_, c4 c hc⟩, a4, fun j hj => ?_, rfl, rfl, hsM_eq (ms := ms) (ms' := undoM ms t.length k) rfl rfl rfl _ b4⟩
  · show bkA (ms.2 27) (ms.2 35) t.length 81 c = nI (cb0 c)
    unfold bkA
    rw [if_pos (by omega)]
    exact b1 c hc
  · show bkA (ms.2 28) (ms.2 36) t.length 81 c = vI (vb0 c)
    unfold bkA
    rw [if_pos (by omega)]
    exact b2 c hc
  · show upd (ms.2 30) k (ms.2 30 k - 1) j = upd dn k (dn k - 1) j
    have a5 : ∀ k, k < 19 → ms.2 30 k = dn k := a5
    by_cases hjk : j = k
    · subst hjk; rw [pk_us, pk_us, a5 j hj]
    · rw [pk_un hjk, pk_un hjk, a5 j hj]
theorem t_undo (hR : repM ms n w h s) (hI : inv n w h s) (hQ : ∀ ms', repM ms' n w h (undoP s) → Q (.inl (some (.int (undoI s)))) (w_M f ms' tl bb)) : x_run sc x_MM x_EX (d + 1) k_X8_undo [.ref 26] (w_M f ms tl bb) Q := by
  have hd := inv_d hI
  have h7 := hR.2.2.2.2.2.2.1
  have h8 := hR.2.2.2.2.2.2.2
  have hc := hI.2.2.2.2.1
  cases he : s.hs with
  | nil =>
    rw [he] at h7
    refine r_undo (D := 0) h7 (by omega) (fun _ => ?_) (fun E k e9 => absurd e9 (by omega)) (fun E e9 => absurd e9 (by omega))
    have e1 : undoP s = s := by unfold undoP; rw [he]
    refine x_q1 (hQ _ (e1.symm ▸ rep_0 hR)) ?_
    unfold undoI
    rw [he]
  | cons a t =>
    obtain ⟨cb0, vb0, k, r⟩ := a
    rw [he] at h7 h8 hc hd
    have h7 : ms.1 16 = nI (t.length + 1) := h7
    have hd : t.length + 1 < 820 := hd
    obtain ⟨b1, b2, b3, b4⟩ := h8
    refine r_undo (D := t.length + 1) h7 (by omega) (fun e9 => absurd e9 (by omega)) (fun E k' e9 hk9 hk' => ?_) (fun E e9 => ?_)
    · have e9 : t.length = E := by omega
      subst e9
      have hk2 : k < 19 := hc.2.1
      have ek : nI k' = nI k := hk'.symm.trans b3
      rw [nI_eq (by omega) (by omega)] at ek
      subst ek
      refine x_q1 (hQ _ (rep_undo hR hI he)) ?_
      unfold undoI
      rw [he]
    · have e9 : t.length = E := by omega
      subst e9
      exact ⟨k, hc.2.1, b3⟩
def opX (n : Nat) (s : pS) (x y : Int32) : Bool := okB x (n * n) && okB y n && ((s.vb x.toNatClampNeg).isNone && (s.cb x.toNatClampNeg).testBit y.toNatClampNeg)
def thr2 (n : Nat) (x y : Int32) : Nat := if okB x (n * n) then (if okB y n then 0 else 2) else 1
def thr1 (m : Nat) (x : Int32) : Nat := if okB x m then 0 else 1
def setX (n w h : Nat) (s : pS) (x y : Int32) : pS := if opX n s x y then putP n w h s x.toNatClampNeg y.toNatClampNeg else s
def takX (n : Nat) (s : pS) (x y : Int32) : pS := if opX n s x y then takeP s x.toNatClampNeg y.toNatClampNeg else s
def enB (s : pS) (x : Int32) (b : Bool) : Bool := okB x 19 && (s.off x.toNatClampNeg == b)
def enX (s : pS) (x : Int32) (b : Bool) : pS := if enB s x b then enP s x.toNatClampNeg b else s
theorem okB_nI {k m : Nat} (hk : k < m) (hm : m < 2 ^ 31) : okB (nI k) m = true := decide_eq_true (by rw [nI_toInt (by omega)]; omega)
theorem opX_f1 {x y : Int32} (h1 : okB x (n * n) = false) : opX n s x y = false ∧ thr2 n x y = 1 := by unfold opX thr2; rw [h1]; exact ⟨rfl, rfl⟩
theorem opX_f2 {x y : Int32} (h1 : okB x (n * n) = true) (h2 : okB y n = false) : opX n s x y = false ∧ thr2 n x y = 2 := by unfold opX thr2; rw [h1, h2]; exact ⟨rfl, rfl⟩
theorem opX_at {c y : Nat} (hn : n * n ≤ 81) (hn9 : n ≤ 9) (hc : c < n * n) (hy : y < n) : opX n s (nI c) (nI y) = ((s.vb c).isNone && (s.cb c).testBit y) ∧ thr2 n (nI c) (nI y) = 0 := by
  unfold opX thr2
  rw [okB_nI hc (by omega), okB_nI hy (by omega), nI_clamp (by omega), nI_clamp (by omega)]
  exact ⟨rfl, rfl⟩
theorem opX_no {c y : Nat} (hd : s.vb c ≠ none ∨ (s.cb c).testBit y = false) : ((s.vb c).isNone && (s.cb c).testBit y) = false := by
  rcases hd with hd | hd
  · cases hv : s.vb c with
    | none => exact absurd hv hd
    | some _ => rfl
  · rw [hd, Bool.and_false]
theorem rep_set (hR : repM ms n w h s) {c y : Nat} (hc : c < n * n) (hy : y < n) (hb : (s.cb c).testBit y = true) (hC9 : cbB s.cb n) : repM (setS ms n w h c y) n w h (putP n w h s c y) := by
  obtain ⟨a1, a2, a3, a4, a5, a6, a7, a8⟩ := hR
  refine ⟨a1, fun e he => ⟨putA_left a2 hb e he, cbB_left hC9 e he⟩, fun e he => ?_, a4, a5, rfl, rfl, trivial⟩
  show upd (ms.2 28) c (nI y) e = vI (updO s.vb c (some y) e) ∧ ∀ s', updO s.vb c (some y) e = some s' → s' < n
  unfold updO
  by_cases hcc : e = c
  · subst hcc
    rw [pk_us, if_pos rfl]
    exact ⟨rfl, fun s' e => by cases e; exact hy⟩
  · rw [pk_un hcc, if_neg hcc]
    exact a3 e he
theorem rep_take (hR : repM ms n w h s) {c y : Nat} (hc : c < n * n) (hC9 : cbB s.cb n) : repM (takeS ms c y) n w h (takeP s c y) := by
  obtain ⟨a1, a2, a3, a4, a5, a6, a7, a8⟩ := hR
  refine ⟨a1, fun e he => ?_, a3, a4, a5, rfl, rfl, trivial⟩
  show upd (ms.2 27) c (ms.2 27 c &&& (nI (2 ^ y) ^^^ (-1))) e = nI (updN s.cb c (clr (s.cb c) (2 ^ y)) e) ∧ updN s.cb c (clr (s.cb c) (2 ^ y)) e < 2 ^ n
  unfold updN
  by_cases hcc : e = c
  · subst hcc
    rw [pk_us, if_pos rfl, (a2 e he).1, nx_not]
    exact ⟨rfl, Nat.lt_of_le_of_lt (clr_le _ _) (hC9 e he)⟩
  · rw [pk_un hcc, if_neg hcc]
    exact a2 e he
theorem t_mset (hR : repM ms n w h s) (hI : inv n w h s) {x y : Int32} (hQ : ∀ ms', repM ms' n w h (setX n w h s x y) → ms'.1 0 = nI (thr2 n x y) → Q (.inl (some (.int (bI (opX n s x y))))) (w_M f ms' tl bb)) : x_run sc x_MM x_EX (d + 4) k_X8_set [.ref 26, .int x, .int y] (w_M f ms tl bb) Q := by
  obtain ⟨g1, g2, g3, g4, g5, g6, g7, g8⟩ := hI.1.le
  have hno : opX n s x y = false → setX n w h s x y = s := fun e => by unfold setX; rw [e]; rfl
  refine r_set hR.1 hR.2.1 hR.2.2.1 (fun h1 => ?_) (fun h1 h2 => ?_) (fun c y' hc hy ex ey hd => ?_) (fun c y' hc hy ex ey hd hb => ?_)
  · have e := opX_f1 (s := s) (y := y) h1
    rw [e.1, e.2, hno e.1] at hQ
    exact hQ _ (rep_0 hR) rfl
  · have e := opX_f2 (s := s) h1 h2
    rw [e.1, e.2, hno e.1] at hQ
    exact hQ _ (rep_0 hR) rfl
  · subst ex; subst ey
    have e := opX_at (s := s) g7 g2 hc hy
    rw [opX_no hd] at e
    rw [e.1, e.2, hno e.1] at hQ
    exact hQ _ (rep_0 hR) rfl
  · subst ex; subst ey
    have e := opX_at (s := s) g7 g2 hc hy
    rw [hd, hb] at e
    have e3 : setX n w h s (nI c) (nI y') = putP n w h s c y' := by unfold setX; rw [e.1, nI_clamp (by omega), nI_clamp (by omega)]; rfl
    rw [e.1, e.2, e3] at hQ
    exact hQ _ (rep_set hR hc hy hb hI.2.1) rfl
theorem t_take (hR : repM ms n w h s) (hI : inv n w h s) {x y : Int32} (hQ : ∀ ms', repM ms' n w h (takX n s x y) → ms'.1 0 = nI (thr2 n x y) → Q (.inl (some (.int (bI (opX n s x y))))) (w_M f ms' tl bb)) : x_run sc x_MM x_EX (d + 4) k_X8_take [.ref 26, .int x, .int y] (w_M f ms tl bb) Q := by
  obtain ⟨g1, g2, g3, g4, g5, g6, g7, g8⟩ := hI.1.le
  have hno : opX n s x y = false → takX n s x y = s := fun e => by unfold takX; rw [e]; rfl
  refine r_take hR.1 hR.2.1 hR.2.2.1 (fun h1 => ?_) (fun h1 h2 => ?_) (fun c y' hc hy ex ey hd => ?_) (fun c y' hc hy ex ey hd hb => ?_)
  · have e := opX_f1 (s := s) (y := y) h1
    rw [e.1, e.2, hno e.1] at hQ
    exact hQ _ (rep_0 hR) rfl
  · have e := opX_f2 (s := s) h1 h2
    rw [e.1, e.2, hno e.1] at hQ
    exact hQ _ (rep_0 hR) rfl
  · subst ex; subst ey
    have e := opX_at (s := s) g7 g2 hc hy
    rw [opX_no hd] at e
    rw [e.1, e.2, hno e.1] at hQ
    exact hQ _ (rep_0 hR) rfl
  · subst ex; subst ey
    have e := opX_at (s := s) g7 g2 hc hy
    rw [hd, hb] at e
    have e3 : takX n s (nI c) (nI y') = takeP s c y' := by unfold takX; rw [e.1, nI_clamp (by omega), nI_clamp (by omega)]; rfl
    rw [e.1, e.2, e3] at hQ
    exact hQ _ (rep_take hR hc hI.2.1) rfl
theorem inv_setX (hI : inv n w h s) (x y : Int32) : inv n w h (setX n w h s x y) := by
  obtain ⟨g1, g2, g3, g4, g5, g6, g7, g8⟩ := hI.1.le
  unfold setX
  cases e : opX n s x y with
  | false => exact hI
  | true =>
    unfold opX at e
    rw [Bool.and_eq_true, Bool.and_eq_true] at e
    obtain ⟨c, hc, rfl⟩ := okB_t e.1.1 (by omega)
    obtain ⟨z, hz, rfl⟩ := okB_t e.1.2 (by omega)
    rw [nI_clamp (by omega), nI_clamp (by omega)]
    exact inv_put hI hc hz
theorem inv_takX (hI : inv n w h s) (x y : Int32) : inv n w h (takX n s x y) := by
  unfold takX
  split
  · exact inv_take hI _ _
  · exact hI
theorem inv_enX (hI : inv n w h s) (x : Int32) (b : Bool) : inv n w h (enX s x b) := by
  unfold enX
  split
  · exact inv_en hI _ _
  · exact hI
theorem inv_solX (hI : inv n w h s) (x : Int32) : inv n w h (solX n w h s x) := by
  unfold solX
  split
  · exact hI
  · exact inv_sol _ hI
theorem t_enable (hR : repM ms n w h s) {x : Int32} {b : Bool} (hQ : ∀ ms', repM ms' n w h (enX s x b) → ms'.1 0 = nI (thr1 19 x) → Q (.inl (some (.int (bI (enB s x b))))) (w_M f ms' tl bb)) : x_run sc x_MM x_EX (d + 2) k_X8_enable [.ref 26, .int x, .int (bI b)] (w_M f ms tl bb) Q := by
  have hno : enB s x b = false → enX s x b = s := fun e => by unfold enX; rw [e]; rfl
  refine r_enable hR.2.2.2.1 (fun h1 => ?_) (fun k hk ex hd => ?_) (fun k hk ex hd => ?_)
  · have e : enB s x b = false := by unfold enB; rw [h1]; rfl
    have e2 : thr1 19 x = 1 := by unfold thr1; rw [h1]; rfl
    rw [e, e2, hno e] at hQ
    exact hQ _ (rep_0 hR) rfl
  · subst ex
    have e : enB s (nI k) b = false := by unfold enB; rw [nI_clamp (by omega), beq_eq_false_iff_ne.mpr hd, Bool.and_false]
    have e2 : thr1 19 (nI k) = 0 := by unfold thr1; rw [okB_nI hk (by decide)]; rfl
    rw [e, e2, hno e] at hQ
    exact hQ _ (rep_0 hR) rfl
  · subst ex
    have e : enB s (nI k) b = true := by unfold enB; rw [nI_clamp (by omega), okB_nI hk (by decide), hd]; simp
    have e2 : thr1 19 (nI k) = 0 := by unfold thr1; rw [okB_nI hk (by decide)]; rfl
    have e3 : enX s (nI k) b = enP s k b := by unfold enX; rw [e, nI_clamp (by omega)]; rfl
    rw [e, e2, e3] at hQ
    refine hQ _ ?_ rfl
    obtain ⟨a1, a2, a3, a4, a5, a6, a7, a8⟩ := hR
    refine ⟨a1, a2, a3, fun j hj => ?_, a5, rfl, a7, hsM_eq (ms := ms) (ms' := sF (sA (sF ms 0 0) 29 (upd (ms.2 29) k (bI (!b)))) 8 (-1)) rfl rfl rfl _ a8⟩
    show upd (ms.2 29) k (bI (!b)) j = bI (updB s.off k (!b) j)
    by_cases hjk : j = k
    · subst hjk; rw [pk_us, updB_s]
    · rw [pk_un hjk, updB_n hjk]; exact a4 j hj
def donI (s : pS) (x : Int32) : Int32 := if okB x 19 then s.dn x.toNatClampNeg else 0
def cndI (n : Nat) (s : pS) (x : Int32) : Int32 := if okB x (n * n) then nI (s.cb x.toNatClampNeg) else 0
def valI (n : Nat) (s : pS) (x : Int32) : Int32 := if okB x (n * n) then vI (s.vb x.toNatClampNeg) else 0
theorem t_done (hR : repM ms n w h s) {x : Int32} (hQ : ∀ ms', repM ms' n w h s → ms'.1 0 = nI (thr1 19 x) → Q (.inl (some (.int (donI s x)))) (w_M f ms' tl bb)) : x_run sc x_MM x_EX (d + 2) k_X8_done [.ref 26, .int x] (w_M f ms tl bb) Q := by
  refine r_done (fun h1 => ?_) (fun k hk ex => ?_)
  · unfold donI thr1 at hQ
    rw [h1] at hQ
    exact hQ _ (rep_0 hR) rfl
  · subst ex
    unfold donI thr1 at hQ
    rw [okB_nI hk (by decide), nI_clamp (by omega)] at hQ
    exact x_q1 (hQ _ (rep_0 hR) rfl) (hR.2.2.2.2.1 k hk).symm
theorem t_candidates (hR : repM ms n w h s) {x : Int32} (hQ : ∀ ms', repM ms' n w h s → ms'.1 0 = nI (thr1 (n * n) x) → Q (.inl (some (.int (cndI n s x)))) (w_M f ms' tl bb)) : x_run sc x_MM x_EX (d + 3) k_X8_candidates [.ref 26, .int x] (w_M f ms tl bb) Q := by
  obtain ⟨g1, g2, g3, g4, g5, g6, g7, g8⟩ := hR.1.2.2.2.le
  refine r_candidates hR.1 (fun h1 => ?_) (fun k hk ex => ?_)
  · unfold cndI thr1 at hQ
    rw [h1] at hQ
    exact hQ _ (rep_0 hR) rfl
  · subst ex
    unfold cndI thr1 at hQ
    rw [okB_nI hk (by omega), nI_clamp (by omega)] at hQ
    exact x_q1 (hQ _ (rep_0 hR) rfl) (hR.2.1 k hk).1.symm
theorem t_value (hR : repM ms n w h s) {x : Int32} (hQ : ∀ ms', repM ms' n w h s → ms'.1 0 = nI (thr1 (n * n) x) → Q (.inl (some (.int (valI n s x)))) (w_M f ms' tl bb)) : x_run sc x_MM x_EX (d + 3) k_X8_value [.ref 26, .int x] (w_M f ms tl bb) Q := by
  obtain ⟨g1, g2, g3, g4, g5, g6, g7, g8⟩ := hR.1.2.2.2.le
  refine r_value hR.1 (fun h1 => ?_) (fun k hk ex => ?_)
  · unfold valI thr1 at hQ
    rw [h1] at hQ
    exact hQ _ (rep_0 hR) rfl
  · subst ex
    unfold valI thr1 at hQ
    rw [okB_nI hk (by omega), nI_clamp (by omega)] at hQ
    exact x_q1 (hQ _ (rep_0 hR) rfl) (hR.2.2.1 k hk).1.symm
theorem dnI_eq {a b : Nat → Int32} {N : Nat} (h : ∀ k, k < N → a k = b k) : ∀ k, k ≤ N → dnI a k = dnI b k
  | 0, _ => rfl
  | k + 1, hk => by
    show dnI a k + a k = dnI b k + b k
    rw [dnI_eq h k (by omega), h k (by omega)]
theorem t_state (hR : repM ms n w h s) {x : Int32} (hQ : ∀ ms', repM ms' n w h s → Q (.inl (some (.int (stateI n w h s x)))) (w_M f ms' tl bb)) : x_run sc x_MM x_EX (d + 4) k_X8_state [.ref 26, .int x] (w_M f ms tl bb) Q := by
  refine r_state hR.1 hR.2.1 hR.2.2.1 (fun h2 b hb => ?_) (fun h3 => ?_) (fun h2 h3 => ?_)
  · subst h2
    refine x_q1 (hQ _ (rep_0 hR)) ?_
    unfold stateI
    rw [if_neg (by decide), if_neg (by decide), if_pos rfl]
    by_cases hk : brk s.cb n w h
    · rw [if_pos hk, hb.mpr hk]; rfl
    · rw [if_neg hk]
      cases b with
      | true => exact absurd (hb.mp rfl) hk
      | false => rfl
  · subst h3
    refine x_q1 (hQ _ (rep_0 hR)) ?_
    unfold stateI
    rw [if_neg (by decide), if_neg (by decide), if_neg (by decide), if_pos rfl]
  · refine x_q1 (hQ _ (rep_0 hR)) ?_
    unfold stateI
    rw [if_neg h2, if_neg h3, dnI_eq hR.2.2.2.2.1 19 (Nat.le_refl _)]
def wdX (n : Nat) (s : pS) (lg x : Int32) : Int32 := match s.fd with
  | none => -1
  | some (k, r) => if lg < 0 ∨ 1 < lg ∨ x < 0 then -1 else wdI n (nmT lg.toNatClampNeg k) (rsL r.2.2 81) x.toNatClampNeg
theorem t_words (hR : repM ms n w h s) (hI : inv n w h s) {lg x : Int32} (hQ : ∀ ms', repM ms' n w h s → Q (.inl (some (.int (wdX n s lg x)))) (w_M f ms' tl bb)) : x_run sc x_MM x_EX (d + 3) k_X8_words [.ref 26, .int lg, .int x] (w_M f ms tl bb) Q := by
  refine r_words (rs := fdR s) hR.1 (fd_S hR hI) (fun h8 => (fd_R hR h8).1) (fun h9 => ?_) (fun k g j hk h8 hg eg hj ej => ?_)
  · refine x_q1 (hQ _ (rep_0 hR)) ?_
    unfold wdX
    cases hf : s.fd with
    | none => rfl
    | some p =>
      have h8 : ms.1 8 ≠ -1 := by
        have h6 := hR.2.2.2.2.2.1
        rw [hf] at h6
        have := (hI.2.2.2.2.2 p.1 p.2 hf).1
        rw [h6.1]
        exact nI_m1 (by omega)
      have h9 : lg < 0 ∨ 1 < lg ∨ x < 0 := h9.resolve_left h8
      show (if lg < 0 ∨ 1 < lg ∨ x < 0 then (-1 : Int32) else _) = -1
      rw [if_pos h9]
  · have h8n : ms.1 8 ≠ -1 := by rw [h8]; exact nI_m1 (by omega)
    obtain ⟨k', r, e1, e2, e3⟩ := fd_T hR h8n
    have hk' := (hI.2.2.2.2.2 k' r e1).1
    have ek : nI k' = nI k := e2.symm.trans h8
    rw [nI_eq (by omega) (by omega)] at ek
    subst ek; subst eg; subst ej
    refine x_q1 (hQ _ (rep_0 hR)) ?_
    unfold wdX fdR
    rw [e1]
    have h9 : ¬ (nI g < 0 ∨ 1 < nI g ∨ nI j < 0) := by
      intro h9
      rcases h9 with h9 | h9 | h9
      · exact nI_pos (by omega) h9
      · rw [z1, nI_ltI (by omega) (by omega)] at h9; omega
      · exact nI_pos hj h9
    show (if nI g < 0 ∨ 1 < nI g ∨ nI j < 0 then (-1 : Int32) else _) = _
    rw [if_neg h9, nI_clamp (by omega), nI_clamp hj]
end RQ
