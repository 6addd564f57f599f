/-! ===== the model over the pure game ===== -/
def hsM (ms : x_S) (n : Nat) : List ((Nat → Nat) × (Nat → Option Nat) × Nat × rS) → Prop
  | [] => True
  | (cb, vb, k, _) :: t => (∀ c, c < n * n → ms.2 35 (81 * t.length + c) = nI (cb c)) ∧ (∀ c, c < n * n → ms.2 36 (81 * t.length + c) = vI (vb c)) ∧ ms.2 37 t.length = nI k ∧ hsM ms n t
def fdM (ms : x_S) (n : Nat) (o : Option (Nat × rS)) : Prop := match o with
  | none => ms.1 8 = -1
  | some (k, r) => ms.1 8 = nI k ∧ resM ms n r
def repM (ms : x_S) (n w h : Nat) (s : pS) : Prop := gM ms n w h ∧ cM ms n s.cb ∧ vM ms n s.vb ∧ fM ms s.off ∧ (∀ k, k < 19 → ms.2 30 k = s.dn k) ∧ fdM ms n s.fd ∧ ms.1 16 = nI s.hs.length ∧ hsM ms n s.hs
theorem hsM_eq {ms ms' : x_S} {n : Nat} (h5 : ms'.2 35 = ms.2 35) (h6 : ms'.2 36 = ms.2 36) (h7 : ms'.2 37 = ms.2 37) : ∀ hs, hsM ms n hs → hsM ms' n hs
  | [], _ => trivial
  | (cb, vb, k, r) :: t, hh => by
    obtain ⟨a1, a2, a3, a4⟩ := hh
    exact ⟨fun c hc => by rw [h5]; exact a1 c hc, fun c hc => by rw [h6]; exact a2 c hc, by rw [h7]; exact a3, hsM_eq h5 h6 h7 t a4⟩
theorem hsM_kp {ms ms' : x_S} {n D : Nat} {s5 s6 : Nat → Int32} {v : Int32} (hn : n * n ≤ 81) (h5 : ms'.2 35 = kpA (ms.2 35) s5 D 81) (h6 : ms'.2 36 = kpA (ms.2 36) s6 D 81) (h7 : ms'.2 37 = upd (ms.2 37) D v) : ∀ hs, hs.length ≤ D → hsM ms n hs → hsM ms' n hs
  | [], _, _ => trivial
  | (cb, vb, k, r) :: t, hl, hh => by
    obtain ⟨a1, a2, a3, a4⟩ := hh
    have hl : t.length + 1 ≤ D := hl
    refine ⟨fun c hc => ?_, fun c hc => ?_, ?_, hsM_kp hn h5 h6 h7 t (by omega) a4⟩
    · rw [h5]; unfold kpA; rw [if_neg (by omega)]; exact a1 c hc
    · rw [h6]; unfold kpA; rw [if_neg (by omega)]; exact a2 c hc
    · rw [h7, pk_un (by omega)]; exact a3
section RP
variable {sc : Nat × (Nat → Int32)} {f : Nat → x_C} {ms m3 : x_S} {tl : List x_C} {bb : Nat × Nat} {n w h d : Nat} {Q : x_O → x_H → Prop} {s : pS}
theorem rep_0 {v : Int32} (hR : repM ms n w h s) : repM (sF ms 0 v) n w h s := by
  obtain ⟨a1, a2, a3, a4, a5, a6, a7, a8⟩ := hR
  refine ⟨a1, a2, a3, a4, a5, ?_, a7, hsM_eq (ms := ms) (ms' := sF ms 0 v) rfl rfl rfl _ a8⟩
  cases hf : s.fd with
  | none => rw [hf] at a6; exact a6
  | some p => rw [hf] at a6; obtain ⟨r1, r2, r3⟩ := a6.2; exact ⟨a6.1, r1, r2, r3⟩
theorem rep_scr (hR : repM ms n w h s) (hm : scr (sF ms 8 (-1)) m3) : repM m3 n w h (noF s) := by
  obtain ⟨a1, a2, a3, a4, a5, a6, a7, a8⟩ := hR
  have a1' : gM (sF ms 8 (-1)) n w h := a1
  have a2' : cM (sF ms 8 (-1)) n s.cb := a2
  have a3' : vM (sF ms 8 (-1)) n s.vb := a3
  have e : ∀ p, p ≠ 31 → p ≠ 32 → p ≠ 33 → p ≠ 34 → p ≠ 38 → p ≠ 39 → p ≠ 40 → m3.2 p = ms.2 p := hm.2
  have e29 := e 29 (by decide) (by decide) (by decide) (by decide) (by decide) (by decide) (by decide)
  have e30 := e 30 (by decide) (by decide) (by decide) (by decide) (by decide) (by decide) (by decide)
  have e35 := e 35 (by decide) (by decide) (by decide) (by decide) (by decide) (by decide) (by decide)
  have e36 := e 36 (by decide) (by decide) (by decide) (by decide) (by decide) (by decide) (by decide)
  have e37 := e 37 (by decide) (by decide) (by decide) (by decide) (by decide) (by decide) (by decide)
  exact ⟨hm.g a1', hm.c a2', hm.v a3', fun k hk => by rw [e29]; exact a4 k hk, fun k hk => by rw [e30]; exact a5 k hk, hm.1 8 (by decide) (by decide) (by decide), (hm.1 16 (by decide) (by decide) (by decide)).trans a7, hsM_eq e35 e36 e37 _ a8⟩
theorem rep_fd (hR : repM m3 n w h (noF s)) {k : Nat} {r : rS} (hr : resM m3 n r) : repM (sF m3 8 (nI k)) n w h (s.cb, s.vb, s.off, s.dn, some (k, r), s.hs) := by
  obtain ⟨a1, a2, a3, a4, a5, a6, a7, a8⟩ := hR
  obtain ⟨r1, r2, r3⟩ := hr
  exact ⟨a1, a2, a3, a4, a5, ⟨rfl, r1, r2, r3⟩, a7, hsM_eq (ms := m3) (ms' := sF m3 8 (nI k)) rfl rfl rfl _ a8⟩
theorem clr_i2 {a g : Nat} : clr (clr a g) g = clr a g := by
  apply Nat.eq_of_testBit_eq
  intro i
  simp only [clr_bit]
  cases a.testBit i <;> cases g.testBit i <;> rfl
theorem clr_p2 {a y : Nat} (hb : a.testBit y = true) : clr a (clr a (2 ^ y)) = 2 ^ y := by
  apply Nat.eq_of_testBit_eq
  intro i
  simp only [clr_bit, Nat.testBit_two_pow]
  by_cases hi : y = i
  · subst hi; rw [hb]; simp
  · rw [decide_eq_false hi]; cases a.testBit i <;> rfl
theorem clr_and {a m : Nat} : clr a (a &&& m) = clr a m := by
  apply Nat.eq_of_testBit_eq
  intro i
  simp only [clr_bit, Nat.testBit_and]
  cases a.testBit i <;> cases m.testBit i <;> rfl
theorem clr_z {a : Nat} : clr a 0 = a := by
  apply Nat.eq_of_testBit_eq
  intro i
  simp only [clr_bit, Nat.zero_testBit]
  cases a.testBit i <;> rfl
theorem putA_left {cb : Nat → Nat} (hC : cM ms n cb) {c y : Nat} (hb : (cb c).testBit y = true) : ∀ e, e < n * n → putA (ms.2 27) n w h c y (n * n) e = nI (leftN cb (setG cb n w h c y) e) := by
  intro e he
  unfold putA leftN setG setGk
  by_cases hec : e = c
  · subst hec
    rw [if_pos rfl, if_pos rfl, clr_p2 hb]
  · rw [if_neg hec, if_neg hec]
    by_cases hs : e < n * n ∧ seeN n w h c e = true
    · rw [if_pos hs, if_pos hs, (hC e he).1, nx_not, clr_and]
    · rw [if_neg hs, if_neg hs, (hC e he).1, clr_z]
theorem rep_act (hR : repM ms n w h s) {k : Nat} {r : rS} (hC9 : cbB s.cb n) (h8 : ms.1 8 = nI k) (hres : resM ms n r) (hok : okR s.cb s.vb n w h r) : repM (actM ms n w h s.hs.length k r.1) n w h (actP s k r) := by
  obtain ⟨a1, a2, a3, a4, a5, a6, a7, a8⟩ := hR
  obtain ⟨g1, g2, g3, g4, g5, g6, g7, g8⟩ := a1.2.2.2.le
  obtain ⟨r1, go, rs⟩ := r
  obtain ⟨q1, q2, q3⟩ := hres
  have hD : ∀ j, j < 19 → upd (ms.2 30) k (ms.2 30 k + 1) j = upd s.dn k (s.dn k + 1) j := by
    intro j hj
    by_cases hjk : j = k
    · subst hjk; rw [pk_us, pk_us, a5 j hj]
    · rw [pk_un hjk, pk_un hjk, a5 j hj]
  have hH : ∀ ms' : x_S, ms'.2 35 = kpA (ms.2 35) (ms.2 27) s.hs.length 81 → ms'.2 36 = kpA (ms.2 36) (ms.2 28) s.hs.length 81 → ms'.2 37 = upd (ms.2 37) s.hs.length (ms.1 8) → hsM ms' n ((s.cb, s.vb, k, r1, go, rs) :: s.hs) := by
    intro ms' e5 e6 e7
    refine ⟨fun c hc => ?_, fun c hc => ?_, ?_, hsM_kp g7 e5 e6 e7 _ (Nat.le_refl _) a8⟩
    · rw [e5]; unfold kpA; rw [if_pos (by omega), show 81 * s.hs.length + c - 81 * s.hs.length = c by omega]; exact (a2 c hc).1
    · rw [e6]; unfold kpA; rw [if_pos (by omega), show 81 * s.hs.length + c - 81 * s.hs.length = c by omega]; exact (a3 c hc).1
    · rw [e7, pk_us]; exact h8
  have hlt : ∀ c, c < n * n → leftN s.cb go c < 2 ^ n := cbB_left hC9
  cases r1 with
  | none =>
    refine ⟨a1, fun c hc => ⟨?_, hlt c hc⟩, a3, a4, hD, rfl, rfl, hH _ rfl rfl rfl⟩
    show andA (ms.2 27) (ms.2 32) 81 c = nI (clr (s.cb c) (go c))
    unfold andA
    rw [if_pos (by omega), (a2 c hc).1, (q2 c (by omega)).1, nx_not]
  | some cs =>
    obtain ⟨c0, y⟩ := cs
    obtain ⟨h1, h2, h3, h4, h5, h6, h7, h8⟩ := hok
    have h8 : go = setG s.cb n w h c0 y := h8
    subst h8
    refine ⟨a1, fun c hc => ⟨?_, hlt c hc⟩, fun c hc => ?_, a4, hD, rfl, rfl, hH _ rfl rfl rfl⟩
    · show andA (putA (ms.2 27) n w h c0 y (n * n)) (ms.2 32) 81 c = nI (leftN s.cb (setG s.cb n w h c0 y) c)
      unfold andA
      rw [if_pos (by omega), putA_left a2 h7 c hc, (q2 c (by omega)).1, nx_not]
      unfold leftN
      exact congrArg nI clr_i2
    · show upd (ms.2 28) c0 (nI y) c = vI (updO s.vb c0 (some y) c) ∧ ∀ s', updO s.vb c0 (some y) c = some s' → s' < n
      unfold updO
      by_cases hcc : c = c0
      · subst hcc
        rw [pk_us, if_pos rfl]
        exact ⟨rfl, fun s' e => by cases e; exact h5⟩
      · rw [pk_un hcc, if_neg hcc]
        exact a3 c hc
theorem t_find (hR : repM ms n w h s) (hI : inv n w h s) (hQ : ∀ ms', repM ms' n w h (findP n w h s) → Q (.inl (some (.int (frI n w h s)))) (w_M f ms' tl bb)) : x_run sc x_MM x_EX (d + 8) k_X8_find [.ref 26] (w_M f ms tl bb) Q := by
  have hR0 := rep_0 (v := 0) hR
  refine x_in (M := m_X8_find) rfl rfl (Nat.le_of_ble_eq_true rfl) ⟨rfl, trivial⟩ ?_
  intro P hP
  repeat refine hP _ _ _ _ ?_
  refine r_search (ms := sF ms 0 0) hR0.1 hR0.2.1 hR0.2.2.1 hR0.2.2.2.1 (fun hb => ?_) (fun m3 k r hb hm hk hs hres => ?_) (fun m3 hb hm hs => ?_)
  · repeat refine hP _ _ _ _ ?_
    have e : findP n w h s = noF s := by unfold findP fdP; rw [if_pos hb]; rfl
    refine x_q1 (hQ _ (e ▸ rep_scr hR0 (scr.rf _))) ?_
    unfold frI
    rw [if_pos hb]
  · repeat refine hP _ _ _ _ ?_
    have e : findP n w h s = (s.cb, s.vb, s.off, s.dn, some (k, r), s.hs) := by unfold findP fdP; rw [if_neg hb, hs]
    refine x_q1 (hQ _ (e ▸ rep_fd (rep_scr hR0 hm) hres)) ?_
    unfold frI
    rw [if_neg hb, hs]
  · repeat refine hP _ _ _ _ ?_
    have e : findP n w h s = noF s := by unfold findP fdP; rw [if_neg hb, hs]; rfl
    refine x_q1 (hQ _ (e ▸ rep_scr hR0 hm)) ?_
    unfold frI
    rw [if_neg hb, hs]
theorem fd_S (hR : repM ms n w h s) (hI : inv n w h s) : ms.1 8 = -1 ∨ ∃ k, k < 19 ∧ ms.1 8 = nI k := by
  have h6 := hR.2.2.2.2.2.1
  cases hf : s.fd with
  | none => rw [hf] at h6; exact Or.inl h6
  | some p => rw [hf] at h6; exact Or.inr ⟨p.1, (hI.2.2.2.2.2 p.1 p.2 hf).1, h6.1⟩
theorem nI_m1 {k : Nat} (hk : k < 2 ^ 31) : nI k ≠ -1 := by
  intro e
  have := nI_pos hk
  rw [e] at this
  exact this (by decide)
theorem fd_N (hR : repM ms n w h s) (hI : inv n w h s) (h8 : ms.1 8 = -1) : s.fd = none := by
  have h6 := hR.2.2.2.2.2.1
  cases hf : s.fd with
  | none => rfl
  | some p =>
    rw [hf] at h6
    have := (hI.2.2.2.2.2 p.1 p.2 hf).1
    exact absurd (h6.1.symm.trans h8) (nI_m1 (by omega))
theorem fd_T (hR : repM ms n w h s) (h8 : ms.1 8 ≠ -1) : ∃ k r, s.fd = some (k, r) ∧ ms.1 8 = nI k ∧ resM ms n r := by
  have h6 := hR.2.2.2.2.2.1
  cases hf : s.fd with
  | none => rw [hf] at h6; exact absurd h6 h8
  | some p => rw [hf] at h6; exact ⟨p.1, p.2, rfl, h6.1, h6.2⟩
/-- what is found, if anything -/
def fdG (s : pS) : Nat → Nat := match s.fd with
  | none => fun _ => 0
  | some (_, r) => r.2.1
def fdR (s : pS) : Nat → Bool := match s.fd with
  | none => fun _ => false
  | some (_, r) => r.2.2
theorem fd_R (hR : repM ms n w h s) (h8 : ms.1 8 ≠ -1) : rM ms (fdR s) ∧ oM ms (fdG s) := by
  obtain ⟨k, r, e1, e2, e3⟩ := fd_T hR h8
  unfold fdR fdG
  rw [e1]
  exact ⟨e3.2.2, e3.2.1⟩
theorem t_found (hR : repM ms n w h s) (hI : inv n w h s) {x : Int32} (hQ : ∀ ms', repM ms' n w h s → Q (.inl (some (.int (foundI s x)))) (w_M f ms' tl bb)) : x_run sc x_MM x_EX (d + 3) k_X8_found [.ref 26, .int x] (w_M f ms tl bb) Q := by
  refine r_found (rs := fdR s) (go := fdG s) (fd_S hR hI) (fun h8 => fd_R hR h8) (fun h8 => ?_) (fun h8 => ?_)
  · refine x_q1 (hQ _ (rep_0 hR)) ?_
    unfold foundI
    rw [fd_N hR hI h8]
  · obtain ⟨k, r, e1, e2, e3⟩ := fd_T hR h8
    refine x_q1 (hQ _ (rep_0 hR)) ?_
    unfold foundI fdR fdG
    rw [e1, e2]
    obtain ⟨r1, go, rs⟩ := r
    cases r1 with
    | none =>
      rw [e3.1.1, e3.1.2]
      rfl
    | some cs =>
      obtain ⟨c, y⟩ := cs
      rw [e3.1.1, e3.1.2.1]
      rfl
theorem rsL_len81 (rs : Nat → Bool) : (rsL rs 81).length ≤ 81 := by rw [rsL_len]; exact rcN_le rs 81
theorem t_reason (hR : repM ms n w h s) (hI : inv n w h s) {x : Int32} (hQ : ∀ ms', repM ms' n w h s → Q (.inl (some (.int (nthI (reasonL s) x)))) (w_M f ms' tl bb)) : x_run sc x_MM x_EX (d + 2) k_X8_reason [.ref 26, .int x] (w_M f ms tl bb) Q := by
  refine r_reason (rs := fdR s) (fd_S hR hI) (fun h8 => (fd_R hR h8).1) (fun h8 => ?_) (fun h8 c hc hr hx => ?_) (fun h8 hno => ?_)
  · refine x_q1 (hQ _ (rep_0 hR)) ?_
    unfold reasonL
    rw [fd_N hR hI h8]
    show nthI [] x = -1
    exact nthI_no (by decide) (fun j hj => absurd hj (Nat.not_lt_zero j))
  · obtain ⟨k, r, e1, e2, e3⟩ := fd_T hR h8
    refine x_q1 (hQ _ (rep_0 hR)) ?_
    unfold fdR at hr hx
    rw [e1] at hr hx
    unfold reasonL
    rw [e1, hx]
    show nthI (rsL r.2.2 81) _ = _
    exact nthI_at (rsL_at hc hr) (by have := rsL_len81 r.2.2; omega)
  · obtain ⟨k, r, e1, e2, e3⟩ := fd_T hR h8
    refine x_q1 (hQ _ (rep_0 hR)) ?_
    unfold fdR at hno
    rw [e1] at hno
    unfold reasonL
    rw [e1]
    show nthI (rsL r.2.2 81) _ = _
    refine nthI_no (by have := rsL_len81 r.2.2; omega) (fun j hj hx => ?_)
    obtain ⟨h1, h2, h3⟩ := rsL_idx (List.getElem?_eq_getElem hj)
    exact hno _ h1 h2 (by rw [h3]; exact hx)
theorem t_goes (hR : repM ms n w h s) (hI : inv n w h s) {x : Int32} (hQ : ∀ ms', repM ms' n w h s → Q (.inl (some (.int (nthI (goesL n s) x)))) (w_M f ms' tl bb)) : x_run sc x_MM x_EX (d + 2) k_X8_goes [.ref 26, .int x] (w_M f ms tl bb) Q := by
  refine r_goes (go := fdG s) hR.1 (fd_S hR hI) (fun h8 => (fd_R hR h8).2) (fun h8 => ?_) (fun h8 => ?_)
  · refine x_q1 (hQ _ (rep_0 hR)) ?_
    unfold goesL
    rw [fd_N hR hI h8]
    show nthI [] x = -1
    exact nthI_no (by decide) (fun j hj => absurd hj (Nat.not_lt_zero j))
  · obtain ⟨k, r, e1, e2, e3⟩ := fd_T hR h8
    refine x_q1 (hQ _ (rep_0 hR)) ?_
    unfold goesL fdG
    rw [e1]
def apX (s : pS) : pS := match s.fd with
  | none => s
  | some (k, r) => actP s k r
theorem inv_ap (hI : inv n w h s) : inv n w h (apX s) := by
  unfold apX
  split
  · exact hI
  · rename_i k r e
    have := hI.2.2.2.2.2 k r e
    exact inv_act hI this.1 this.2
theorem t_apply (hR : repM ms n w h s) (hI : inv n w h s) (hQ : ∀ ms', repM ms' n w h (apX s) → Q (.inl (some (.int (bI s.fd.isSome)))) (w_M f ms' tl bb)) : x_run sc x_MM x_EX (d + 5) k_X8_apply [.ref 26] (w_M f ms tl bb) Q := by
  have hD8 := inv_d hI
  by_cases h8 : ms.1 8 = -1
  · refine r_apply (k := 0) (r := none) hR.1 hR.2.2.2.2.2.2.1 hD8 (Or.inl h8) (fun _ => ?_) (fun h9 => absurd (h9.symm.trans h8) (nI_m1 (by decide)))
    have e := fd_N hR hI h8
    have e2 : apX s = s := by unfold apX; rw [e]
    refine x_q1 (hQ _ (e2.symm ▸ rep_0 hR)) ?_
    rw [e]; rfl
  · obtain ⟨k, r, e1, e2, e3⟩ := fd_T hR h8
    have hk := hI.2.2.2.2.2 k r e1
    refine r_apply (k := k) (r := r.1) hR.1 hR.2.2.2.2.2.2.1 hD8 (Or.inr ⟨e2, hk.1, e3.1⟩) (fun h9 => absurd h9 h8) (fun _ => ?_)
    have e4 : apX s = actP s k r := by unfold apX; rw [e1]
    have e3' : resM (sF ms 0 0) n r := ⟨e3.1, e3.2.1, e3.2.2⟩
    refine x_q1 (hQ _ (e4.symm ▸ rep_act (rep_0 hR) hI.2.1 e2 e3' hk.2)) ?_
    rw [e1]; rfl
noncomputable def solI (n w h : Nat) (s : pS) (x : Int32) : Int32 := if x < 0 then -1 else nI (solP n w h x.toNatClampNeg s).1
noncomputable def solX (n w h : Nat) (s : pS) (x : Int32) : pS := if x < 0 then s else (solP n w h x.toNatClampNeg s).2
end RP
