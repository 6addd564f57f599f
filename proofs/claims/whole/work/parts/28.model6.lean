/-! ===== the model: doing and undoing ===== -/
/-- row D of 81, its first k from src -/
def kpA (o src : Nat → Int32) (D k : Nat) : Nat → Int32 := fun e => if 81 * D ≤ e ∧ e < 81 * D + k then src (e - 81 * D) else o e
theorem kpA_0 (o src : Nat → Int32) (D : Nat) : kpA o src D 0 = o := by
  funext e
  have h : ¬ (81 * D ≤ e ∧ e < 81 * D + 0) := by omega
  simp only [kpA, h, if_false]
theorem kpA_st {o src : Nat → Int32} {D k j : Nat} (hj : j = 81 * D + k) : kpA o src D (k + 1) = upd (kpA o src D k) j (src k) := by
  subst hj
  funext e
  by_cases he : e = 81 * D + k
  · subst he
    rw [pk_us]
    have h : 81 * D ≤ 81 * D + k ∧ 81 * D + k < 81 * D + (k + 1) := by omega
    simp only [kpA, h, and_self, if_true]
    congr 1
    omega
  · rw [pk_un he]
    have h : (81 * D ≤ e ∧ e < 81 * D + (k + 1)) = (81 * D ≤ e ∧ e < 81 * D + k) := by apply propext; constructor <;> (intro h; omega)
    simp only [kpA, h]
/-- the first k lose what goes -/
def andA (o g : Nat → Int32) (k : Nat) : Nat → Int32 := fun c => if c < k then o c &&& (g c ^^^ (-1)) else o c
theorem andA_0 (o g : Nat → Int32) : andA o g 0 = o := by funext c; simp [andA]
theorem andA_st {o g : Nat → Int32} {k : Nat} : andA o g (k + 1) = upd (andA o g k) k (andA o g k k &&& (g k ^^^ (-1))) := by
  funext c
  by_cases hc : c = k
  · subst hc
    rw [pk_us]
    simp [andA]
  · rw [pk_un hc]
    have h : (c < k + 1) = (c < k) := by apply propext; constructor <;> omega
    simp only [andA, h]
/-- the first k are put back from row D -/
def bkA (o src : Nat → Int32) (D k : Nat) : Nat → Int32 := fun c => if c < k then src (81 * D + c) else o c
theorem bkA_0 (o src : Nat → Int32) (D : Nat) : bkA o src D 0 = o := by funext c; simp [bkA]
theorem bkA_st {o src : Nat → Int32} {D k : Nat} : bkA o src D (k + 1) = upd (bkA o src D k) k (src (81 * D + k)) := by
  funext c
  by_cases hc : c = k
  · subst hc
    rw [pk_us]
    simp [bkA]
  · rw [pk_un hc]
    have h : (c < k + 1) = (c < k) := by apply propext; constructor <;> omega
    simp only [bkA, h]
def actM1 (ms : x_S) (D k : Nat) : x_S := sA (sF (sA (sA (sA ms 35 (kpA (ms.2 35) (ms.2 27) D 81)) 36 (kpA (ms.2 36) (ms.2 28) D 81)) 37 (upd (ms.2 37) D (ms.1 8))) 16 (nI (D + 1))) 30 (upd (ms.2 30) k (ms.2 30 k + 1))
def actM2 (ms : x_S) (n w h : Nat) (r : Option (Nat × Nat)) : x_S := match r with
  | none => ms
  | some (c, s) => sA (sA ms 28 (upd (ms.2 28) c (nI s))) 27 (putA (ms.2 27) n w h c s (n * n))
def actM3 (ms : x_S) : x_S := sF (sA ms 27 (andA (ms.2 27) (ms.2 32) 81)) 8 (-1)
def actM (ms : x_S) (n w h D k : Nat) (r : Option (Nat × Nat)) : x_S := actM3 (actM2 (actM1 ms D k) n w h r)
/-- the cell that is set, and its symbol, in the model's fields -/
def setM (ms : x_S) (n : Nat) (r : Option (Nat × Nat)) : Prop := match r with
  | none => ms.1 11 = -1 ∧ ms.1 12 = -1
  | some (c, s) => ms.1 11 = nI c ∧ ms.1 12 = nI s ∧ c < n * n ∧ s < n
theorem x_rX {sc : Nat × (Nat → Int32)} {d mj : Nat} {av av' : List Value} {X X' : x_H} {Q : x_O → x_H → Prop} (h : x_run sc x_MM x_EX d mj av X Q) (ha : av = av') (e : X = X') : x_run sc x_MM x_EX d mj av' X' Q := by subst ha; subst e; exact h
section M6
variable {sc : Nat × (Nat → Int32)} {f : Nat → x_C} {ms : x_S} {tl : List x_C} {bb : Nat × Nat} {n w h d : Nat} {Q : x_O → x_H → Prop}
theorem r_act (hG : gM ms n w h) {D k : Nat} {r : Option (Nat × Nat)} (hD : ms.1 16 = nI D) (hD8 : D < 820) (hk : ms.1 8 = nI k) (hk9 : k < 19) (hr : setM ms n r) (hQ : Q (.inl none) (w_M f (actM ms n w h D k r) tl bb)) : x_run sc x_MM x_EX (d + 4) k_X8_act [.ref 26] (w_M f ms tl bb) Q := by
  obtain ⟨g1, g2, g3, g4, g5, g6, g7, g8⟩ := hG.2.2.2.le
  have hcl : ∀ j, j < 81 → (nI j).toNatClampNeg = j := fun j hj => nI_clamp (by omega)
  have hix : ∀ j, (Int8.ofInt 81).toInt32 * ms.1 16 + nI j = nI (81 * D + j) := fun j => by rw [ob81, hD, pk_mul, nI_add]
  have hcx : ∀ j, j < 81 → (nI (81 * D + j)).toNatClampNeg = 81 * D + j := fun j hj => nI_clamp (by omega)
  refine x_in (M := m_X8_act) rfl rfl (Nat.le_of_ble_eq_true rfl) ⟨rfl, trivial⟩ ?_
  intro P hP
  have loop3 : ∀ m0 : x_S, Q (.inl none) (w_M f (actM3 m0) tl bb) → ∀ j i, i + j = 81 → P 111 [some (.ref 26), some (.int (nI i))] [] (w_M f (sA m0 27 (andA (m0.2 27) (m0.2 32) i)) tl bb) := by
    intro m0 hQ0 j
    induction j with
    | zero =>
      intro i hi
      have hi : i = 81 := hi
      subst hi
      iterate 2 refine hP _ _ _ _ ?_
      refine hP _ _ _ _ (And.intro (fun _ => ?_) (fun h => absurd (show (Int8.ofInt 81).toInt32 ≤ nI 81 by decide) h))
      iterate 3 refine hP _ _ _ _ ?_
      exact hP _ _ _ _ (hQ0)
    | succ j ih =>
      intro i hi
      have hin : vp_in (nI i) 81 := vp_in_nI (by omega) (by omega)
      iterate 2 refine hP _ _ _ _ ?_
      refine hP _ _ _ _ (And.intro (fun h => absurd (show (Int8.ofInt 81).toInt32 ≤ nI i from h) (by rw [ob81]; exact nI_ge (by omega) (by omega))) (fun _ => ?_))
      iterate 6 refine hP _ _ _ _ ?_
      refine hP _ _ _ _ (And.intro hin ?_)
      iterate 3 refine hP _ _ _ _ ?_
      refine hP _ _ _ _ (And.intro hin ?_)
      iterate 3 refine hP _ _ _ _ ?_
      refine hP _ _ _ _ (And.intro hin ?_)
      refine hP _ _ _ _ ?_
      refine hP _ _ _ _ (x_p4 (P := P) (ih (i + 1) (by omega)) ?_ rfl ?_)
      · rw [nI_succ]; rfl
      · rw [andA_st, hcl i (by omega)]
        rfl
  have after : P 109 [some (.ref 26), some (.int (nI 81))] [] (w_M f (actM2 (actM1 ms D k) n w h r) tl bb) := by
    refine hP _ _ _ _ ?_
    refine hP _ _ _ _ (x_p4 (P := P) (loop3 _ hQ 81 0 rfl) rfl rfl ?_)
    rw [andA_0]
    cases r <;> rfl
  have loop1 : ∀ j i, i + j = 81 → P 2 [some (.ref 26), some (.int (nI i))] [] (w_M f (sA (sA ms 35 (kpA (ms.2 35) (ms.2 27) D i)) 36 (kpA (ms.2 36) (ms.2 28) D i)) tl bb) := by
    intro j
    induction j with
    | zero =>
      intro i hi
      have hi : i = 81 := hi
      subst hi
      iterate 2 refine hP _ _ _ _ ?_
      refine hP _ _ _ _ (And.intro (fun _ => ?_) (fun h => absurd (show (Int8.ofInt 81).toInt32 ≤ nI 81 by decide) h))
      iterate 6 refine hP _ _ _ _ ?_
      refine hP _ _ _ _ (And.intro (show vp_in (ms.1 16) 820 by rw [hD]; exact vp_in_nI hD8 (by omega)) ?_)
      iterate 6 refine hP _ _ _ _ ?_
      iterate 5 refine hP _ _ _ _ ?_
      refine hP _ _ _ _ (And.intro (show vp_in (ms.1 8) 19 by rw [hk]; exact vp_in_nI hk9 (by omega)) ?_)
      iterate 2 refine hP _ _ _ _ ?_
      refine hP _ _ _ _ (And.intro (show vp_in (ms.1 8) 19 by rw [hk]; exact vp_in_nI hk9 (by omega)) ?_)
      iterate 2 refine hP _ _ _ _ ?_
      have e8 : (ms.1 8).toNatClampNeg = k := by rw [hk]; exact nI_clamp (by omega)
      have e16 : (ms.1 16).toNatClampNeg = D := by rw [hD]; exact nI_clamp (by omega)
      have hw : ∀ b : Nat × Nat, w_M f (actM1 ms D k) tl b = ((((w_M f (sA (sA ms 35 (kpA (ms.2 35) (ms.2 27) D 81)) 36 (kpA (ms.2 36) (ms.2 28) D 81)) tl b).1.set 37 (.inl (.int, 820, .inl (upd (ms.2 37) (ms.1 16).toNatClampNeg (ms.1 8))))).set 26 (.inr (8, [.int (ms.1 0), .int (ms.1 1), .int (ms.1 2), .int (ms.1 3), .ref 27, .ref 28, .ref 29, .ref 30, .int (ms.1 8), .ref 31, .ref 32, .int (ms.1 11), .int (ms.1 12), .int (ms.1 13), .ref 33, .ref 34, .int (ms.1 16 + Int32.ofInt 1), .ref 35, .ref 36, .ref 37, .ref 38, .ref 39, .ref 40]))).set 30 (.inl (.int, 19, .inl (upd (ms.2 30) (ms.1 8).toNatClampNeg (ms.2 30 (ms.1 8).toNatClampNeg + Int32.ofInt 1)))), b) := by
        intro b
        rw [e8, e16, hD, oi1, nI_add D 1]
        rfl
      refine hP _ _ _ _ (And.intro (fun hlt => ?_) (fun hlt => ?_))
      · have hlt : ms.1 11 < 0 := hlt
        cases r with
        | some cs =>
          obtain ⟨cc, ss⟩ := cs
          exact absurd hlt (by rw [hr.1]; exact nI_pos (by have := hr.2.2.1; omega))
        | none => exact x_p4 after rfl rfl (hw bb)
      · have hlt : ¬ ms.1 11 < 0 := hlt
        cases r with
        | none => exact absurd (show ms.1 11 < 0 by rw [hr.1]; decide) hlt
        | some cs =>
          obtain ⟨cc, ss⟩ := cs
          iterate 5 refine hP _ _ _ _ ?_
          have hr1 : ms.1 11 = nI cc := hr.1
          have hr2 : ms.1 12 = nI ss := hr.2.1
          refine hP _ _ _ _ (x_rX (r_put (ms := actM1 ms D k) hG hr.2.2.1 hr.2.2.2 ?_) (by rw [← hr1, ← hr2]; rfl) (hw (0, 0)))
          exact after
    | succ j ih =>
      intro i hi
      have hin : vp_in (nI i) 81 := vp_in_nI (by omega) (by omega)
      have hin2 : vp_in ((Int8.ofInt 81).toInt32 * ms.1 16 + nI i) 66420 := by rw [hix]; exact vp_in_nI (by omega) (by omega)
      iterate 2 refine hP _ _ _ _ ?_
      refine hP _ _ _ _ (And.intro (fun h => absurd (show (Int8.ofInt 81).toInt32 ≤ nI i from h) (by rw [ob81]; exact nI_ge (by omega) (by omega))) (fun _ => ?_))
      iterate 11 refine hP _ _ _ _ ?_
      refine hP _ _ _ _ (And.intro hin ?_)
      refine hP _ _ _ _ (And.intro hin2 ?_)
      iterate 11 refine hP _ _ _ _ ?_
      refine hP _ _ _ _ (And.intro hin ?_)
      refine hP _ _ _ _ (And.intro hin2 ?_)
      refine hP _ _ _ _ ?_
      refine hP _ _ _ _ (x_p4 (P := P) (ih (i + 1) (by omega)) ?_ rfl ?_)
      · rw [nI_succ]; rfl
      · rw [kpA_st (o := ms.2 35) (src := ms.2 27) (D := D) (k := i) rfl, kpA_st (o := ms.2 36) (src := ms.2 28) (D := D) (k := i) rfl]
        have e1 : ((Int8.ofInt 81).toInt32 * ms.1 16 + nI i).toNatClampNeg = 81 * D + i := by rw [hix]; exact hcx i (by omega)
        have e2 : (nI i).toNatClampNeg = i := hcl i (by omega)
        rw [← e1]
        conv => lhs; rw [show ms.2 27 i = ms.2 27 (nI i).toNatClampNeg by rw [e2], show ms.2 28 i = ms.2 28 (nI i).toNatClampNeg by rw [e2]]
        rfl
  refine hP _ _ _ _ ?_
  refine hP _ _ _ _ (x_p4 (P := P) (loop1 81 0 rfl) rfl rfl ?_)
  rw [kpA_0, kpA_0]
  rfl
end M6
