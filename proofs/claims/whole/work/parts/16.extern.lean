/-! ===== what words() answers: told from outside (strings), over letterOfCell ===== -/
def x_str (s : String) : List Nat := s.toList.map fun c => c.toNat
/-- the steps' names, by language and number -/
def x_nm (g : Nat) : List (List Nat) := if g = 0 then ["last", "in box", "in row", "in column", "pointing", "claiming", "pair", "triple", "quad", "hidden pair", "hidden triple", "two rows", "two columns", "three rows", "three columns", "wing", "great wing", "colours", "only one answer"].map x_str
  else ["letzte", "im Block", "in der Zeile", "in der Spalte", "zeigend", "fordernd", "Paar", "Tripel", "Quartett", "verstecktes Paar", "verstecktes Tripel", "zwei Zeilen", "zwei Spalten", "drei Zeilen", "drei Spalten", "Schwinge", "grosse Schwinge", "Farben", "nur eine Antwort"].map x_str
/-- words(g, i) over the finding at place 9 and its reason at place 11 -/
def x_words (C : x_TC) (lg i : Int32) (X : x_H) (Q : x_O → x_H → Prop) : Prop := ∃ (a1 a2 a4 a5 a6 : Value) (step b4 b5 b6 reasons : Int32) (rn : Nat) (rf : Nat → Int32), X.1[0]? = some (.inr (7, [a1, a2, .ref 9, a4, a5, a6])) ∧ X.1[9]? = some (.inr (2, [.ref 10, .ref 11, .int step, .int b4, .int b5, .int b6, .int reasons])) ∧ X.1[11]? = some (.inl (.int, rn, .inl rf)) ∧
  ((step = -1 ∨ lg < 0 ∨ 1 < lg ∨ i < 0) → Q (.inl (some (.int (-1)))) X) ∧
  (¬ (step = -1 ∨ lg < 0 ∨ 1 < lg ∨ i < 0) → vp_in step 19 ∧ ∀ t : List Nat, (x_nm lg.toNatClampNeg)[step.toNatClampNeg]? = some t →
    (i < nI t.length → ∀ ch : Nat, t[i.toNatClampNeg]? = some ch → Q (.inl (some (.int (nI ch)))) X) ∧
    (¬ i < nI t.length → (reasons ≤ (i - nI t.length) / 5 → Q (.inl (some (.int (-1)))) X) ∧
      (¬ reasons ≤ (i - nI t.length) / 5 → vp_in ((i - nI t.length) / 5) rn ∧ C k_X7_letterOfCell [.ref 0, .int (rf ((i - nI t.length) / 5).toNatClampNeg), .int (i - nI t.length - (i - nI t.length) / 5 * 5)] X fun o Y => match o with
        | .inl (some (.int x)) => Q (.inl (some (.int x))) (Y.1, X.2)
        | _ => False)))
def x_EX (C : x_TC) : x_TC := fun mj av X Q => mj = k_X7_words ∧ X.2 = (0, 0) ∧ ∃ lg i : Int32, av = [.ref 0, .int lg, .int i] ∧ x_words C lg i X Q
theorem x_EX_mono (C : x_TC) (hC : x_Cm C) : x_Cm (x_EX C) := by
  intro mj av X Q Q' hQ h
  obtain ⟨h0, hz, lg, i, h1, a1, a2, a4, a5, a6, step, b4, b5, b6, reasons, rn, rf, g1, g2, g3, g4, g5⟩ := h
  refine ⟨h0, hz, lg, i, h1, a1, a2, a4, a5, a6, step, b4, b5, b6, reasons, rn, rf, g1, g2, g3, fun c => hQ _ _ (g4 c), fun c => ?_⟩
  obtain ⟨k1, k2⟩ := g5 c
  refine ⟨k1, fun t ht => ⟨fun c2 ch hc => hQ _ _ ((k2 t ht).1 c2 ch hc), fun c2 => ?_⟩⟩
  obtain ⟨k3, k4⟩ := (k2 t ht).2 c2
  refine ⟨fun c3 => hQ _ _ (k3 c3), fun c3 => ⟨(k4 c3).1, hC _ _ _ _ _ (fun o Y h => ?_) (k4 c3).2⟩⟩
  split at h
  · exact hQ _ _ h
  · exact h.elim
theorem x_hC (sc : Nat × (Nat → Int32)) (d : Nat) : x_Cm (x_run sc x_MM x_EX d) := x_run_mono sc x_MM x_EX_mono d
/-- a method's walk begins -/
theorem x_in {sc : Nat × (Nat → Int32)} {d mj : Nat} {M : x_M} {i0 : x_I} {av : List Value} {X : x_H} {Q : x_O → x_H → Prop} (hM : x_MM mj = some M) (ht : M.tab 0 = some i0) (h1 : av.length ≤ M.maxl) (h2 : x_c1 av) (h : x_W sc M (x_run sc x_MM x_EX d) Q 0 (x_ent M av) [] X) : x_run sc x_MM x_EX (d + 1) mj av X Q := by
  unfold x_run; rw [hM]; dsimp only; rw [ht]; exact ⟨h1, h2, h⟩
theorem x_p4 {P : Nat → x_L → List Value → x_H → Prop} {pc : Nat} {L L' : x_L} {st st' : List Value} {X X' : x_H} (h : P pc L st X) (hL : L = L') (hs : st = st') (hX : X = X') : P pc L' st' X' := by subst hL; subst hs; subst hX; exact h
theorem x_q1 {Q : x_O → x_H → Prop} {X : x_H} {x y : Int32} (h : Q (.inl (some (.int x))) X) (e : x = y) : Q (.inl (some (.int y))) X := by subst e; exact h
