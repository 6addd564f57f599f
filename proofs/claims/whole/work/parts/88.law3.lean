/-! ===== the law, from its beginning ===== -/
section LX
variable {sc : Nat × (Nat → Int32)} {d : Nat} {Q : x_O → x_H → Prop}
set_option maxHeartbeats 400000 in
set_option maxRecDepth 100000 in
theorem l_law {B C : Nat} (hB : 1200 ≤ B) (hC : 150000 ≤ C) (hsc : sc.1 ≤ 1537) (hQ : ∀ X, Q (.inl (some (.int (Int32.ofInt 1)))) X) : x_W sc m_L_law (x_run sc x_MM x_EX (d + 8)) Q 0 (x_ent m_L_law [.ref x_SP]) [] ([], B, C) := by
  obtain ⟨n, w, h, hkd⟩ := kdP_ex (if 0 < sc.1 then sc.2 0 else 0)
  have kd := hkd.k
  intro P hP
  have loop := l_loop (n := n) (w := w) (h := h) hsc hQ hP
  repeat refine hP _ _ _ _ ?_
  refine And.intro ⟨(show 1 ≤ B by omega), (show 6 ≤ C by omega), aok_B rfl⟩ ?_
  repeat refine hP _ _ _ _ ?_
  refine l_cell (by omega) ?_ oi0
  repeat refine hP _ _ _ _ ?_
  refine And.intro ⟨(show 25 ≤ B - 1 - 0 by omega), (show 5298 ≤ C - 6 - 0 by omega), lok_B rfl, sok_B rfl⟩ ?_
  refine k_init hkd (fun cs b1 hR => ?_)
  repeat refine hP _ _ _ _ ?_
  refine And.intro ⟨(show 1 ≤ B - 1 - 0 - 25 by omega), (show 23 ≤ C - 6 - 0 - 5298 by omega), (Nat.lt_of_sub_eq_succ rfl : (26 : Nat) < x_SP), ⟨Or.inr rfl, Or.inl (Nat.succ_pos _), trivial⟩, trivial, hok_B rfl⟩ ?_
  repeat refine hP _ _ _ _ ?_
  refine l_cell (by omega) ?_ oi0
  repeat refine hP _ _ _ _ ?_
  refine And.intro ⟨(show 14 ≤ B - 1 - 0 - 25 - 1 - 0 by omega), (show 134351 ≤ C - 6 - 0 - 5298 - 23 - 0 by omega), ⟨Or.inr rfl, Or.inl (Nat.succ_pos _), trivial⟩, sok_B rfl⟩ ?_
  refine m_init hkd (by exact hok_B rfl) (fun ms b2 hM => ?_)
  repeat refine hP _ _ _ _ ?_
  refine And.intro ⟨by decide, Nat.le_of_ble_eq_true rfl, (show 1 ≤ B - 1 - 0 - 25 - 1 - 0 - 14 by omega), (show 1 ≤ C - 6 - 0 - 5298 - 23 - 0 - 134351 by omega), (Nat.lt_of_sub_eq_succ rfl : (41 : Nat) < x_SP), ⟨Or.inr rfl, Or.inl (Nat.succ_pos _), Or.inl (Nat.lt_of_sub_eq_succ rfl), trivial⟩, trivial, hok_B rfl⟩ ?_
  iterate 3 refine hP _ _ _ _ ?_
  refine x_p4 (P := P) (loop 0 (by omega) cs ms (fun _ => 0) (s0 n) (B - 1 - 0 - 25 - 1 - 0 - 14 - 1, C - 6 - 0 - 5298 - 23 - 0 - 134351 - 1) hR hM (inv_s0 kd) (show 2 * (513 - 0) ≤ B - 1 - 0 - 25 - 1 - 0 - 14 - 1 by omega) (show 12 * (513 - 0) ≤ C - 6 - 0 - 5298 - 23 - 0 - 134351 - 1 by omega) none none trivial) ?_ rfl ?_ <;> try (first | rfl | (rw [nI_succ]; rfl))
end LX
