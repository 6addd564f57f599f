/-! ===== the model: picking k of a list ===== -/
/-- the last of the first i picks that can move on -/
def nxA (p : Nat → Nat) (k m : Nat) : Nat → Option Nat
  | 0 => none
  | i + 1 => if p i = m - k + i then nxA p k m i else some i
def nxP (p : Nat → Nat) (i : Nat) : Nat → Nat := fun j => if j < i then p j else p i + 1 + (j - i)
def pkM (ms : x_S) (k m : Nat) (p l : Nat → Nat) : Prop := ms.1 13 = nI m ∧ (∀ i, i < k → ms.2 34 i = nI (p i) ∧ p i < m) ∧ ∀ j, j < m → ms.2 33 j = nI (l j) ∧ l j < 81
section PK
variable {sc : Nat × (Nat → Int32)} {f : Nat → x_C} {ms : x_S} {tl : List x_C} {bb : Nat × Nat} {n w h d : Nat} {Q : x_O → x_H → Prop}
theorem r_first {k : Nat} (hk : k ≤ 5) (hQ : ∀ g : Nat → Int32, (∀ i, i < k → g i = nI i) → Q (.inl none) (w_M f (sA ms 34 g) tl bb)) : x_run sc x_MM x_EX (d + 1) k_X8_first [.ref 26, .int (nI k)] (w_M f ms tl bb) Q := by
  refine x_in (M := m_X8_first) rfl rfl (Nat.le_of_ble_eq_true rfl) ⟨rfl, rfl, trivial⟩ ?_
  intro P hP
  have loop : ∀ i, i ≤ k → ∀ g : Nat → Int32, (∀ t, t < i → g t = nI t) → P 2 [some (.ref 26), some (.int (nI k)), some (.int (nI i))] [] (w_M f (sA ms 34 g) tl bb) := by
    refine x_lp k (fun i hi ih g hg => ?_)
    repeat refine hP _ _ _ _ ?_
    refine b_ge (i) (k) (fun hq => ?_) (fun hq => ?_) (rfl) (rfl) (by omega) (by omega)
    · repeat refine hP _ _ _ _ ?_
      exact hQ g (fun t ht => hg t (by omega))
    · repeat refine hP _ _ _ _ ?_
      refine And.intro (vp_in_nI (by omega) (by omega)) ?_
      repeat (first | (refine x_p4 (P := P) (ih hq (upd g (nI i).toNatClampNeg (nI i)) ?_) ?_ rfl ?_ <;> try (first | rfl | (rw [nI_succ]; rfl))) | refine hP _ _ _ _ ?_)
      intro t ht
      rw [upv (by omega)]
      by_cases hti : t = i
      · subst hti; rw [pk_us]
      · rw [pk_un hti]; exact hg t (by omega)
  repeat (first | (refine x_p4 (P := P) (loop 0 (by omega) (ms.2 34) (fun t ht => by omega)) ?_ rfl ?_ <;> try (first | rfl | (rw [nI_succ]; rfl))) | refine hP _ _ _ _ ?_)
theorem r_isPicked {k m x : Nat} {p l : Nat → Nat} (hk : k ≤ 5) (hm : m ≤ 81) (hx : x < 2 ^ 31) (hP : pkM ms k m p l) (hQ : Q (.inl (some (.int (bI ((List.range k).any fun i => l (p i) == x))))) (w_M f ms tl bb)) : x_run sc x_MM x_EX (d + 1) k_X8_isPicked [.ref 26, .int (nI x), .int (nI k)] (w_M f ms tl bb) Q := by
  obtain ⟨p1, p2, p3⟩ := hP
  refine x_in (M := m_X8_isPicked) rfl rfl (Nat.le_of_ble_eq_true rfl) ⟨rfl, rfl, rfl, trivial⟩ ?_
  intro P hP
  have loop : ∀ i, i ≤ k → ((List.range i).any fun i => l (p i) == x) = false → P 2 [some (.ref 26), some (.int (nI x)), some (.int (nI k)), some (.int (nI i))] [] (w_M f ms tl bb) := by
    refine x_lp k (fun i hi ih hz => ?_)
    repeat refine hP _ _ _ _ ?_
    refine b_ge (i) (k) (fun hq => ?_) (fun hq => ?_) (rfl) (rfl) (by omega) (by omega)
    · have hik : i = k := by omega
      subst hik
      rw [hz] at hQ
      repeat refine hP _ _ _ _ ?_
      exact And.intro rfl hQ
    · have h1 := p2 i hq
      have h2 := p3 (p i) h1.2
      repeat refine hP _ _ _ _ ?_
      refine And.intro (vp_in_nI (by omega) (by omega)) ?_
      rw [ldv h1.1 (by omega)]
      repeat refine hP _ _ _ _ ?_
      refine And.intro (vp_in_nI (by omega) (by omega)) ?_
      rw [ldv h2.1 (by omega)]
      repeat refine hP _ _ _ _ ?_
      refine b_ne ((l (p i))) (x) (fun hr => ?_) (fun hr => ?_) (rfl) (rfl) (by omega) (by omega)
      · repeat (first | (refine x_p4 (P := P) (ih hq (by rw [any_s, hz, beq_eq_false_iff_ne.mpr hr]; rfl)) ?_ rfl ?_ <;> try (first | rfl | (rw [nI_succ]; rfl))) | refine hP _ _ _ _ ?_)
      · have hy : ((List.range k).any fun i => l (p i) == x) = true := List.any_eq_true.mpr ⟨i, List.mem_range.mpr hq, beq_iff_eq.mpr hr⟩
        rw [hy] at hQ
        repeat refine hP _ _ _ _ ?_
        exact And.intro rfl hQ
  repeat (first | (refine x_p4 (P := P) (loop 0 (by omega) rfl) ?_ rfl ?_ <;> try (first | rfl | (rw [nI_succ]; rfl))) | refine hP _ _ _ _ ?_)
theorem r_next {k m : Nat} {p l : Nat → Nat} (hk : k ≤ 5) (hkm : k ≤ m) (hm : m ≤ 81) (hP : pkM ms k m p l) (hT : ∀ i (g : Nat → Int32), nxA p k m k = some i → (∀ j, j < k → g j = nI (nxP p i j)) → Q (.inl (some (.int (bI true)))) (w_M f (sA ms 34 g) tl bb)) (hF : nxA p k m k = none → Q (.inl (some (.int (bI false)))) (w_M f ms tl bb)) : x_run sc x_MM x_EX (d + 1) k_X8_next [.ref 26, .int (nI k)] (w_M f ms tl bb) Q := by
  obtain ⟨p1, p2, p3⟩ := hP
  refine x_in (M := m_X8_next) rfl rfl (Nat.le_of_ble_eq_true rfl) ⟨rfl, rfl, trivial⟩ ?_
  intro P hP
  have fin : ∀ i, i < k → nxA p k m k = some i → P 31 [some (.ref 26), some (.int (nI k)), some (.int (nI i)), none] [] (w_M f ms tl bb) := by
    intro i hi hn
    have hpi := p2 i hi
    have loop : ∀ j, j ≤ k → i + 1 ≤ j → ∀ g : Nat → Int32, (∀ t, t < j → g t = nI (nxP p i t)) → P 51 [some (.ref 26), some (.int (nI k)), some (.int (nI i)), some (.int (nI j))] [] (w_M f (sA ms 34 g) tl bb) := by
      refine x_lp k (fun j hj ih hij g hg => ?_)
      repeat refine hP _ _ _ _ ?_
      refine b_ge (j) (k) (fun hq => ?_) (fun hq => ?_) (rfl) (rfl) (by omega) (by omega)
      · repeat refine hP _ _ _ _ ?_
        exact And.intro rfl (hT i g hn (fun t ht => hg t (by omega)))
      · have e1 : nI j - Int32.ofInt 1 = nI (j - 1) := by rw [oi1, pk_sub (by omega)]
        repeat refine hP _ _ _ _ ?_
        rw [e1]
        refine And.intro (vp_in_nI (by omega) (by omega)) ?_
        repeat refine hP _ _ _ _ ?_
        refine And.intro (vp_in_nI (by omega) (by omega)) ?_
        repeat (first | (refine x_p4 (P := P) (ih hq (by omega) (upd g (nI j).toNatClampNeg (g (nI (j - 1)).toNatClampNeg + Int32.ofInt 1)) ?_) ?_ rfl ?_ <;> try (first | rfl | (rw [nI_succ]; rfl))) | refine hP _ _ _ _ ?_)
        intro t ht
        rw [upv (by omega), nI_clamp (by omega)]
        by_cases htj : t = j
        · subst htj
          rw [pk_us, hg (t - 1) (by omega), oi1, nI_add]
          congr 1
          unfold nxP
          split <;> split <;> omega
        · rw [pk_un htj]; exact hg t (by omega)
    repeat refine hP _ _ _ _ ?_
    refine And.intro (fun _ => ?_) (fun h => absurd (nI_pos' (by omega)) h)
    repeat refine hP _ _ _ _ ?_
    refine And.intro (vp_in_nI (by omega) (by omega)) ?_
    repeat refine hP _ _ _ _ ?_
    refine And.intro (vp_in_nI (by omega) (by omega)) ?_
    repeat (first | (refine x_p4 (P := P) (loop (i + 1) (by omega) (by omega) (upd (ms.2 34) (nI i).toNatClampNeg (ms.2 34 (nI i).toNatClampNeg + Int32.ofInt 1)) ?_) ?_ rfl ?_ <;> try (first | rfl | (rw [nI_succ]; rfl))) | refine hP _ _ _ _ ?_)
    intro t ht
    rw [upv (by omega), nI_clamp (by omega)]
    by_cases hti : t = i
    · subst hti
      rw [pk_us, hpi.1, oi1, nI_add]
      congr 1
      unfold nxP
      simp
    · rw [pk_un hti, (p2 t (by omega)).1]
      congr 1
      unfold nxP
      rw [if_pos (by omega)]
  have loop : ∀ i, i ≤ k → nxA p k m k = nxA p k m i → P 4 [some (.ref 26), some (.int (nI k)), some (.int (iM i)), none] [] (w_M f ms tl bb) := by
    intro i
    induction i with
    | zero =>
      intro _ hn
      repeat refine hP _ _ _ _ ?_
      refine b_iM 0 (by omega) rfl (fun _ => ?_) (fun h => absurd rfl h)
      repeat refine hP _ _ _ _ ?_
      refine b_iMg 0 (by omega) rfl (fun h => absurd rfl h) (fun _ => ?_)
      repeat refine hP _ _ _ _ ?_
      exact And.intro rfl (hF hn)
    | succ i ih =>
      intro hi hn
      have hpi := p2 i (by omega)
      repeat refine hP _ _ _ _ ?_
      refine b_iM (i + 1) (by omega) rfl (fun h => by omega) (fun _ => ?_)
      repeat refine hP _ _ _ _ ?_
      refine And.intro (vp_in_nI (by omega) (by omega)) ?_
      rw [show iM (i + 1) = nI i from rfl, ldv hpi.1 (by omega)]
      repeat refine hP _ _ _ _ ?_
      refine b_ne ((p i)) ((m - k + i)) (fun hq => ?_) (fun hq => ?_) (rfl) ((by show ms.1 13 - nI k + nI i = _; rw [p1, pk_sub hkm, nI_add])) (by omega) (by omega)
      · repeat (first | (refine x_p4 (P := P) (fin i (by omega) (hn.trans (by simp [nxA, hq]))) ?_ rfl ?_ <;> try (first | rfl | (rw [nI_succ]; rfl))) | refine hP _ _ _ _ ?_)
      · repeat (first | (refine x_p4 (P := P) (ih (by omega) (hn.trans (by simp [nxA, hq]))) ?_ rfl ?_) | refine hP _ _ _ _ ?_)
        · rw [← iM_s i]; rfl
        · rfl
  repeat (first | (refine x_p4 (P := P) (loop k (Nat.le_refl _) rfl) ?_ rfl ?_) | refine hP _ _ _ _ ?_)
  · rw [← iM_1 k]; rfl
  · rfl
end PK
