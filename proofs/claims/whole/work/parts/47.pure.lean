/-! ===== the pure game ===== -/
/-- candidates, values, switched off, times, what is found, what was done (newest first: candidates and values before it, its number, what it found) -/
abbrev pS : Type := (Nat → Nat) × (Nat → Option Nat) × (Nat → Bool) × (Nat → Int32) × Option (Nat × rS) × List ((Nat → Nat) × (Nat → Option Nat) × Nat × rS)
abbrev pS.cb (s : pS) : Nat → Nat := s.1
abbrev pS.vb (s : pS) : Nat → Option Nat := s.2.1
abbrev pS.off (s : pS) : Nat → Bool := s.2.2.1
abbrev pS.dn (s : pS) : Nat → Int32 := s.2.2.2.1
abbrev pS.fd (s : pS) : Option (Nat × rS) := s.2.2.2.2.1
abbrev pS.hs (s : pS) : List ((Nat → Nat) × (Nat → Option Nat) × Nat × rS) := s.2.2.2.2.2
def updO (g : Nat → Option Nat) (k : Nat) (v : Option Nat) : Nat → Option Nat := fun c => if c = k then v else g c
def updN (g : Nat → Nat) (k v : Nat) : Nat → Nat := fun c => if c = k then v else g c
/-- what is left when go goes -/
def leftN (cb go : Nat → Nat) : Nat → Nat := fun e => clr (cb e) (go e)
def setV (vb : Nat → Option Nat) (r : Option (Nat × Nat)) : Nat → Option Nat := match r with
  | none => vb
  | some (c, s) => updO vb c (some s)
def noF (s : pS) : pS := (s.cb, s.vb, s.off, s.dn, none, s.hs)
def actP (s : pS) (k : Nat) (r : rS) : pS := (leftN s.cb r.2.1, setV s.vb r.1, s.off, upd s.dn k (s.dn k + 1), none, (s.cb, s.vb, k, r) :: s.hs)
noncomputable def fdP (n w h : Nat) (s : pS) : Option (Nat × rS) := @ite _ (brk s.cb n w h) (Classical.propDecidable _) none (seaS s.off s.cb s.vb n w h)
noncomputable def frI (n w h : Nat) (s : pS) : Int32 := @ite _ (brk s.cb n w h) (Classical.propDecidable _) (-2) (match seaS s.off s.cb s.vb n w h with
  | some (k, _) => nI k
  | none => -1)
noncomputable def findP (n w h : Nat) (s : pS) : pS := (s.cb, s.vb, s.off, s.dn, fdP n w h s, s.hs)
noncomputable def solP (n w h : Nat) : Nat → pS → Nat × pS
  | 0, s => (0, noF s)
  | m + 1, s => match fdP n w h s with
    | none => (0, noF s)
    | some (k, r) => ((solP n w h m (actP s k r)).1 + 1, (solP n w h m (actP s k r)).2)
def undoP (s : pS) : pS := match s.hs with
  | [] => s
  | (cb, vb, k, _) :: t => (cb, vb, s.off, upd s.dn k (s.dn k - 1), none, t)
def undoI (s : pS) : Int32 := match s.hs with
  | [] => -1
  | (_, _, k, _) :: _ => nI k
/-- a cell set by hand -/
def putP (n w h : Nat) (s : pS) (c y : Nat) : pS := (leftN s.cb (setG s.cb n w h c y), updO s.vb c (some y), s.off, s.dn, none, [])
def takeP (s : pS) (c y : Nat) : pS := (updN s.cb c (clr (s.cb c) (2 ^ y)), s.vb, s.off, s.dn, none, [])
def enP (s : pS) (k : Nat) (b : Bool) : pS := (s.cb, s.vb, updB s.off k (!b), s.dn, none, s.hs)
/-- the reason, by rising numbers -/
def rsL (rs : Nat → Bool) : Nat → List Nat
  | 0 => []
  | c + 1 => rsL rs c ++ (if rs c then [c] else [])
/-- what goes, by rising numbers -/
def glS (go : Nat → Nat) (n c : Nat) : Nat → List Nat
  | 0 => []
  | s + 1 => glS go n c s ++ (if (go c).testBit s then [n * c + s] else [])
def glC (go : Nat → Nat) (n : Nat) : Nat → List Nat
  | 0 => []
  | c + 1 => glC go n c ++ glS go n c n
/-- the x-th of a list, or -1 -/
def nthI (L : List Nat) (x : Int32) : Int32 := if okB x L.length then nI (L.getD x.toNatClampNeg 0) else -1
def reasonL (s : pS) : List Nat := match s.fd with
  | none => []
  | some (_, r) => rsL r.2.2 81
def goesL (n : Nat) (s : pS) : List Nat := match s.fd with
  | none => []
  | some (_, r) => glC r.2.1 n (n * n)
def foundI (s : pS) (x : Int32) : Int32 := match s.fd with
  | none => -1
  | some (k, r) => if x = 0 then nI k else if x = 1 then nI (rcN r.2.2 81) else if x = 2 then nI (gcN r.2.1 81) else if x = 3 then vI (r.1.map Prod.fst) else if x = 4 then vI (r.1.map Prod.snd) else -1
def openN (vb : Nat → Option Nat) : Nat → Nat
  | 0 => 0
  | c + 1 => openN vb c + (if vb c = none then 1 else 0)
def canN (cb : Nat → Nat) (vb : Nat → Option Nat) : Nat → Nat
  | 0 => 0
  | c + 1 => canN cb vb c + (if vb c = none then pcN (cb c) else 0)
def dnI (dn : Nat → Int32) : Nat → Int32
  | 0 => 0
  | k + 1 => dnI dn k + dn k
noncomputable def stateI (n w h : Nat) (s : pS) (x : Int32) : Int32 := if x = 0 then nI (openN s.vb (n * n)) else if x = 1 then nI (canN s.cb s.vb (n * n)) else if x = 2 then @ite _ (brk s.cb n w h) (Classical.propDecidable _) 1 0 else if x = 3 then nI n else if x = 4 then dnI s.dn 19 else -1
theorem rsL_len (rs : Nat → Bool) : ∀ k, (rsL rs k).length = rcN rs k
  | 0 => rfl
  | k + 1 => by
    unfold rsL rcN
    rw [List.length_append, rsL_len rs k]
    split <;> rfl
theorem rsL_pre (rs : Nat → Bool) {a : Nat} : ∀ {b}, a ≤ b → ∃ t, rsL rs b = rsL rs a ++ t
  | 0, h => ⟨[], by rw [show a = 0 by omega]; rfl⟩
  | b + 1, h => by
    by_cases hab : a = b + 1
    · subst hab; exact ⟨[], by rw [List.append_nil]⟩
    · obtain ⟨t, ht⟩ := rsL_pre rs (show a ≤ b by omega)
      exact ⟨t ++ (if rs b then [b] else []), by show rsL rs b ++ _ = _; rw [ht, List.append_assoc]⟩
theorem glS_pre (go : Nat → Nat) (n c : Nat) {a : Nat} : ∀ {b}, a ≤ b → ∃ t, glS go n c b = glS go n c a ++ t
  | 0, h => ⟨[], by rw [show a = 0 by omega]; rfl⟩
  | b + 1, h => by
    by_cases hab : a = b + 1
    · subst hab; exact ⟨[], by rw [List.append_nil]⟩
    · obtain ⟨t, ht⟩ := glS_pre go n c (show a ≤ b by omega)
      exact ⟨t ++ (if (go c).testBit b then [n * c + b] else []), by show glS go n c b ++ _ = _; rw [ht, List.append_assoc]⟩
theorem glC_pre (go : Nat → Nat) (n : Nat) {a : Nat} : ∀ {b}, a ≤ b → ∃ t, glC go n b = glC go n a ++ t
  | 0, h => ⟨[], by rw [show a = 0 by omega]; rfl⟩
  | b + 1, h => by
    by_cases hab : a = b + 1
    · subst hab; exact ⟨[], by rw [List.append_nil]⟩
    · obtain ⟨t, ht⟩ := glC_pre go n (show a ≤ b by omega)
      exact ⟨t ++ glS go n b n, by show glC go n b ++ _ = _; rw [ht, List.append_assoc]⟩
theorem nthI_at {L : List Nat} {j y : Nat} (h : L[j]? = some y) (hj : L.length < 2 ^ 31) : nthI L (nI j) = nI y := by
  have h1 := (List.getElem?_eq_some_iff.mp h).1
  unfold nthI
  rw [show okB (nI j) L.length = true from decide_eq_true (by rw [nI_toInt (by omega)]; omega), nI_clamp (by omega)]
  simp [List.getD, h]
theorem nthI_no {L : List Nat} {x : Int32} (hj : L.length < 2 ^ 31) (h : ∀ j, j < L.length → x ≠ nI j) : nthI L x = -1 := by
  unfold nthI
  cases hb : okB x L.length with
  | false => rfl
  | true =>
    obtain ⟨k, hk, e⟩ := okB_t hb hj
    exact absurd e (h k hk)
theorem rsL_at {rs : Nat → Bool} {c N : Nat} (hc : c < N) (h : rs c = true) : (rsL rs N)[rcN rs c]? = some c := by
  obtain ⟨t, ht⟩ := rsL_pre rs (show c + 1 ≤ N from hc)
  rw [ht]
  show (rsL rs c ++ (if rs c then [c] else []) ++ t)[rcN rs c]? = some c
  rw [h, if_pos rfl, List.append_assoc, ← rsL_len rs c, List.getElem?_append_right (Nat.le_refl _)]
  simp
theorem rsL_idx {rs : Nat → Bool} {j y : Nat} : ∀ {N : Nat}, (rsL rs N)[j]? = some y → y < N ∧ rs y = true ∧ rcN rs y = j
  | 0, h => by cases h
  | N + 1, h => by
    have h : (rsL rs N ++ (if rs N then [N] else []))[j]? = some y := h
    by_cases hj : j < (rsL rs N).length
    · rw [List.getElem?_append_left hj] at h
      obtain ⟨h1, h2, h3⟩ := rsL_idx h
      exact ⟨by omega, h2, h3⟩
    · rw [List.getElem?_append_right (by omega)] at h
      by_cases hr : rs N = true
      · rw [if_pos hr] at h
        have h0 : j - (rsL rs N).length = 0 := by
          have := (List.getElem?_eq_some_iff.mp h).1
          simpa using this
        rw [h0] at h
        cases h
        rw [rsL_len] at h0 hj
        exact ⟨by omega, hr, by omega⟩
      · rw [if_neg hr] at h; cases h
theorem glS_len (go : Nat → Nat) (n c : Nat) : ∀ k, (glS go n c k).length = pcA (go c) k
  | 0 => rfl
  | k + 1 => by
    unfold glS pcA tbN
    rw [List.length_append, glS_len go n c k]
    split <;> rfl
theorem glC_len (go : Nat → Nat) (n : Nat) : ∀ k, (glC go n k).length = gbN go n k
  | 0 => rfl
  | k + 1 => by
    unfold glC gbN
    rw [List.length_append, glC_len go n k, glS_len]
theorem gbN_le (go : Nat → Nat) (n : Nat) : ∀ k, gbN go n k ≤ n * k
  | 0 => Nat.le_refl _
  | k + 1 => by
    have h := gbN_le go n k
    have h2 := pcA_le (go k) n
    unfold gbN
    rw [Nat.mul_succ]
    omega
section GO
variable {sc : Nat × (Nat → Int32)} {f : Nat → x_C} {ms : x_S} {tl : List x_C} {bb : Nat × Nat} {n w h d : Nat} {Q : x_O → x_H → Prop} {cb : Nat → Nat} {vb : Nat → Option Nat} {go : Nat → Nat}
theorem r_goes (hG : gM ms n w h) {x : Int32} (hS : ms.1 8 = -1 ∨ ∃ k, k < 19 ∧ ms.1 8 = nI k) (hO : ms.1 8 ≠ -1 → oM ms go) (hN : ms.1 8 = -1 → Q (.inl (some (.int (-1)))) (w_M f (sF ms 0 0) tl bb)) (hT : ms.1 8 ≠ -1 → Q (.inl (some (.int (nthI (glC go n (n * n)) x)))) (w_M f (sF ms 0 0) tl bb)) : x_run sc x_MM x_EX (d + 2) k_X8_goes [.ref 26, .int x] (w_M f ms tl bb) Q := by
  obtain ⟨g1, g2, g3, g4, g5, g6, g7, g8⟩ := hG.2.2.2.le
  have hG5 : gM (sF ms 0 0) n w h := hG
  have hle : (glC go n (n * n)).length ≤ 9 * 81 := by
    rw [glC_len]
    exact Nat.le_trans (gbN_le go n (n * n)) (Nat.mul_le_mul g2 g7)
  refine x_in (M := m_X8_goes) rfl rfl (Nat.le_of_ble_eq_true rfl) ⟨rfl, rfl, trivial⟩ ?_
  intro P hP
  rcases hS with hS | ⟨k, hk, hS⟩
  · repeat refine hP _ _ _ _ ?_
    refine r_cells hG5 ?_
    repeat refine hP _ _ _ _ ?_
    refine b_ge 0 (n * n) (fun h0 => ?_) (fun _ => ?_) rfl rfl (by omega) (by omega)
    · have := Nat.mul_le_mul g1 g1
      omega
    · repeat refine hP _ _ _ _ ?_
      refine And.intro (fun _ => ?_) (fun h9 => absurd (show ms.1 8 < 0 by rw [hS]; decide) h9)
      repeat refine hP _ _ _ _ ?_
      exact hN hS
  · have hne : ms.1 8 ≠ -1 := by
      rw [hS]
      intro e
      have := nI_pos (n := k) (by omega)
      rw [e] at this
      exact this (by decide)
    have hO := hO hne
    have hT := hT hne
    have loop : ∀ c, c ≤ n * n → (∀ j, j < (glC go n c).length → x ≠ nI j) → ∀ x4 : Option Value, P 9 [some (.ref 26), some (.int x), some (.int (nI (glC go n c).length)), some (.int (nI c)), x4] [] (w_M f (sF ms 0 0) tl bb) := by
      refine x_lp (n * n) (fun c hc ih hz x4 => ?_)
      repeat refine hP _ _ _ _ ?_
      refine r_cells hG5 ?_
      repeat refine hP _ _ _ _ ?_
      refine b_ge (c) ((n*n)) (fun hc9 => ?_) (fun hc9 => ?_) (rfl) (rfl) (by omega) (by omega)
      · have e9 : c = n * n := by omega
        subst e9
        rw [nthI_no (by omega) hz] at hT
        repeat refine hP _ _ _ _ ?_
        exact hT
      · have ih := ih hc9
        have hoc := hO c (by omega)
        repeat refine hP _ _ _ _ ?_
        refine And.intro (fun h9 => absurd (show ms.1 8 < 0 from h9) (by rw [hS]; exact nI_pos (by omega))) (fun _ => ?_)
        have lps : ∀ s, s ≤ n → (∀ j, j < (glC go n c ++ glS go n c s).length → x ≠ nI j) → P 27 [some (.ref 26), some (.int x), some (.int (nI (glC go n c ++ glS go n c s).length)), some (.int (nI c)), some (.int (nI s))] [] (w_M f (sF ms 0 0) tl bb) := by
          refine x_lp n (fun s hs ihs hzs => ?_)
          repeat refine hP _ _ _ _ ?_
          refine b_ge (s) (n) (fun hs9 => ?_) (fun hs9 => ?_) (rfl) (hG.1) (by omega) (by omega)
          · have e9 : s = n := by omega
            subst e9
            iterate 2 refine hP _ _ _ _ ?_
            refine x_p4 (P := P) (ih hzs (some (.int (nI s)))) ?_ rfl ?_ <;> try (first | rfl | (rw [nI_succ]; rfl))
          · have ihs := ihs hs9
            rw [show glS go n c (s + 1) = glS go n c s ++ (if (go c).testBit s then [n * c + s] else []) from rfl] at ihs
            repeat refine hP _ _ _ _ ?_
            refine And.intro (vp_in_nI (by omega) (by omega)) ?_
            rw [ldv (f := (sF ms 0 0).2 32) hoc.1 (by omega)]
            repeat refine hP _ _ _ _ ?_
            refine b_ifne (fun hb => ?_) (fun hb => ?_) (bit1 hoc.2 (by omega))
            · rw [hb, if_pos rfl, ← List.append_assoc, List.length_append (bs := [n * c + s])] at ihs
              have hle2 : (glC go n c ++ glS go n c s).length < (glC go n (n * n)).length := by
                obtain ⟨t1, e1⟩ := glC_pre go n (show c + 1 ≤ n * n from hc9)
                obtain ⟨t2, e2⟩ := glS_pre go n c (show s + 1 ≤ n from hs9)
                rw [e1, show glC go n (c + 1) = glC go n c ++ glS go n c n from rfl, e2, show glS go n c (s + 1) = glS go n c s ++ (if (go c).testBit s then [n * c + s] else []) from rfl, hb, if_pos rfl]
                simp only [List.length_append, List.length_cons, List.length_nil]
                omega
              repeat refine hP _ _ _ _ ?_
              refine And.intro (fun h9 => ?_) (fun h9 => ?_)
              · have h9 : ¬ nI (glC go n c ++ glS go n c s).length = x := h9
                iterate 3 refine hP _ _ _ _ ?_
                refine x_p4 (P := P) (ihs (fun j hj => ?_)) ?_ rfl ?_
                · have hj : j < (glC go n c ++ glS go n c s).length + 1 := hj
                  by_cases hjl : j = (glC go n c ++ glS go n c s).length
                  · rw [hjl]; exact fun e => h9 e.symm
                  · exact hzs j (by omega)
                · rw [show ((glC go n c ++ glS go n c s).length + [n * c + s].length) = (glC go n c ++ glS go n c s).length + 1 from rfl, nI_succ, nI_succ]; rfl
                · rfl
              · have h9 : nI (glC go n c ++ glS go n c s).length = x := Decidable.of_not_not h9
                have hat : (glC go n (n * n))[(glC go n c ++ glS go n c s).length]? = some (n * c + s) := by
                  obtain ⟨t1, e1⟩ := glC_pre go n (show c + 1 ≤ n * n from hc9)
                  obtain ⟨t2, e2⟩ := glS_pre go n c (show s + 1 ≤ n from hs9)
                  rw [e1, show glC go n (c + 1) = glC go n c ++ glS go n c n from rfl, e2, show glS go n c (s + 1) = glS go n c s ++ (if (go c).testBit s then [n * c + s] else []) from rfl, hb, if_pos rfl]
                  rw [show glC go n c ++ (glS go n c s ++ [n * c + s] ++ t2) ++ t1 = (glC go n c ++ glS go n c s) ++ ([n * c + s] ++ t2 ++ t1) by simp only [List.append_assoc], List.getElem?_append_right (Nat.le_refl _)]
                  simp
                rw [← h9, nthI_at hat (by omega)] at hT
                repeat refine hP _ _ _ _ ?_
                refine x_q1 hT ?_
                show nI (n * c + s) = ms.1 1 * nI c + nI s
                rw [hG.1, pk_mul, nI_add]
            · rw [hb, if_neg (by decide), List.append_nil] at ihs
              iterate 3 refine hP _ _ _ _ ?_
              refine x_p4 (P := P) (ihs hzs) ?_ rfl ?_ <;> try (first | rfl | (rw [nI_succ]; rfl))
        iterate 2 refine hP _ _ _ _ ?_
        refine x_p4 (P := P) (lps 0 (by omega) ?_) ?_ rfl ?_
        · exact fun j hj => hz j (by simpa [glS] using hj)
        · rw [show (glC go n c ++ glS go n c 0) = glC go n c from List.append_nil _]; rfl
        · rfl
    iterate 7 refine hP _ _ _ _ ?_
    refine x_p4 (P := P) (loop 0 (by omega) (fun j hj => absurd hj (Nat.not_lt_zero j)) none) ?_ rfl ?_ <;> try (first | rfl | (rw [nI_succ]; rfl))
end GO
