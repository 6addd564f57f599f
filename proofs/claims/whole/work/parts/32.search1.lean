/-! ===== the model: what a step finds, setting a cell ===== -/
/-- what is found: the cell that is set and its symbol, the candidates that go, the reason -/
abbrev rS : Type := Option (Nat × Nat) × (Nat → Nat) × (Nat → Bool)
def resM (ms : x_S) (n : Nat) (r : rS) : Prop := setM ms n r.1 ∧ oM ms r.2.1 ∧ rM ms r.2.2
/-- all but the scratch is as it was -/
def scr (ms ms' : x_S) : Prop := (∀ k, k ≠ 11 → k ≠ 12 → k ≠ 13 → ms'.1 k = ms.1 k) ∧ ∀ p, p ≠ 31 → p ≠ 32 → p ≠ 33 → p ≠ 34 → p ≠ 38 → p ≠ 39 → p ≠ 40 → ms'.2 p = ms.2 p
theorem scr.rf (ms : x_S) : scr ms ms := ⟨fun _ _ _ _ => rfl, fun _ _ _ _ _ _ _ _ => rfl⟩
theorem scr.tr {a b c : x_S} (h1 : scr a b) (h2 : scr b c) : scr a c := ⟨fun k x y z => (h2.1 k x y z).trans (h1.1 k x y z), fun p x1 x2 x3 x4 x5 x6 x7 => (h2.2 p x1 x2 x3 x4 x5 x6 x7).trans (h1.2 p x1 x2 x3 x4 x5 x6 x7)⟩
theorem scr.f {ms : x_S} {k : Nat} {v : Int32} (h : k = 11 ∨ k = 12 ∨ k = 13) : scr ms (sF ms k v) := ⟨fun j h1 h2 h3 => by show upd ms.1 k v j = _; rw [pk_un (by omega)], fun _ _ _ _ _ _ _ _ => rfl⟩
theorem scr.a {ms : x_S} {p : Nat} {g : Nat → Int32} (h : p = 31 ∨ p = 32 ∨ p = 33 ∨ p = 34 ∨ p = 38 ∨ p = 39 ∨ p = 40) : scr ms (sA ms p g) := ⟨fun _ _ _ _ => rfl, fun q h1 h2 h3 h4 h5 h6 h7 => by show (if q = p then g else ms.2 q) = _; rw [if_neg (by omega)]⟩
theorem scr.g {a b : x_S} {n w h : Nat} (s : scr a b) (hG : gM a n w h) : gM b n w h := by
  obtain ⟨h1, h2, h3, h4⟩ := hG
  exact ⟨(s.1 1 (by decide) (by decide) (by decide)).trans h1, (s.1 2 (by decide) (by decide) (by decide)).trans h2, (s.1 3 (by decide) (by decide) (by decide)).trans h3, h4⟩
theorem scr.c {a b : x_S} {n : Nat} {cb : Nat → Nat} (s : scr a b) (hC : cM a n cb) : cM b n cb := fun c hc => ⟨by rw [s.2 27 (by decide) (by decide) (by decide) (by decide) (by decide) (by decide) (by decide)]; exact (hC c hc).1, (hC c hc).2⟩
theorem scr.v {a b : x_S} {n : Nat} {vb : Nat → Option Nat} (s : scr a b) (hV : vM a n vb) : vM b n vb := fun c hc => ⟨by rw [s.2 28 (by decide) (by decide) (by decide) (by decide) (by decide) (by decide) (by decide)]; exact (hV c hc).1, (hV c hc).2⟩
/-- nothing is marked -/
def clM (ms : x_S) : Prop := ms.1 11 = -1 ∧ ms.1 12 = -1 ∧ ∀ c, c < 81 → ms.2 31 c = 0 ∧ ms.2 32 c = 0
theorem noneM_cl (ms : x_S) : clM (noneM ms) := by
  refine ⟨rfl, rfl, fun c hc => ⟨?_, ?_⟩⟩
  · show zr (ms.2 31) 81 c = 0
    simp [zr, hc]
  · show zr (ms.2 32) 81 c = 0
    simp [zr, hc]
theorem noneM_scr (ms : x_S) : scr ms (noneM ms) := (((scr.f (Or.inl rfl)).tr (scr.f (Or.inr (Or.inl rfl)))).tr (scr.a (Or.inl rfl))).tr (scr.a (Or.inr (Or.inl rfl)))
/-- the first of them, from i on, j of them -/
def ff {R : Type} (ev : Nat → Option R) : Nat → Nat → Option R
  | 0, _ => none
  | j + 1, i => match ev i with
    | some r => some r
    | none => ff ev j (i + 1)
theorem ff_s {R : Type} {ev : Nat → Option R} {j i : Nat} {r : R} (h : ev i = some r) : ff ev (j + 1) i = some r := by simp only [ff, h]
theorem ff_n {R : Type} {ev : Nat → Option R} {j i : Nat} (h : ev i = none) : ff ev (j + 1) i = ff ev j (i + 1) := by simp only [ff, h]
/-- the lowest bit -/
def lowA (b : Nat) : Nat → Nat → Nat
  | 0, k => k
  | j + 1, k => if b.testBit k then k else lowA b j (k + 1)
def lowN (b : Nat) : Nat := lowA b 9 0
theorem lowN_ok : ∀ b, b < 512 → b ≠ 0 → lowN b < 9 ∧ b.testBit (lowN b) = true ∧ ∀ t, t < lowN b → b.testBit t = false := by decide +kernel
theorem pcN_0 : pcN 0 = 0 := by decide
theorem tb_lt {b s n : Nat} (h : b.testBit s = true) (hb : b < 2 ^ n) : s < n := by
  rcases Nat.lt_or_ge s n with h1 | h1
  · exact h1
  · have h2 : b < 2 ^ s := Nat.lt_of_lt_of_le hb (Nat.pow_le_pow_right (by omega) h1)
    rw [Nat.testBit_lt_two_pow h2] at h
    cases h
/-- what goes when c is set to s; of the cells that c sees, the first k -/
def setGk (cb : Nat → Nat) (n w h c s k : Nat) : Nat → Nat := fun e => if e = c then clr (cb c) (2 ^ s) else if e < k ∧ seeN n w h c e = true then cb e &&& 2 ^ s else 0
def setG (cb : Nat → Nat) (n w h c s : Nat) : Nat → Nat := setGk cb n w h c s (n * n)
theorem clr_le (a m : Nat) : clr a m ≤ a := by
  have h : clr a m = clr a m &&& a := by
    apply Nat.eq_of_testBit_eq
    intro i
    rw [Nat.testBit_and, clr_bit]
    cases a.testBit i <;> cases m.testBit i <;> rfl
  rw [h]
  exact Nat.and_le_right
theorem setGk_lt {cb : Nat → Nat} {n w h c s k e : Nat} (hc : cb c < 512) (he : cb e < 512) : setGk cb n w h c s k e < 512 := by
  unfold setGk
  split
  · exact Nat.lt_of_le_of_lt (clr_le _ _) hc
  · split
    · exact Nat.lt_of_le_of_lt Nat.and_le_left he
    · decide
section S1
variable {sc : Nat × (Nat → Int32)} {f : Nat → x_C} {ms : x_S} {tl : List x_C} {bb : Nat × Nat} {n w h d : Nat} {Q : x_O → x_H → Prop} {cb : Nat → Nat} {vb : Nat → Option Nat}
theorem r_sets (hG : gM ms n w h) (hC : cM ms n cb) {c s : Nat} (hc : c < n * n) (hs : s < n) (hz : ∀ e, e < 81 → ms.2 32 e = 0) (hQ : ∀ g : Nat → Int32, (∀ e, e < 81 → g e = nI (setG cb n w h c s e)) → Q (.inl (some (.int (bI true)))) (w_M f (sA (sF (sF ms 11 (nI c)) 12 (nI s)) 32 g) tl bb)) : x_run sc x_MM x_EX (d + 3) k_X8_sets [.ref 26, .int (nI c), .int (nI s)] (w_M f ms tl bb) Q := by
  obtain ⟨g1, g2, g3, g4, g5, g6, g7, g8⟩ := hG.2.2.2.le
  have hG' : ∀ g, gM (sA (sF (sF ms 11 (nI c)) 12 (nI s)) 32 g) n w h := fun _ => hG
  have hsh : Int32.ofInt 1 <<< (nI s &&& 31) = nI (2 ^ s) := by
    rw [oi1, nI_shl (by omega), Nat.one_mul]
    have : 2 ^ s ≤ 2 ^ 9 := Nat.pow_le_pow_right (by omega) (by omega)
    omega
  have hcc : seeN n w h c c = false := by unfold seeN; simp
  refine x_in (M := m_X8_sets) rfl rfl (Nat.le_of_ble_eq_true rfl) ⟨rfl, rfl, rfl, trivial⟩ ?_
  intro P hP
  have loop : ∀ j k g, k + j = n * n → (∀ e, e < 81 → g e = nI (setGk cb n w h c s k e)) → P 22 [some (.ref 26), some (.int (nI c)), some (.int (nI s)), some (.int (nI k))] [] (w_M f (sA (sF (sF ms 11 (nI c)) 12 (nI s)) 32 g) tl bb) := by
    intro j
    induction j with
    | zero =>
      intro k g hk hg
      have hk : k = n * n := hk
      subst hk
      iterate 2 refine hP _ _ _ _ ?_
      refine hP _ _ _ _ (r_cells (hG' g) ?_)
      refine hP _ _ _ _ (And.intro (fun _ => ?_) (fun h => absurd (nI_le (Nat.le_refl _) (by omega)) h))
      refine hP _ _ _ _ ?_
      exact hP _ _ _ _ (And.intro rfl (hQ g hg))
    | succ j ih =>
      intro k g hk hg
      iterate 2 refine hP _ _ _ _ ?_
      refine hP _ _ _ _ (r_cells (hG' g) ?_)
      refine hP _ _ _ _ (And.intro (fun h => absurd (show nI (n * n) ≤ nI k from h) (nI_ge (by omega) (by omega))) (fun _ => ?_))
      iterate 3 refine hP _ _ _ _ ?_
      refine hP _ _ _ _ (r_sees (hG' g) hc (by omega) ?_)
      refine hP _ _ _ _ (And.intro (fun hq => ?_) (fun hq => ?_))
      · have hq : seeN n w h c k = false := bI_t.mp hq
        refine hP _ _ _ _ ?_
        refine hP _ _ _ _ (x_p4 (P := P) (ih (k + 1) g (by omega) ?_) ?_ rfl rfl)
        · intro e he
          rw [hg e he]
          congr 1
          unfold setGk
          by_cases hek : e = k
          · subst hek
            simp [hq]
          · have h1 : (e < k + 1) = (e < k) := by apply propext; constructor <;> omega
            simp only [h1]
        · rw [nI_succ]; rfl
      · have hq : seeN n w h c k = true := bI_n0 hq
        have hkc : k ≠ c := by intro hz; rw [hz, hcc] at hq; cases hq
        iterate 5 refine hP _ _ _ _ ?_
        refine hP _ _ _ _ (r_leaves (ms := sA (sF (sF ms 11 (nI c)) 12 (nI s)) 32 g) (by omega) ?_)
        refine hP _ _ _ _ ?_
        refine hP _ _ _ _ (x_p4 (P := P) (ih (k + 1) (upd g k (g k ||| (ms.2 27 k &&& (Int32.ofInt 1 <<< (nI s &&& 31))))) (by omega) ?_) ?_ rfl rfl)
        · intro e he
          by_cases hek : e = k
          · subst hek
            rw [pk_us, hg e he, (hC e (by omega)).1, hsh, nx_and, nx_or]
            congr 1
            have h1 : setGk cb n w h c s e e = 0 := by unfold setGk; simp [hkc]
            have h2 : setGk cb n w h c s (e + 1) e = cb e &&& 2 ^ s := by unfold setGk; simp [hkc, hq]
            rw [h1, h2, Nat.zero_or]
          · rw [pk_un hek, hg e he]
            congr 1
            unfold setGk
            have h1 : (e < k + 1) = (e < k) := by apply propext; constructor <;> omega
            simp only [h1]
        · rw [nI_succ]; rfl
  iterate 13 refine hP _ _ _ _ ?_
  refine hP _ _ _ _ (r_leaves (ms := sF (sF ms 11 (nI c)) 12 (nI s)) (by omega) ?_)
  refine hP _ _ _ _ ?_
  refine hP _ _ _ _ (loop (n * n) 0 (upd (ms.2 32) c (ms.2 32 c ||| (ms.2 27 c &&& (Int32.ofInt 1 <<< (nI s &&& 31) ^^^ Int32.ofInt (-1))))) (by omega) ?_)
  intro e he
  by_cases hec : e = c
  · subst hec
    rw [pk_us, hz e he, (hC e hc).1, hsh, show Int32.ofInt (-1) = -1 from oim, nx_not, z0, nx_or, Nat.zero_or]
    congr 1
    unfold setGk
    simp
  · rw [pk_un hec, hz e he, z0]
    congr 1
    unfold setGk
    simp [hec]
end S1
