/-! ===== the model: small writes, taking, broken grids ===== -/
def sF (ms : x_S) (k : Nat) (v : Int32) : x_S := (upd ms.1 k v, ms.2)
def sA (ms : x_S) (p : Nat) (g : Nat → Int32) : x_S := (ms.1, fun q => if q = p then g else ms.2 q)
theorem x_q2 {Q : x_O → x_H → Prop} {o : x_O} {X X' : x_H} (h : Q o X) (e : X = X') : Q o X' := by subst e; exact h
/-- the first k places are 0 -/
def zr (o : Nat → Int32) (k : Nat) : Nat → Int32 := fun c => if c < k then 0 else o c
theorem zr_0 (o : Nat → Int32) : zr o 0 = o := by funext c; simp [zr]
theorem zr_st {o : Nat → Int32} {k : Nat} {v : Int32} (hk : k < 2 ^ 31) (hv : v = 0) : zr o (k + 1) = upd (zr o k) (nI k).toNatClampNeg v := by
  rw [nI_clamp hk, hv]
  funext c
  by_cases hc : c = k
  · subst hc
    rw [pk_us]
    simp [zr]
  · rw [pk_un hc]
    by_cases h2 : c < k
    · simp [zr, h2, Nat.lt_succ_of_lt h2]
    · have h3 : ¬ c < k + 1 := by omega
      simp [zr, h2, h3]
theorem ob81 : (Int8.ofInt 81).toInt32 = nI 81 := by decide
theorem ob19 : (Int8.ofInt 19).toInt32 = nI 19 := by decide
section M4
variable {sc : Nat × (Nat → Int32)} {f : Nat → x_C} {ms : x_S} {tl : List x_C} {bb : Nat × Nat} {n w h d : Nat} {Q : x_O → x_H → Prop} {cb : Nat → Nat}
theorem r_thrown (hQ : Q (.inl (some (.int (ms.1 0)))) (w_M f ms tl bb)) : x_run sc x_MM x_EX (d + 1) k_X8_thrown [.ref 26] (w_M f ms tl bb) Q := by
  refine x_in (M := m_X8_thrown) rfl rfl (Nat.le_of_ble_eq_true rfl) ⟨rfl, trivial⟩ ?_
  intro P hP
  iterate 2 refine hP _ _ _ _ ?_
  exact hP _ _ _ _ (hQ)
theorem r_fails {code : Int32} {b : Bool} (hQ : Q (.inl (some (.int (bI b)))) (w_M f (sF ms 0 (if b then code else 0)) tl bb)) : x_run sc x_MM x_EX (d + 1) k_X8_fails [.ref 26, .int code, .int (bI b)] (w_M f ms tl bb) Q := by
  refine x_in (M := m_X8_fails) rfl rfl (Nat.le_of_ble_eq_true rfl) ⟨rfl, rfl, rfl, trivial⟩ ?_
  intro P hP
  iterate 2 refine hP _ _ _ _ ?_
  refine hP _ _ _ _ (And.intro (fun h => ?_) (fun h => ?_))
  · have h : bI b = 0 := h
    rw [bI_t] at h
    subst h
    iterate 3 refine hP _ _ _ _ ?_
    exact hP _ _ _ _ (And.intro rfl hQ)
  · cases b
    · exact absurd (show bI false = 0 from rfl) h
    · iterate 4 refine hP _ _ _ _ ?_
      exact hP _ _ _ _ (And.intro rfl hQ)
theorem r_changed (hQ : Q (.inl none) (w_M f (sF (sF ms 8 (-1)) 16 0) tl bb)) : x_run sc x_MM x_EX (d + 1) k_X8_changed [.ref 26] (w_M f ms tl bb) Q := by
  refine x_in (M := m_X8_changed) rfl rfl (Nat.le_of_ble_eq_true rfl) ⟨rfl, trivial⟩ ?_
  intro P hP
  iterate 6 refine hP _ _ _ _ ?_
  exact hP _ _ _ _ (hQ)
/-- what none() leaves -/
def noneM (ms : x_S) : x_S := sA (sA (sF (sF ms 11 (-1)) 12 (-1)) 31 (zr (ms.2 31) 81)) 32 (zr (ms.2 32) 81)
theorem r_none (hQ : Q (.inl none) (w_M f (noneM ms) tl bb)) : x_run sc x_MM x_EX (d + 1) k_X8_none [.ref 26] (w_M f ms tl bb) Q := by
  refine x_in (M := m_X8_none) rfl rfl (Nat.le_of_ble_eq_true rfl) ⟨rfl, trivial⟩ ?_
  intro P hP
  have loop : ∀ j k, k + j = 81 → P 12 [some (.ref 26), some (.int (nI k))] [] (w_M f (sA (sA (sF (sF ms 11 (-1)) 12 (-1)) 31 (zr (ms.2 31) k)) 32 (zr (ms.2 32) k)) tl bb) := by
    intro j
    induction j with
    | zero =>
      intro k hk
      have hk : k = 81 := hk
      subst hk
      iterate 2 refine hP _ _ _ _ ?_
      refine hP _ _ _ _ (And.intro (fun _ => ?_) (fun h => absurd (show (Int8.ofInt 81).toInt32 ≤ nI 81 by decide) h))
      exact hP _ _ _ _ (hQ)
    | succ j ih =>
      intro k hk
      have hin : vp_in (nI k) 81 := vp_in_nI (by omega) (by omega)
      iterate 2 refine hP _ _ _ _ ?_
      refine hP _ _ _ _ (And.intro (fun h => absurd (show (Int8.ofInt 81).toInt32 ≤ nI k from h) (by rw [ob81]; exact nI_ge (by omega) (by omega))) (fun _ => ?_))
      iterate 4 refine hP _ _ _ _ ?_
      refine hP _ _ _ _ (And.intro hin ?_)
      iterate 4 refine hP _ _ _ _ ?_
      refine hP _ _ _ _ (And.intro hin ?_)
      refine hP _ _ _ _ ?_
      refine hP _ _ _ _ (x_p4 (P := P) (ih (k + 1) (by omega)) ?_ rfl ?_)
      · rw [nI_succ]; rfl
      · rw [zr_st (o := ms.2 31) (v := vp_nar .boolean (Int32.ofInt 0)) (by omega) (by decide), zr_st (o := ms.2 32) (v := Int32.ofInt 0) (by omega) (by decide)]
        rfl
  iterate 7 refine hP _ _ _ _ ?_
  refine hP _ _ _ _ (x_p4 (P := P) (loop 81 0 rfl) rfl rfl ?_)
  rw [zr_0, zr_0]
  rfl
theorem r_leaves {c : Nat} {bits : Int32} (hc : c < 81) (hQ : Q (.inl none) (w_M f (sA ms 32 (upd (ms.2 32) c (ms.2 32 c ||| (ms.2 27 c &&& bits)))) tl bb)) : x_run sc x_MM x_EX (d + 1) k_X8_leaves [.ref 26, .int (nI c), .int bits] (w_M f ms tl bb) Q := by
  have hcl : (nI c).toNatClampNeg = c := nI_clamp (by omega)
  have hin : vp_in (nI c) 81 := vp_in_nI (by omega) (by omega)
  refine x_in (M := m_X8_leaves) rfl rfl (Nat.le_of_ble_eq_true rfl) ⟨rfl, rfl, rfl, trivial⟩ ?_
  intro P hP
  iterate 6 refine hP _ _ _ _ ?_
  refine hP _ _ _ _ (And.intro hin ?_)
  iterate 3 refine hP _ _ _ _ ?_
  refine hP _ _ _ _ (And.intro hin ?_)
  iterate 3 refine hP _ _ _ _ ?_
  refine hP _ _ _ _ (And.intro hin ?_)
  refine hP _ _ _ _ (x_q2 hQ ?_)
  rw [hcl]
  rfl
theorem r_takes (hT : (∃ c, c < 81 ∧ ms.2 32 c ≠ 0) → Q (.inl (some (.int (bI true)))) (w_M f ms tl bb)) (hF : (∀ c, c < 81 → ms.2 32 c = 0) → Q (.inl (some (.int (bI false)))) (w_M f ms tl bb)) : x_run sc x_MM x_EX (d + 1) k_X8_takes [.ref 26] (w_M f ms tl bb) Q := by
  refine x_in (M := m_X8_takes) rfl rfl (Nat.le_of_ble_eq_true rfl) ⟨rfl, trivial⟩ ?_
  intro P hP
  have loop : ∀ j k, k + j = 81 → (∀ c, c < k → ms.2 32 c = 0) → P 2 [some (.ref 26), some (.int (nI k))] [] (w_M f ms tl bb) := by
    intro j
    induction j with
    | zero =>
      intro k hk hz
      have hk : k = 81 := hk
      subst hk
      iterate 2 refine hP _ _ _ _ ?_
      refine hP _ _ _ _ (And.intro (fun _ => ?_) (fun h => absurd (show (Int8.ofInt 81).toInt32 ≤ nI 81 by decide) h))
      refine hP _ _ _ _ ?_
      exact hP _ _ _ _ (And.intro rfl (hF hz))
    | succ j ih =>
      intro k hk hz
      have hcl : (nI k).toNatClampNeg = k := nI_clamp (by omega)
      have hin : vp_in (nI k) 81 := vp_in_nI (by omega) (by omega)
      iterate 2 refine hP _ _ _ _ ?_
      refine hP _ _ _ _ (And.intro (fun h => absurd (show (Int8.ofInt 81).toInt32 ≤ nI k from h) (by rw [ob81]; exact nI_ge (by omega) (by omega))) (fun _ => ?_))
      iterate 3 refine hP _ _ _ _ ?_
      refine hP _ _ _ _ (And.intro hin ?_)
      refine hP _ _ _ _ (And.intro (fun h => ?_) (fun h => ?_))
      · have h : ms.2 32 (nI k).toNatClampNeg = 0 := h
        rw [hcl] at h
        refine hP _ _ _ _ ?_
        refine hP _ _ _ _ (x_p4 (P := P) (ih (k + 1) (by omega) ?_) ?_ rfl rfl)
        · intro c hc
          by_cases hck : c = k
          · rw [hck]; exact h
          · exact hz c (by omega)
        · rw [nI_succ]; rfl
      · have h : ¬ ms.2 32 (nI k).toNatClampNeg = 0 := h
        rw [hcl] at h
        refine hP _ _ _ _ ?_
        exact hP _ _ _ _ (And.intro rfl (hT ⟨k, by omega, h⟩))
  iterate 2 refine hP _ _ _ _ ?_
  exact loop 81 0 rfl (fun c hc => absurd hc (Nat.not_lt_zero c))
/-- some cell has no candidate, or some symbol no place in some house -/
def brk (cb : Nat → Nat) (n w h : Nat) : Prop := (∃ c, c < n * n ∧ cb c = 0) ∨ ∃ g s, g < 3 * n ∧ s < n ∧ plB cb n w h g s n = 0
theorem plB_lt (cb : Nat → Nat) (n w h g s : Nat) : ∀ k, plB cb n w h g s k < 2 ^ k
  | 0 => by simp [plB]
  | k + 1 => by
    have h1 := plB_lt cb n w h g s k
    have h2 : plB cb n w h g s k < 2 ^ (k + 1) := by rw [Nat.pow_succ]; omega
    refine Nat.or_lt_two_pow h2 ?_
    split
    · rw [Nat.pow_succ]; have := Nat.two_pow_pos k; omega
    · exact Nat.two_pow_pos _
theorem r_isBroken (hG : gM ms n w h) (hC : cM ms n cb) (hT : brk cb n w h → Q (.inl (some (.int (bI true)))) (w_M f ms tl bb)) (hF : ¬ brk cb n w h → Q (.inl (some (.int (bI false)))) (w_M f ms tl bb)) : x_run sc x_MM x_EX (d + 3) k_X8_isBroken [.ref 26] (w_M f ms tl bb) Q := by
  obtain ⟨g1, g2, g3, g4, g5, g6, g7, g8⟩ := hG.2.2.2.le
  have hcb : ∀ c, c < n * n → cb c < 512 := fun c hc => Nat.lt_of_lt_of_le (hC c hc).2 (Nat.pow_le_pow_right (by omega) g2)
  refine x_in (M := m_X8_isBroken) rfl rfl (Nat.le_of_ble_eq_true rfl) ⟨rfl, trivial⟩ ?_
  intro P hP
  have loop3 : ∀ j g, g + j = 3 * n → (∀ c, c < n * n → cb c ≠ 0) → (∀ a s, a < g → s < n → plB cb n w h a s n ≠ 0) → ∀ x : Option Value, P 29 [some (.ref 26), some (.int (nI g)), x] [] (w_M f ms tl bb) := by
    intro j
    induction j with
    | zero =>
      intro g hg hc hz x
      have hg : g = 3 * n := hg
      iterate 4 refine hP _ _ _ _ ?_
      refine hP _ _ _ _ ?_
      refine hP _ _ _ _ (And.intro (fun _ => ?_) (fun h => absurd (show Int32.ofInt 3 * ms.1 1 ≤ nI g by rw [oi3, hG.1, pk_mul]; exact nI_le (by omega) (by omega)) h))
      refine hP _ _ _ _ ?_
      refine hP _ _ _ _ (And.intro rfl (hF ?_))
      rintro (⟨c, h1, h2⟩ | ⟨a, s, h1, h2, h3⟩)
      · exact hc c h1 h2
      · exact hz a s (by omega) h2 h3
    | succ j ih =>
      intro g hg hc hz x
      iterate 5 refine hP _ _ _ _ ?_
      refine hP _ _ _ _ (And.intro (fun h => absurd (show Int32.ofInt 3 * ms.1 1 ≤ nI g from h) (by rw [oi3, hG.1, pk_mul]; exact nI_ge (by omega) (by omega))) (fun _ => ?_))
      have loop4 : ∀ i s, s + i = n → (∀ t, t < s → plB cb n w h g t n ≠ 0) → P 41 [some (.ref 26), some (.int (nI g)), some (.int (nI s))] [] (w_M f ms tl bb) := by
        intro i
        induction i with
        | zero =>
          intro s hs hzs
          have hs : s = n := hs
          subst hs
          iterate 3 refine hP _ _ _ _ ?_
          refine hP _ _ _ _ (And.intro (fun _ => ?_) (fun h => absurd (show ms.1 1 ≤ nI s by rw [hG.1]; exact nI_le (Nat.le_refl _) (by omega)) h))
          refine hP _ _ _ _ ?_
          refine hP _ _ _ _ (x_p4 (P := P) (ih (g + 1) (by omega) hc ?_ (some (.int (nI s)))) ?_ rfl rfl)
          · intro a s' ha hs'
            by_cases hag : a = g
            · rw [hag]; exact hzs s' hs'
            · exact hz a s' (by omega) hs'
          · rw [nI_succ]; rfl
        | succ i ih2 =>
          intro s hs hzs
          iterate 3 refine hP _ _ _ _ ?_
          refine hP _ _ _ _ (And.intro (fun h => absurd (show ms.1 1 ≤ nI s from h) (by rw [hG.1]; exact nI_ge (by omega) (by omega))) (fun _ => ?_))
          iterate 3 refine hP _ _ _ _ ?_
          refine hP _ _ _ _ (r_places hG hC (by omega) (by omega) ?_)
          have hpl := plB_lt cb n w h g s n
          have h29 : plB cb n w h g s n < 512 := Nat.lt_of_lt_of_le hpl (Nat.pow_le_pow_right (by omega) g2)
          refine hP _ _ _ _ (And.intro (fun hq => ?_) (fun hq => ?_))
          · have hq : ¬ nI (plB cb n w h g s n) = 0 := hq
            rw [z0, nI_eq (by omega) (by omega)] at hq
            refine hP _ _ _ _ ?_
            refine hP _ _ _ _ (x_p4 (P := P) (ih2 (s + 1) (by omega) ?_) ?_ rfl rfl)
            · intro t ht
              by_cases hts : t = s
              · rw [hts]; exact hq
              · exact hzs t (by omega)
            · rw [nI_succ]; rfl
          · have hq : nI (plB cb n w h g s n) = 0 := Decidable.of_not_not hq
            rw [z0, nI_eq (by omega) (by omega)] at hq
            refine hP _ _ _ _ ?_
            exact hP _ _ _ _ (And.intro rfl (hT (Or.inr ⟨g, s, by omega, by omega, hq⟩)))
      iterate 2 refine hP _ _ _ _ ?_
      exact loop4 n 0 (by omega) (fun t ht => absurd ht (Nat.not_lt_zero t))
  have loop1 : ∀ j k, k + j = n * n → (∀ c, c < k → cb c ≠ 0) → P 2 [some (.ref 26), some (.int (nI k)), none] [] (w_M f ms tl bb) := by
    intro j
    induction j with
    | zero =>
      intro k hk hz
      have hk : k = n * n := hk
      iterate 2 refine hP _ _ _ _ ?_
      refine hP _ _ _ _ (r_cells hG ?_)
      refine hP _ _ _ _ (And.intro (fun _ => ?_) (fun h => absurd (show nI (n * n) ≤ nI k from nI_le (by omega) (by omega)) h))
      iterate 2 refine hP _ _ _ _ ?_
      exact loop3 (3 * n) 0 (by omega) (fun c hc => hz c (by omega)) (fun a s ha => absurd ha (Nat.not_lt_zero a)) none
    | succ j ih =>
      intro k hk hz
      have hcl : (nI k).toNatClampNeg = k := nI_clamp (by omega)
      iterate 2 refine hP _ _ _ _ ?_
      refine hP _ _ _ _ (r_cells hG ?_)
      refine hP _ _ _ _ (And.intro (fun h => absurd (show nI (n * n) ≤ nI k from h) (nI_ge (by omega) (by omega))) (fun _ => ?_))
      iterate 3 refine hP _ _ _ _ ?_
      refine hP _ _ _ _ (And.intro (vp_in_nI (by omega) (by omega)) ?_)
      have hc := hcb k (by omega)
      refine hP _ _ _ _ (And.intro (fun hq => ?_) (fun hq => ?_))
      · have hq : ¬ ms.2 27 (nI k).toNatClampNeg = 0 := hq
        rw [hcl, (hC k (by omega)).1, z0, nI_eq (by omega) (by omega)] at hq
        refine hP _ _ _ _ ?_
        refine hP _ _ _ _ (x_p4 (P := P) (ih (k + 1) (by omega) ?_) ?_ rfl rfl)
        · intro c hc
          by_cases hck : c = k
          · rw [hck]; exact hq
          · exact hz c (by omega)
        · rw [nI_succ]; rfl
      · have hq : ms.2 27 (nI k).toNatClampNeg = 0 := Decidable.of_not_not hq
        rw [hcl, (hC k (by omega)).1, z0, nI_eq (by omega) (by omega)] at hq
        refine hP _ _ _ _ ?_
        exact hP _ _ _ _ (And.intro rfl (hT (Or.inl ⟨k, by omega, hq⟩)))
  iterate 2 refine hP _ _ _ _ ?_
  exact loop1 (n * n) 0 (by omega) (fun c hc => absurd hc (Nat.not_lt_zero c))
/-- the candidates behind put(c, s), the first k cells seen to -/
def putA (o : Nat → Int32) (n w h c s k : Nat) : Nat → Int32 := fun e => if e = c then nI (2 ^ s) else if e < k ∧ seeN n w h c e = true then o e &&& (nI (2 ^ s) ^^^ (-1)) else o e
theorem r_put (hG : gM ms n w h) {c s : Nat} (hc : c < n * n) (hs : s < n) (hQ : Q (.inl none) (w_M f (sA (sA ms 28 (upd (ms.2 28) c (nI s))) 27 (putA (ms.2 27) n w h c s (n * n))) tl bb)) : x_run sc x_MM x_EX (d + 3) k_X8_put [.ref 26, .int (nI c), .int (nI s)] (w_M f ms tl bb) Q := by
  obtain ⟨g1, g2, g3, g4, g5, g6, g7, g8⟩ := hG.2.2.2.le
  have hcl : ∀ k, k < 81 → (nI k).toNatClampNeg = k := fun k hk => nI_clamp (by omega)
  have hsh : Int32.ofInt 1 <<< (nI s &&& 31) = nI (2 ^ s) := by
    rw [oi1, nI_shl (by omega), Nat.one_mul]
    have : 2 ^ s ≤ 2 ^ 9 := Nat.pow_le_pow_right (by omega) (by omega)
    omega
  have hcc : seeN n w h c c = false := by unfold seeN; simp
  have hG' : ∀ u v, gM (sA (sA ms 28 u) 27 v) n w h := fun _ _ => hG
  refine x_in (M := m_X8_put) rfl rfl (Nat.le_of_ble_eq_true rfl) ⟨rfl, rfl, rfl, trivial⟩ ?_
  intro P hP
  have loop : ∀ j k, k + j = n * n → P 18 [some (.ref 26), some (.int (nI c)), some (.int (nI s)), some (.int (nI k))] [] (w_M f (sA (sA ms 28 (upd (ms.2 28) c (nI s))) 27 (putA (ms.2 27) n w h c s k)) tl bb) := by
    intro j
    induction j with
    | zero =>
      intro k hk
      have hk : k = n * n := hk
      subst hk
      iterate 2 refine hP _ _ _ _ ?_
      refine hP _ _ _ _ (r_cells (hG' _ _) ?_)
      refine hP _ _ _ _ (And.intro (fun _ => ?_) (fun h => absurd (nI_le (Nat.le_refl _) (by omega)) h))
      exact hP _ _ _ _ (hQ)
    | succ j ih =>
      intro k hk
      iterate 2 refine hP _ _ _ _ ?_
      refine hP _ _ _ _ (r_cells (hG' _ _) ?_)
      refine hP _ _ _ _ (And.intro (fun h => absurd (show nI (n * n) ≤ nI k from h) (nI_ge (by omega) (by omega))) (fun _ => ?_))
      iterate 3 refine hP _ _ _ _ ?_
      refine hP _ _ _ _ (r_sees (hG' _ _) hc (by omega) ?_)
      refine hP _ _ _ _ (And.intro (fun hq => ?_) (fun hq => ?_))
      · have hq : bI (seeN n w h c k) = 0 := hq
        rw [bI_t] at hq
        refine hP _ _ _ _ ?_
        refine hP _ _ _ _ (x_p4 (P := P) (ih (k + 1) (by omega)) ?_ rfl ?_)
        · rw [nI_succ]; rfl
        · have e : putA (ms.2 27) n w h c s (k + 1) = putA (ms.2 27) n w h c s k := by
            funext x
            unfold putA
            by_cases hx : x = k
            · subst hx
              simp [hq]
            · have h1 : (x < k + 1) = (x < k) := by apply propext; constructor <;> omega
              simp only [h1]
          rw [e]
          rfl
      · have hq : ¬ bI (seeN n w h c k) = 0 := hq
        rw [bI_t] at hq
        have hq : seeN n w h c k = true := by cases hh : seeN n w h c k with | true => rfl | false => exact absurd hh hq
        have hkc : k ≠ c := by intro hz; rw [hz, hcc] at hq; cases hq
        have hin : vp_in (nI k) 81 := vp_in_nI (by omega) (by omega)
        iterate 6 refine hP _ _ _ _ ?_
        refine hP _ _ _ _ (And.intro hin ?_)
        iterate 6 refine hP _ _ _ _ ?_
        refine hP _ _ _ _ (And.intro hin ?_)
        refine hP _ _ _ _ ?_
        refine hP _ _ _ _ (x_p4 (P := P) (ih (k + 1) (by omega)) ?_ rfl ?_)
        · rw [nI_succ]; rfl
        · have e : putA (ms.2 27) n w h c s (k + 1) = upd (putA (ms.2 27) n w h c s k) (nI k).toNatClampNeg (putA (ms.2 27) n w h c s k (nI k).toNatClampNeg &&& ((Int32.ofInt 1 <<< (nI s &&& 31)) ^^^ Int32.ofInt (-1))) := by
            rw [hcl k (by omega), hsh]
            funext x
            by_cases hx : x = k
            · subst hx
              rw [pk_us]
              have h9 : ¬ x < x := Nat.lt_irrefl x
              simp [putA, hkc, hq]
            · rw [pk_un hx]
              have h1 : (x < k + 1) = (x < k) := by apply propext; constructor <;> omega
              unfold putA
              simp only [h1]
          rw [e]
          rfl
  have hin : vp_in (nI c) 81 := vp_in_nI (by omega) (by omega)
  iterate 4 refine hP _ _ _ _ ?_
  refine hP _ _ _ _ (And.intro hin ?_)
  iterate 6 refine hP _ _ _ _ ?_
  refine hP _ _ _ _ (And.intro hin ?_)
  refine hP _ _ _ _ ?_
  refine hP _ _ _ _ (x_p4 (P := P) (loop (n * n) 0 (by omega)) rfl rfl ?_)
  have e : putA (ms.2 27) n w h c s 0 = upd (ms.2 27) (nI c).toNatClampNeg (Int32.ofInt 1 <<< (nI s &&& 31)) := by
    rw [hcl c (by omega), hsh]
    funext x
    by_cases hx : x = c
    · subst hx
      rw [pk_us]
      simp [putA]
    · rw [pk_un hx]
      simp [putA, hx]
  rw [e, hcl c (by omega)]
  rfl
end M4
