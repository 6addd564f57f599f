/-! ===== the model: links and colours ===== -/
def lkN (cb : Nat → Nat) (n w h s a b : Nat) : Bool := (cb a).testBit s && (cb b).testBit s && seeN n w h a b && (List.range (3 * n)).any fun g => inN n w h g a && inN n w h g b && pcN (plB cb n w h g s n) == 2
/-- cell c has the colour (true: light) -/
def Rch (lk : Nat → Nat → Bool) (N fr c : Nat) (x : Bool) : Prop := ∀ S : Nat → Bool → Prop, S fr true → (∀ a b y, S a y → b < N → lk a b = true → S b (!y)) → S c x
theorem Rch.base {lk : Nat → Nat → Bool} {N fr : Nat} : Rch lk N fr fr true := fun _ h _ => h
theorem Rch.step {lk : Nat → Nat → Bool} {N fr a b : Nat} {x : Bool} (h : Rch lk N fr a x) (hb : b < N) (hl : lk a b = true) : Rch lk N fr b (!x) := fun S h0 hs => hs a b x (h S h0 hs) hb hl
theorem Rch.ind {lk : Nat → Nat → Bool} {N fr c : Nat} {x : Bool} (h : Rch lk N fr c x) {S : Nat → Bool → Prop} (h0 : S fr true) (hs : ∀ a b y, Rch lk N fr a y → S a y → b < N → lk a b = true → S b (!y)) : S c x :=
  (h (fun a y => Rch lk N fr a y ∧ S a y) ⟨Rch.base, h0⟩ (fun a b y h1 hb hl => ⟨h1.1.step hb hl, hs a b y h1.1 h1.2 hb hl⟩)).2
noncomputable def rcB (lk : Nat → Nat → Bool) (N fr : Nat) (x : Bool) (c : Nat) : Bool := @decide (Rch lk N fr c x) (Classical.propDecidable _)
theorem rcB_t {lk : Nat → Nat → Bool} {N fr : Nat} {x : Bool} {c : Nat} : rcB lk N fr x c = true ↔ Rch lk N fr c x := by
  unfold rcB
  exact @decide_eq_true_iff _ (Classical.propDecidable _)
/-- the arrays joined, light, dark -/
def ldM (ms : x_S) (lt dk : Nat → Bool) : Prop := ∀ c, c < 81 → ms.2 38 c = bI (lt c || dk c) ∧ ms.2 39 c = bI (lt c) ∧ ms.2 40 c = bI (dk c)
def updB (g : Nat → Bool) (k : Nat) (v : Bool) : Nat → Bool := fun c => if c = k then v else g c
theorem updB_s {g : Nat → Bool} {k : Nat} {v : Bool} : updB g k v k = v := by simp [updB]
theorem updB_n {g : Nat → Bool} {k j : Nat} {v : Bool} (h : j ≠ k) : updB g k v j = g j := by simp [updB, h]
theorem updB_same {g : Nat → Bool} {k : Nat} {v : Bool} (h : g k = v) : updB g k v = g := by
  funext c
  by_cases hc : c = k
  · subst hc; rw [updB_s, h]
  · rw [updB_n hc]
theorem rcN_mono {g g' : Nat → Bool} (h : ∀ c, g c = true → g' c = true) : ∀ k, rcN g k ≤ rcN g' k
  | 0 => Nat.le_refl _
  | k + 1 => by
    have ih := rcN_mono h k
    unfold rcN
    have := h k
    cases h1 : g k <;> cases h2 : g' k <;> simp <;> first | omega | (rw [h1] at this; rw [h2] at this; exact absurd (this rfl) (by decide))
theorem rcN_lt {g g' : Nat → Bool} {j : Nat} (h : ∀ c, g c = true → g' c = true) (h1 : g j = false) (h2 : g' j = true) : ∀ k, j < k → rcN g k < rcN g' k
  | 0, hj => absurd hj (Nat.not_lt_zero j)
  | k + 1, hj => by
    have hm := rcN_mono h k
    by_cases hjk : j = k
    · subst hjk
      unfold rcN
      rw [h1, h2]
      simp
      omega
    · have ih := rcN_lt h h1 h2 k (by omega)
      unfold rcN
      have := h k
      cases h3 : g k <;> cases h4 : g' k <;> simp <;> first | omega | (rw [h3] at this; rw [h4] at this; exact absurd (this rfl) (by decide))
section CL
variable {sc : Nat × (Nat → Int32)} {f : Nat → x_C} {ms : x_S} {tl : List x_C} {bb : Nat × Nat} {n w h d : Nat} {Q : x_O → x_H → Prop} {cb : Nat → Nat}
theorem r_isLinked (hG : gM ms n w h) (hC : cM ms n cb) {a b s : Nat} (ha : a < n * n) (hb : b < n * n) (hs : s < n) (hQ : Q (.inl (some (.int (bI (lkN cb n w h s a b))))) (w_M f ms tl bb)) : x_run sc x_MM x_EX (d + 3) k_X8_isLinked [.ref 26, .int (nI a), .int (nI b), .int (nI s)] (w_M f ms tl bb) Q := by
  obtain ⟨g1, g2, g3, g4, g5, g6, g7, g8⟩ := hG.2.2.2.le
  refine x_in (M := m_X8_isLinked) rfl rfl (Nat.le_of_ble_eq_true rfl) ⟨rfl, rfl, rfl, rfl, trivial⟩ ?_
  intro P hP
  have no : lkN cb n w h s a b = false → P 27 [some (.ref 26), some (.int (nI a)), some (.int (nI b)), some (.int (nI s)), none] [] (w_M f ms tl bb) := by
    intro h0
    rw [h0] at hQ
    repeat refine hP _ _ _ _ ?_
    exact And.intro rfl hQ
  repeat refine hP _ _ _ _ ?_
  refine r_has (b := cb a) (by omega) (by omega) (hC a ha).1 (hC.lt g2 ha) ?_
  repeat refine hP _ _ _ _ ?_
  refine b_ifeq (fun h1 => ?_) (fun h1 => ?_) (rfl)
  · exact no (by unfold lkN; rw [h1]; rfl)
  · repeat refine hP _ _ _ _ ?_
    refine r_has (b := cb b) (by omega) (by omega) (hC b hb).1 (hC.lt g2 hb) ?_
    repeat refine hP _ _ _ _ ?_
    refine b_ifeq (fun h2 => ?_) (fun h2 => ?_) (rfl)
    · exact no (by unfold lkN; rw [h1, h2]; rfl)
    · repeat refine hP _ _ _ _ ?_
      refine r_sees hG ha hb ?_
      repeat refine hP _ _ _ _ ?_
      refine b_ifne (fun h3 => ?_) (fun h3 => ?_) (rfl)
      · have hl : lkN cb n w h s a b = (List.range (3 * n)).any fun g => inN n w h g a && inN n w h g b && pcN (plB cb n w h g s n) == 2 := by unfold lkN; rw [h1, h2, h3]; rfl
        rw [hl] at hQ
        have loop : ∀ g, g ≤ 3 * n → ((List.range g).any fun g => inN n w h g a && inN n w h g b && pcN (plB cb n w h g s n) == 2) = false → P 32 [some (.ref 26), some (.int (nI a)), some (.int (nI b)), some (.int (nI s)), some (.int (nI g))] [] (w_M f ms tl bb) := by
          refine x_lp (3 * n) (fun g hg ih hz => ?_)
          repeat refine hP _ _ _ _ ?_
          refine b_ge (g) (3 * n) (fun hg9 => ?_) (fun hg9 => ?_) (rfl) (by show Int32.ofInt 3 * ms.1 1 = _; rw [oi3, hG.1, pk_mul]) (by omega) (by omega)
          · have hgn : g = 3 * n := by omega
            subst hgn
            rw [hz] at hQ
            repeat refine hP _ _ _ _ ?_
            exact And.intro rfl hQ
          · have ih := ih hg9
            rw [any_s, hz, Bool.false_or] at ih
            have next : (inN n w h g a && inN n w h g b && pcN (plB cb n w h g s n) == 2) = false → P 79 [some (.ref 26), some (.int (nI a)), some (.int (nI b)), some (.int (nI s)), some (.int (nI g))] [] (w_M f ms tl bb) := by
              intro h0
              iterate 2 refine hP _ _ _ _ ?_
              refine x_p4 (P := P) (ih h0) ?_ rfl ?_ <;> try (first | rfl | (rw [nI_succ]; rfl))
            have hpc : pcN (plB cb n w h g s n) ≤ 9 := pcA_le _ _
            repeat refine hP _ _ _ _ ?_
            refine r_isIn hG hg9 ha ?_
            repeat refine hP _ _ _ _ ?_
            refine b_ifeq (fun h4 => ?_) (fun h4 => ?_) (rfl)
            · exact next (by rw [h4]; rfl)
            · repeat refine hP _ _ _ _ ?_
              refine r_isIn hG hg9 hb ?_
              repeat refine hP _ _ _ _ ?_
              refine b_ifeq (fun h5 => ?_) (fun h5 => ?_) (rfl)
              · exact next (by rw [h4, h5]; rfl)
              · repeat refine hP _ _ _ _ ?_
                refine r_places hG hC hg9 hs ?_
                repeat refine hP _ _ _ _ ?_
                refine r_countOf (plB_9 cb w h g s g2) ?_
                repeat refine hP _ _ _ _ ?_
                refine b_ne ((pcN (plB cb n w h g s n))) (2) (fun h6 => ?_) (fun h6 => ?_) (rfl) (rfl) (by omega) (by omega)
                · exact next (by rw [h4, h5, beq_eq_false_iff_ne.mpr h6]; rfl)
                · have hy : ((List.range (3 * n)).any fun g => inN n w h g a && inN n w h g b && pcN (plB cb n w h g s n) == 2) = true := List.any_eq_true.mpr ⟨g, List.mem_range.mpr hg9, by rw [h4, h5, h6]; rfl⟩
                  rw [hy] at hQ
                  repeat refine hP _ _ _ _ ?_
                  exact And.intro rfl hQ
        iterate 2 refine hP _ _ _ _ ?_
        refine x_p4 (P := P) (loop 0 (by omega) rfl) ?_ rfl ?_ <;> try (first | rfl | (rw [nI_succ]; rfl))
      · exact no (by unfold lkN; rw [h1, h2, h3]; rfl)
end CL
