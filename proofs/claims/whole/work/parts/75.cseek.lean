/-! ===== the class: seek ===== -/
theorem i8_m7 : ∀ k, k < 11 → 7 ≤ k → nI k - (Int8.ofInt 7).toInt32 = nI (k - 7) := by decide
section KD9
variable {sc : Nat × (Nat → Int32)} {cs : x_S} {tl : List x_C} {bb : Nat × Nat} {n w h d : Nat} {Q : x_O → x_H → Prop} {cb : Nat → Nat} {vb : Nat → Option Nat}
theorem c_seek (hB : bC cs n w h cb vb) (hZ : zC cs n) (hst : stOK n w h cb vb) (hnb : ¬ brk cb n w h) {k : Nat} (hk : k < 19) (hT : ∀ cs' r, scC cs cs' → lookS cb vb n w h k = some r → rsC cs' n r → Q (.inl (some (.int (bI true)))) (w_C n cs' tl bb)) (hF : ∀ cs', scC cs cs' → lookS cb vb n w h k = none → zC cs' n → Q (.inl (some (.int (bI false)))) (w_C n cs' tl bb)) : x_run sc x_MM x_EX (d + 6) k_X5_seek [.ref 1, .int (nI k)] (w_C n cs tl bb) Q := by
  obtain ⟨g1, g2, g3, g4, g5, g6, g7, g8⟩ := hB.1.1.le
  refine x_in (M := m_X5_seek) rfl rfl (Nat.le_of_ble_eq_true rfl) ⟨rfl, rfl, trivial⟩ ?_
  intro P hP
  repeat refine hP _ _ _ _ ?_
  match k, hk with
  | 0, _ =>
    refine b_sw 0 _ (by rw [nI_toInt (by omega)]; rfl) rfl (by decide) ?_
    repeat refine hP _ _ _ _ ?_
    refine c_last hB hZ (fun c5 r h5 he hres => ?_) (fun he => ?_)
    · repeat refine hP _ _ _ _ ?_
      exact And.intro (bI_nar _) (hT c5 r h5 (by exact he) hres)
    · repeat refine hP _ _ _ _ ?_
      exact And.intro (bI_nar _) (hF cs (scC.rf cs) (by exact he) hZ)
  | 1, _ =>
    refine b_sw 1 _ (by rw [nI_toInt (by omega)]; rfl) rfl (by decide) ?_
    repeat refine hP _ _ _ _ ?_
    refine c_onlyPlace hB hZ (fr := 2 * n) (by omega) (by rw [oi2, pk_mul]) (fun c5 r h5 he hres => ?_) (fun he => ?_)
    · repeat refine hP _ _ _ _ ?_
      exact And.intro (bI_nar _) (hT c5 r h5 (by exact he) hres)
    · repeat refine hP _ _ _ _ ?_
      exact And.intro (bI_nar _) (hF cs (scC.rf cs) (by exact he) hZ)
  | 2, _ =>
    refine b_sw 2 _ (by rw [nI_toInt (by omega)]; rfl) rfl (by decide) ?_
    repeat refine hP _ _ _ _ ?_
    refine c_onlyPlace hB hZ (fr := 0) (by omega) rfl (fun c5 r h5 he hres => ?_) (fun he => ?_)
    · repeat refine hP _ _ _ _ ?_
      exact And.intro (bI_nar _) (hT c5 r h5 (by exact he) hres)
    · repeat refine hP _ _ _ _ ?_
      exact And.intro (bI_nar _) (hF cs (scC.rf cs) (by exact he) hZ)
  | 3, _ =>
    refine b_sw 3 _ (by rw [nI_toInt (by omega)]; rfl) rfl (by decide) ?_
    repeat refine hP _ _ _ _ ?_
    refine c_onlyPlace hB hZ (fr := n) (by omega) rfl (fun c5 r h5 he hres => ?_) (fun he => ?_)
    · repeat refine hP _ _ _ _ ?_
      exact And.intro (bI_nar _) (hT c5 r h5 (by exact he) hres)
    · repeat refine hP _ _ _ _ ?_
      exact And.intro (bI_nar _) (hF cs (scC.rf cs) (by exact he) hZ)
  | 4, _ =>
    refine b_sw 4 _ (by rw [nI_toInt (by omega)]; rfl) rfl (by decide) ?_
    repeat refine hP _ _ _ _ ?_
    refine c_pointing hB hZ (fun c5 r h5 he hres => ?_) (fun c5 h5 he hz => ?_)
    · repeat refine hP _ _ _ _ ?_
      exact And.intro (bI_nar _) (hT c5 r h5 (by exact he) hres)
    · repeat refine hP _ _ _ _ ?_
      exact And.intro (bI_nar _) (hF c5 h5 (by exact he) hz)
  | 5, _ =>
    refine b_sw 5 _ (by rw [nI_toInt (by omega)]; rfl) rfl (by decide) ?_
    repeat refine hP _ _ _ _ ?_
    refine c_claiming hB hZ (fun c5 r h5 he hres => ?_) (fun c5 h5 he hz => ?_)
    · repeat refine hP _ _ _ _ ?_
      exact And.intro (bI_nar _) (hT c5 r h5 (by exact he) hres)
    · repeat refine hP _ _ _ _ ?_
      exact And.intro (bI_nar _) (hF c5 h5 (by exact he) hz)
  | 6, _ =>
    refine b_sw 6 _ (by rw [nI_toInt (by omega)]; rfl) rfl (by decide) ?_
    repeat refine hP _ _ _ _ ?_
    refine c_nakedSet hB hZ hnb (k := 2) (by decide) (by decide) (show nI 6 - Int32.ofInt 4 = nI 2 by decide) (fun c5 r h5 he hres => ?_) (fun c5 h5 he hz => ?_)
    · repeat refine hP _ _ _ _ ?_
      exact And.intro (bI_nar _) (hT c5 r h5 (by exact he) hres)
    · repeat refine hP _ _ _ _ ?_
      exact And.intro (bI_nar _) (hF c5 h5 (by exact he) hz)
  | 7, _ =>
    refine b_sw 7 _ (by rw [nI_toInt (by omega)]; rfl) rfl (by decide) ?_
    repeat refine hP _ _ _ _ ?_
    refine c_nakedSet hB hZ hnb (k := 3) (by decide) (by decide) (show nI 7 - Int32.ofInt 4 = nI 3 by decide) (fun c5 r h5 he hres => ?_) (fun c5 h5 he hz => ?_)
    · repeat refine hP _ _ _ _ ?_
      exact And.intro (bI_nar _) (hT c5 r h5 (by exact he) hres)
    · repeat refine hP _ _ _ _ ?_
      exact And.intro (bI_nar _) (hF c5 h5 (by exact he) hz)
  | 8, _ =>
    refine b_sw 8 _ (by rw [nI_toInt (by omega)]; rfl) rfl (by decide) ?_
    repeat refine hP _ _ _ _ ?_
    refine c_nakedSet hB hZ hnb (k := 4) (by decide) (by decide) (show nI 8 - Int32.ofInt 4 = nI 4 by decide) (fun c5 r h5 he hres => ?_) (fun c5 h5 he hz => ?_)
    · repeat refine hP _ _ _ _ ?_
      exact And.intro (bI_nar _) (hT c5 r h5 (by exact he) hres)
    · repeat refine hP _ _ _ _ ?_
      exact And.intro (bI_nar _) (hF c5 h5 (by exact he) hz)
  | 9, _ =>
    refine b_sw 9 _ (by rw [nI_toInt (by omega)]; rfl) rfl (by decide) ?_
    repeat refine hP _ _ _ _ ?_
    refine c_hiddenSet hB hZ hst hnb (k := 2) (by decide) (by decide) (show nI 9 - (Int8.ofInt 7).toInt32 = nI 2 by decide) (fun c5 r h5 he hres => ?_) (fun c5 h5 he hz => ?_)
    · repeat refine hP _ _ _ _ ?_
      exact And.intro (bI_nar _) (hT c5 r h5 (by exact he) hres)
    · repeat refine hP _ _ _ _ ?_
      exact And.intro (bI_nar _) (hF c5 h5 (by exact he) hz)
  | 10, _ =>
    refine b_sw 10 _ (by rw [nI_toInt (by omega)]; rfl) rfl (by decide) ?_
    repeat refine hP _ _ _ _ ?_
    refine c_hiddenSet hB hZ hst hnb (k := 3) (by decide) (by decide) (show nI 10 - (Int8.ofInt 7).toInt32 = nI 3 by decide) (fun c5 r h5 he hres => ?_) (fun c5 h5 he hz => ?_)
    · repeat refine hP _ _ _ _ ?_
      exact And.intro (bI_nar _) (hT c5 r h5 (by exact he) hres)
    · repeat refine hP _ _ _ _ ?_
      exact And.intro (bI_nar _) (hF c5 h5 (by exact he) hz)
  | 11, _ =>
    refine b_sw 11 _ (by rw [nI_toInt (by omega)]; rfl) rfl (by decide) ?_
    repeat refine hP _ _ _ _ ?_
    refine c_crossing hB hZ (fr := 0) (k := 2) (by omega) (by decide) (by decide) rfl rfl (fun c5 r h5 he hres => ?_) (fun c5 h5 he hz => ?_)
    · repeat refine hP _ _ _ _ ?_
      exact And.intro (bI_nar _) (hT c5 r h5 (by exact he) hres)
    · repeat refine hP _ _ _ _ ?_
      exact And.intro (bI_nar _) (hF c5 h5 (by exact he) hz)
  | 12, _ =>
    refine b_sw 12 _ (by rw [nI_toInt (by omega)]; rfl) rfl (by decide) ?_
    repeat refine hP _ _ _ _ ?_
    refine c_crossing hB hZ (fr := n) (k := 2) (by omega) (by decide) (by decide) rfl rfl (fun c5 r h5 he hres => ?_) (fun c5 h5 he hz => ?_)
    · repeat refine hP _ _ _ _ ?_
      exact And.intro (bI_nar _) (hT c5 r h5 (by exact he) hres)
    · repeat refine hP _ _ _ _ ?_
      exact And.intro (bI_nar _) (hF c5 h5 (by exact he) hz)
  | 13, _ =>
    refine b_sw 13 _ (by rw [nI_toInt (by omega)]; rfl) rfl (by decide) ?_
    repeat refine hP _ _ _ _ ?_
    refine c_crossing hB hZ (fr := 0) (k := 3) (by omega) (by decide) (by decide) rfl rfl (fun c5 r h5 he hres => ?_) (fun c5 h5 he hz => ?_)
    · repeat refine hP _ _ _ _ ?_
      exact And.intro (bI_nar _) (hT c5 r h5 (by exact he) hres)
    · repeat refine hP _ _ _ _ ?_
      exact And.intro (bI_nar _) (hF c5 h5 (by exact he) hz)
  | 14, _ =>
    refine b_sw 14 _ (by rw [nI_toInt (by omega)]; rfl) rfl (by decide) ?_
    repeat refine hP _ _ _ _ ?_
    refine c_crossing hB hZ (fr := n) (k := 3) (by omega) (by decide) (by decide) rfl rfl (fun c5 r h5 he hres => ?_) (fun c5 h5 he hz => ?_)
    · repeat refine hP _ _ _ _ ?_
      exact And.intro (bI_nar _) (hT c5 r h5 (by exact he) hres)
    · repeat refine hP _ _ _ _ ?_
      exact And.intro (bI_nar _) (hF c5 h5 (by exact he) hz)
  | 15, _ =>
    refine b_sw 15 _ (by rw [nI_toInt (by omega)]; rfl) rfl (by decide) ?_
    repeat refine hP _ _ _ _ ?_
    refine c_wing hB hZ (gr := false) rfl (fun c5 r h5 he hres => ?_) (fun c5 h5 he hz => ?_)
    · repeat refine hP _ _ _ _ ?_
      exact And.intro (bI_nar _) (hT c5 r h5 (by exact he) hres)
    · repeat refine hP _ _ _ _ ?_
      exact And.intro (bI_nar _) (hF c5 h5 (by exact he) hz)
  | 16, _ =>
    refine b_sw 16 _ (by rw [nI_toInt (by omega)]; rfl) rfl (by decide) ?_
    repeat refine hP _ _ _ _ ?_
    refine c_wing hB hZ (gr := true) rfl (fun c5 r h5 he hres => ?_) (fun c5 h5 he hz => ?_)
    · repeat refine hP _ _ _ _ ?_
      exact And.intro (bI_nar _) (hT c5 r h5 (by exact he) hres)
    · repeat refine hP _ _ _ _ ?_
      exact And.intro (bI_nar _) (hF c5 h5 (by exact he) hz)
  | 17, _ =>
    refine b_sw 17 _ (by rw [nI_toInt (by omega)]; rfl) rfl (by decide) ?_
    repeat refine hP _ _ _ _ ?_
    refine c_colours hB hZ (fun c5 r h5 he hres => ?_) (fun c5 h5 he hz => ?_)
    · repeat refine hP _ _ _ _ ?_
      exact And.intro (bI_nar _) (hT c5 r h5 (by exact he) hres)
    · repeat refine hP _ _ _ _ ?_
      exact And.intro (bI_nar _) (hF c5 h5 (by exact he) hz)
  | 18, _ =>
    refine b_swd (Or.inr (by rw [nI_toInt (by omega)]; decide)) rfl ?_
    repeat refine hP _ _ _ _ ?_
    refine c_onlyOneAnswer hB hZ hst (fun c5 r h5 he hres => ?_) (fun he => ?_)
    · repeat refine hP _ _ _ _ ?_
      exact And.intro (bI_nar _) (hT c5 r h5 (by exact he) hres)
    · repeat refine hP _ _ _ _ ?_
      exact And.intro (bI_nar _) (hF cs (scC.rf cs) (by exact he) hZ)
  | k9 + 19, hk9 => exact absurd hk9 (by omega)
end KD9
