/-! ===== the model: names and words ===== -/
def ptL : List Int64 := [7809650170890551296, 0, 0, 7597045228569624576, 0, 0, 7597045297289035776, 0, 0, 7597045232863835501, 7926335344172072960, 0, 8101810177783197287, 0, 0, 7164208212674702951, 0, 0, 8097869543336050688, 0, 0, 8390884987320467456, 0, 0, 8175547780685627392, 0, 0, 7523655034860347504, 7019266838559195136, 0, 7523655034860347508, 8244244203731681280, 0, 8392298615777752947, 0, 0, 8392298615526091893, 7885366441409511424, 0, 8388080085791437423, 8607223312835149824, 0, 8388080085791433583, 7815273049514573824, 0, 8604529951728730112, 0, 0, 7454131802486110057, 7955327266773270528, 0, 7165064758137352960, 0, 0, 8029474453139189349, 2333267524158059008, 0, 7810777198031601664, 0, 0, 7596763616103064427, 0, 0, 7597045236991402074, 7307491051432837120, 0, 7597045236991402067, 8097872852155367424, 0, 8819571338079265792, 0, 0, 7381244089807826532, 0, 0, 5792017738029334528, 0, 0, 6085041977989791744, 0, 0, 5869704833554281588, 0, 0, 8531350909322879851, 8387236463672123762, 0, 8531350909322879851, 8387236463740348784, 7308216295315472384, 8824633497044542825, 7810770075023048704, 0, 8824633497044086881, 7814982776515461120, 0, 7237959053326574953, 7810770075023048704, 0, 7237959053326119009, 7814982776515461120, 0, 6008761189921613669, 0, 0, 7454142874899521619, 7163106502040315136, 0, 5071460422329958400, 0, 0, 7959393399913148005, 2324260329198940788]
def nmN (g k i : Nat) : Nat := ((x_nm g).getD k []).getD i 0
/-- a byte of a name, as the model computes it -/
def nbI (g k i : Nat) : Int32 := (ptL.getD ((19 * g + k) * 3 + i / 8) 0 >>> ((nI 8 * (nI 7 - (nI i - nI i / nI 8 * nI 8))).toInt64 &&& 63)).toInt32 &&& nI 255
def nmC : List (List (List Nat)) := [[[108, 97, 115, 116], [105, 110, 32, 98, 111, 120], [105, 110, 32, 114, 111, 119], [105, 110, 32, 99, 111, 108, 117, 109, 110], [112, 111, 105, 110, 116, 105, 110, 103], [99, 108, 97, 105, 109, 105, 110, 103], [112, 97, 105, 114], [116, 114, 105, 112, 108, 101], [113, 117, 97, 100], [104, 105, 100, 100, 101, 110, 32, 112, 97, 105, 114], [104, 105, 100, 100, 101, 110, 32, 116, 114, 105, 112, 108, 101], [116, 119, 111, 32, 114, 111, 119, 115], [116, 119, 111, 32, 99, 111, 108, 117, 109, 110, 115], [116, 104, 114, 101, 101, 32, 114, 111, 119, 115], [116, 104, 114, 101, 101, 32, 99, 111, 108, 117, 109, 110, 115], [119, 105, 110, 103], [103, 114, 101, 97, 116, 32, 119, 105, 110, 103], [99, 111, 108, 111, 117, 114, 115], [111, 110, 108, 121, 32, 111, 110, 101, 32, 97, 110, 115, 119, 101, 114]], [[108, 101, 116, 122, 116, 101], [105, 109, 32, 66, 108, 111, 99, 107], [105, 110, 32, 100, 101, 114, 32, 90, 101, 105, 108, 101], [105, 110, 32, 100, 101, 114, 32, 83, 112, 97, 108, 116, 101], [122, 101, 105, 103, 101, 110, 100], [102, 111, 114, 100, 101, 114, 110, 100], [80, 97, 97, 114], [84, 114, 105, 112, 101, 108], [81, 117, 97, 114, 116, 101, 116, 116], [118, 101, 114, 115, 116, 101, 99, 107, 116, 101, 115, 32, 80, 97, 97, 114], [118, 101, 114, 115, 116, 101, 99, 107, 116, 101, 115, 32, 84, 114, 105, 112, 101, 108], [122, 119, 101, 105, 32, 90, 101, 105, 108, 101, 110], [122, 119, 101, 105, 32, 83, 112, 97, 108, 116, 101, 110], [100, 114, 101, 105, 32, 90, 101, 105, 108, 101, 110], [100, 114, 101, 105, 32, 83, 112, 97, 108, 116, 101, 110], [83, 99, 104, 119, 105, 110, 103, 101], [103, 114, 111, 115, 115, 101, 32, 83, 99, 104, 119, 105, 110, 103, 101], [70, 97, 114, 98, 101, 110], [110, 117, 114, 32, 101, 105, 110, 101, 32, 65, 110, 116, 119, 111, 114, 116]]]
theorem nm_C : ∀ g, g < 2 → x_nm g = nmC.getD g [] := by decide +kernel
def nmM (g k i : Nat) : Nat := ((nmC.getD g []).getD k []).getD i 0
theorem nb_ok : ∀ g, g < 2 → ∀ k, k < 19 → ∀ i, i < 24 → nbI g k i = nI (nmM g k i) := by decide +kernel
theorem nm_len : ∀ g, g < 2 → ∀ k, k < 19 → ((nmC.getD g []).getD k []).length < 24 := by decide +kernel
theorem nm_pos : ∀ g, g < 2 → ∀ k, k < 19 → ∀ i, i < ((nmC.getD g []).getD k []).length → nmM g k i ≠ 0 ∧ nmM g k i < 256 := by decide +kernel
theorem i8_19 : (Int8.ofInt 19).toInt32 = nI 19 := by decide
theorem i8_8 : (Int8.ofInt 8).toInt32 = nI 8 := by decide
theorem i8_7 : (Int8.ofInt 7).toInt32 = nI 7 := by decide
theorem i8_24 : (Int8.ofInt 24).toInt32 = nI 24 := by decide
theorem i16_255 : (Int16.ofInt 255).toInt32 = nI 255 := by decide

section PT
variable {sc : Nat × (Nat → Int32)} {f : Nat → x_C} {ms : x_S} {tl : List x_C} {bb : Nat × Nat} {n w h d : Nat} {Q : x_O → x_H → Prop} {rs : Nat → Bool}
theorem r_part {X : x_H} {k : Nat} (hk : k < 114) (hQ : Q (.inl (some (.long (ptL.getD k 0)))) X) : x_run sc x_MM x_EX (d + 1) k_X8_part [.int (nI k)] X Q := by
  refine x_in (M := m_X8_part) rfl rfl (Nat.le_of_ble_eq_true rfl) ⟨rfl, trivial⟩ ?_
  intro P hP
  repeat refine hP _ _ _ _ ?_
  match k, hk with
  | 0, _ =>
    refine b_sw 0 _ (by rw [nI_toInt (by omega)]; rfl) rfl (by decide) ?_
    repeat refine hP _ _ _ _ ?_
    exact hQ
  | 1, _ =>
    refine b_sw 1 _ (by rw [nI_toInt (by omega)]; rfl) rfl (by decide) ?_
    repeat refine hP _ _ _ _ ?_
    exact hQ
  | 2, _ =>
    refine b_sw 2 _ (by rw [nI_toInt (by omega)]; rfl) rfl (by decide) ?_
    repeat refine hP _ _ _ _ ?_
    exact hQ
  | 3, _ =>
    refine b_sw 3 _ (by rw [nI_toInt (by omega)]; rfl) rfl (by decide) ?_
    repeat refine hP _ _ _ _ ?_
    exact hQ
  | 4, _ =>
    refine b_sw 4 _ (by rw [nI_toInt (by omega)]; rfl) rfl (by decide) ?_
    repeat refine hP _ _ _ _ ?_
    exact hQ
  | 5, _ =>
    refine b_sw 5 _ (by rw [nI_toInt (by omega)]; rfl) rfl (by decide) ?_
    repeat refine hP _ _ _ _ ?_
    exact hQ
  | 6, _ =>
    refine b_sw 6 _ (by rw [nI_toInt (by omega)]; rfl) rfl (by decide) ?_
    repeat refine hP _ _ _ _ ?_
    exact hQ
  | 7, _ =>
    refine b_sw 7 _ (by rw [nI_toInt (by omega)]; rfl) rfl (by decide) ?_
    repeat refine hP _ _ _ _ ?_
    exact hQ
  | 8, _ =>
    refine b_sw 8 _ (by rw [nI_toInt (by omega)]; rfl) rfl (by decide) ?_
    repeat refine hP _ _ _ _ ?_
    exact hQ
  | 9, _ =>
    refine b_sw 9 _ (by rw [nI_toInt (by omega)]; rfl) rfl (by decide) ?_
    repeat refine hP _ _ _ _ ?_
    exact hQ
  | 10, _ =>
    refine b_sw 10 _ (by rw [nI_toInt (by omega)]; rfl) rfl (by decide) ?_
    repeat refine hP _ _ _ _ ?_
    exact hQ
  | 11, _ =>
    refine b_sw 11 _ (by rw [nI_toInt (by omega)]; rfl) rfl (by decide) ?_
    repeat refine hP _ _ _ _ ?_
    exact hQ
  | 12, _ =>
    refine b_sw 12 _ (by rw [nI_toInt (by omega)]; rfl) rfl (by decide) ?_
    repeat refine hP _ _ _ _ ?_
    exact hQ
  | 13, _ =>
    refine b_sw 13 _ (by rw [nI_toInt (by omega)]; rfl) rfl (by decide) ?_
    repeat refine hP _ _ _ _ ?_
    exact hQ
  | 14, _ =>
    refine b_sw 14 _ (by rw [nI_toInt (by omega)]; rfl) rfl (by decide) ?_
    repeat refine hP _ _ _ _ ?_
    exact hQ
  | 15, _ =>
    refine b_sw 15 _ (by rw [nI_toInt (by omega)]; rfl) rfl (by decide) ?_
    repeat refine hP _ _ _ _ ?_
    exact hQ
  | 16, _ =>
    refine b_sw 16 _ (by rw [nI_toInt (by omega)]; rfl) rfl (by decide) ?_
    repeat refine hP _ _ _ _ ?_
    exact hQ
  | 17, _ =>
    refine b_sw 17 _ (by rw [nI_toInt (by omega)]; rfl) rfl (by decide) ?_
    repeat refine hP _ _ _ _ ?_
    exact hQ
  | 18, _ =>
    refine b_sw 18 _ (by rw [nI_toInt (by omega)]; rfl) rfl (by decide) ?_
    repeat refine hP _ _ _ _ ?_
    exact hQ
  | 19, _ =>
    refine b_sw 19 _ (by rw [nI_toInt (by omega)]; rfl) rfl (by decide) ?_
    repeat refine hP _ _ _ _ ?_
    exact hQ
  | 20, _ =>
    refine b_sw 20 _ (by rw [nI_toInt (by omega)]; rfl) rfl (by decide) ?_
    repeat refine hP _ _ _ _ ?_
    exact hQ
  | 21, _ =>
    refine b_sw 21 _ (by rw [nI_toInt (by omega)]; rfl) rfl (by decide) ?_
    repeat refine hP _ _ _ _ ?_
    exact hQ
  | 22, _ =>
    refine b_sw 22 _ (by rw [nI_toInt (by omega)]; rfl) rfl (by decide) ?_
    repeat refine hP _ _ _ _ ?_
    exact hQ
  | 23, _ =>
    refine b_sw 23 _ (by rw [nI_toInt (by omega)]; rfl) rfl (by decide) ?_
    repeat refine hP _ _ _ _ ?_
    exact hQ
  | 24, _ =>
    refine b_sw 24 _ (by rw [nI_toInt (by omega)]; rfl) rfl (by decide) ?_
    repeat refine hP _ _ _ _ ?_
    exact hQ
  | 25, _ =>
    refine b_sw 25 _ (by rw [nI_toInt (by omega)]; rfl) rfl (by decide) ?_
    repeat refine hP _ _ _ _ ?_
    exact hQ
  | 26, _ =>
    refine b_sw 26 _ (by rw [nI_toInt (by omega)]; rfl) rfl (by decide) ?_
    repeat refine hP _ _ _ _ ?_
    exact hQ
  | 27, _ =>
    refine b_sw 27 _ (by rw [nI_toInt (by omega)]; rfl) rfl (by decide) ?_
    repeat refine hP _ _ _ _ ?_
    exact hQ
  | 28, _ =>
    refine b_sw 28 _ (by rw [nI_toInt (by omega)]; rfl) rfl (by decide) ?_
    repeat refine hP _ _ _ _ ?_
    exact hQ
  | 29, _ =>
    refine b_sw 29 _ (by rw [nI_toInt (by omega)]; rfl) rfl (by decide) ?_
    repeat refine hP _ _ _ _ ?_
    exact hQ
  | 30, _ =>
    refine b_sw 30 _ (by rw [nI_toInt (by omega)]; rfl) rfl (by decide) ?_
    repeat refine hP _ _ _ _ ?_
    exact hQ
  | 31, _ =>
    refine b_sw 31 _ (by rw [nI_toInt (by omega)]; rfl) rfl (by decide) ?_
    repeat refine hP _ _ _ _ ?_
    exact hQ
  | 32, _ =>
    refine b_sw 32 _ (by rw [nI_toInt (by omega)]; rfl) rfl (by decide) ?_
    repeat refine hP _ _ _ _ ?_
    exact hQ
  | 33, _ =>
    refine b_sw 33 _ (by rw [nI_toInt (by omega)]; rfl) rfl (by decide) ?_
    repeat refine hP _ _ _ _ ?_
    exact hQ
  | 34, _ =>
    refine b_sw 34 _ (by rw [nI_toInt (by omega)]; rfl) rfl (by decide) ?_
    repeat refine hP _ _ _ _ ?_
    exact hQ
  | 35, _ =>
    refine b_sw 35 _ (by rw [nI_toInt (by omega)]; rfl) rfl (by decide) ?_
    repeat refine hP _ _ _ _ ?_
    exact hQ
  | 36, _ =>
    refine b_sw 36 _ (by rw [nI_toInt (by omega)]; rfl) rfl (by decide) ?_
    repeat refine hP _ _ _ _ ?_
    exact hQ
  | 37, _ =>
    refine b_sw 37 _ (by rw [nI_toInt (by omega)]; rfl) rfl (by decide) ?_
    repeat refine hP _ _ _ _ ?_
    exact hQ
  | 38, _ =>
    refine b_sw 38 _ (by rw [nI_toInt (by omega)]; rfl) rfl (by decide) ?_
    repeat refine hP _ _ _ _ ?_
    exact hQ
  | 39, _ =>
    refine b_sw 39 _ (by rw [nI_toInt (by omega)]; rfl) rfl (by decide) ?_
    repeat refine hP _ _ _ _ ?_
    exact hQ
  | 40, _ =>
    refine b_sw 40 _ (by rw [nI_toInt (by omega)]; rfl) rfl (by decide) ?_
    repeat refine hP _ _ _ _ ?_
    exact hQ
  | 41, _ =>
    refine b_sw 41 _ (by rw [nI_toInt (by omega)]; rfl) rfl (by decide) ?_
    repeat refine hP _ _ _ _ ?_
    exact hQ
  | 42, _ =>
    refine b_sw 42 _ (by rw [nI_toInt (by omega)]; rfl) rfl (by decide) ?_
    repeat refine hP _ _ _ _ ?_
    exact hQ
  | 43, _ =>
    refine b_sw 43 _ (by rw [nI_toInt (by omega)]; rfl) rfl (by decide) ?_
    repeat refine hP _ _ _ _ ?_
    exact hQ
  | 44, _ =>
    refine b_sw 44 _ (by rw [nI_toInt (by omega)]; rfl) rfl (by decide) ?_
    repeat refine hP _ _ _ _ ?_
    exact hQ
  | 45, _ =>
    refine b_sw 45 _ (by rw [nI_toInt (by omega)]; rfl) rfl (by decide) ?_
    repeat refine hP _ _ _ _ ?_
    exact hQ
  | 46, _ =>
    refine b_sw 46 _ (by rw [nI_toInt (by omega)]; rfl) rfl (by decide) ?_
    repeat refine hP _ _ _ _ ?_
    exact hQ
  | 47, _ =>
    refine b_sw 47 _ (by rw [nI_toInt (by omega)]; rfl) rfl (by decide) ?_
    repeat refine hP _ _ _ _ ?_
    exact hQ
  | 48, _ =>
    refine b_sw 48 _ (by rw [nI_toInt (by omega)]; rfl) rfl (by decide) ?_
    repeat refine hP _ _ _ _ ?_
    exact hQ
  | 49, _ =>
    refine b_sw 49 _ (by rw [nI_toInt (by omega)]; rfl) rfl (by decide) ?_
    repeat refine hP _ _ _ _ ?_
    exact hQ
  | 50, _ =>
    refine b_sw 50 _ (by rw [nI_toInt (by omega)]; rfl) rfl (by decide) ?_
    repeat refine hP _ _ _ _ ?_
    exact hQ
  | 51, _ =>
    refine b_sw 51 _ (by rw [nI_toInt (by omega)]; rfl) rfl (by decide) ?_
    repeat refine hP _ _ _ _ ?_
    exact hQ
  | 52, _ =>
    refine b_sw 52 _ (by rw [nI_toInt (by omega)]; rfl) rfl (by decide) ?_
    repeat refine hP _ _ _ _ ?_
    exact hQ
  | 53, _ =>
    refine b_sw 53 _ (by rw [nI_toInt (by omega)]; rfl) rfl (by decide) ?_
    repeat refine hP _ _ _ _ ?_
    exact hQ
  | 54, _ =>
    refine b_sw 54 _ (by rw [nI_toInt (by omega)]; rfl) rfl (by decide) ?_
    repeat refine hP _ _ _ _ ?_
    exact hQ
  | 55, _ =>
    refine b_sw 55 _ (by rw [nI_toInt (by omega)]; rfl) rfl (by decide) ?_
    repeat refine hP _ _ _ _ ?_
    exact hQ
  | 56, _ =>
    refine b_sw 56 _ (by rw [nI_toInt (by omega)]; rfl) rfl (by decide) ?_
    repeat refine hP _ _ _ _ ?_
    exact hQ
  | 57, _ =>
    refine b_sw 57 _ (by rw [nI_toInt (by omega)]; rfl) rfl (by decide) ?_
    repeat refine hP _ _ _ _ ?_
    exact hQ
  | 58, _ =>
    refine b_sw 58 _ (by rw [nI_toInt (by omega)]; rfl) rfl (by decide) ?_
    repeat refine hP _ _ _ _ ?_
    exact hQ
  | 59, _ =>
    refine b_sw 59 _ (by rw [nI_toInt (by omega)]; rfl) rfl (by decide) ?_
    repeat refine hP _ _ _ _ ?_
    exact hQ
  | 60, _ =>
    refine b_sw 60 _ (by rw [nI_toInt (by omega)]; rfl) rfl (by decide) ?_
    repeat refine hP _ _ _ _ ?_
    exact hQ
  | 61, _ =>
    refine b_sw 61 _ (by rw [nI_toInt (by omega)]; rfl) rfl (by decide) ?_
    repeat refine hP _ _ _ _ ?_
    exact hQ
  | 62, _ =>
    refine b_sw 62 _ (by rw [nI_toInt (by omega)]; rfl) rfl (by decide) ?_
    repeat refine hP _ _ _ _ ?_
    exact hQ
  | 63, _ =>
    refine b_sw 63 _ (by rw [nI_toInt (by omega)]; rfl) rfl (by decide) ?_
    repeat refine hP _ _ _ _ ?_
    exact hQ
  | 64, _ =>
    refine b_sw 64 _ (by rw [nI_toInt (by omega)]; rfl) rfl (by decide) ?_
    repeat refine hP _ _ _ _ ?_
    exact hQ
  | 65, _ =>
    refine b_sw 65 _ (by rw [nI_toInt (by omega)]; rfl) rfl (by decide) ?_
    repeat refine hP _ _ _ _ ?_
    exact hQ
  | 66, _ =>
    refine b_sw 66 _ (by rw [nI_toInt (by omega)]; rfl) rfl (by decide) ?_
    repeat refine hP _ _ _ _ ?_
    exact hQ
  | 67, _ =>
    refine b_sw 67 _ (by rw [nI_toInt (by omega)]; rfl) rfl (by decide) ?_
    repeat refine hP _ _ _ _ ?_
    exact hQ
  | 68, _ =>
    refine b_sw 68 _ (by rw [nI_toInt (by omega)]; rfl) rfl (by decide) ?_
    repeat refine hP _ _ _ _ ?_
    exact hQ
  | 69, _ =>
    refine b_sw 69 _ (by rw [nI_toInt (by omega)]; rfl) rfl (by decide) ?_
    repeat refine hP _ _ _ _ ?_
    exact hQ
  | 70, _ =>
    refine b_sw 70 _ (by rw [nI_toInt (by omega)]; rfl) rfl (by decide) ?_
    repeat refine hP _ _ _ _ ?_
    exact hQ
  | 71, _ =>
    refine b_sw 71 _ (by rw [nI_toInt (by omega)]; rfl) rfl (by decide) ?_
    repeat refine hP _ _ _ _ ?_
    exact hQ
  | 72, _ =>
    refine b_sw 72 _ (by rw [nI_toInt (by omega)]; rfl) rfl (by decide) ?_
    repeat refine hP _ _ _ _ ?_
    exact hQ
  | 73, _ =>
    refine b_sw 73 _ (by rw [nI_toInt (by omega)]; rfl) rfl (by decide) ?_
    repeat refine hP _ _ _ _ ?_
    exact hQ
  | 74, _ =>
    refine b_sw 74 _ (by rw [nI_toInt (by omega)]; rfl) rfl (by decide) ?_
    repeat refine hP _ _ _ _ ?_
    exact hQ
  | 75, _ =>
    refine b_sw 75 _ (by rw [nI_toInt (by omega)]; rfl) rfl (by decide) ?_
    repeat refine hP _ _ _ _ ?_
    exact hQ
  | 76, _ =>
    refine b_sw 76 _ (by rw [nI_toInt (by omega)]; rfl) rfl (by decide) ?_
    repeat refine hP _ _ _ _ ?_
    exact hQ
  | 77, _ =>
    refine b_sw 77 _ (by rw [nI_toInt (by omega)]; rfl) rfl (by decide) ?_
    repeat refine hP _ _ _ _ ?_
    exact hQ
  | 78, _ =>
    refine b_sw 78 _ (by rw [nI_toInt (by omega)]; rfl) rfl (by decide) ?_
    repeat refine hP _ _ _ _ ?_
    exact hQ
  | 79, _ =>
    refine b_sw 79 _ (by rw [nI_toInt (by omega)]; rfl) rfl (by decide) ?_
    repeat refine hP _ _ _ _ ?_
    exact hQ
  | 80, _ =>
    refine b_sw 80 _ (by rw [nI_toInt (by omega)]; rfl) rfl (by decide) ?_
    repeat refine hP _ _ _ _ ?_
    exact hQ
  | 81, _ =>
    refine b_sw 81 _ (by rw [nI_toInt (by omega)]; rfl) rfl (by decide) ?_
    repeat refine hP _ _ _ _ ?_
    exact hQ
  | 82, _ =>
    refine b_sw 82 _ (by rw [nI_toInt (by omega)]; rfl) rfl (by decide) ?_
    repeat refine hP _ _ _ _ ?_
    exact hQ
  | 83, _ =>
    refine b_sw 83 _ (by rw [nI_toInt (by omega)]; rfl) rfl (by decide) ?_
    repeat refine hP _ _ _ _ ?_
    exact hQ
  | 84, _ =>
    refine b_sw 84 _ (by rw [nI_toInt (by omega)]; rfl) rfl (by decide) ?_
    repeat refine hP _ _ _ _ ?_
    exact hQ
  | 85, _ =>
    refine b_sw 85 _ (by rw [nI_toInt (by omega)]; rfl) rfl (by decide) ?_
    repeat refine hP _ _ _ _ ?_
    exact hQ
  | 86, _ =>
    refine b_sw 86 _ (by rw [nI_toInt (by omega)]; rfl) rfl (by decide) ?_
    repeat refine hP _ _ _ _ ?_
    exact hQ
  | 87, _ =>
    refine b_sw 87 _ (by rw [nI_toInt (by omega)]; rfl) rfl (by decide) ?_
    repeat refine hP _ _ _ _ ?_
    exact hQ
  | 88, _ =>
    refine b_sw 88 _ (by rw [nI_toInt (by omega)]; rfl) rfl (by decide) ?_
    repeat refine hP _ _ _ _ ?_
    exact hQ
  | 89, _ =>
    refine b_sw 89 _ (by rw [nI_toInt (by omega)]; rfl) rfl (by decide) ?_
    repeat refine hP _ _ _ _ ?_
    exact hQ
  | 90, _ =>
    refine b_sw 90 _ (by rw [nI_toInt (by omega)]; rfl) rfl (by decide) ?_
    repeat refine hP _ _ _ _ ?_
    exact hQ
  | 91, _ =>
    refine b_sw 91 _ (by rw [nI_toInt (by omega)]; rfl) rfl (by decide) ?_
    repeat refine hP _ _ _ _ ?_
    exact hQ
  | 92, _ =>
    refine b_sw 92 _ (by rw [nI_toInt (by omega)]; rfl) rfl (by decide) ?_
    repeat refine hP _ _ _ _ ?_
    exact hQ
  | 93, _ =>
    refine b_sw 93 _ (by rw [nI_toInt (by omega)]; rfl) rfl (by decide) ?_
    repeat refine hP _ _ _ _ ?_
    exact hQ
  | 94, _ =>
    refine b_sw 94 _ (by rw [nI_toInt (by omega)]; rfl) rfl (by decide) ?_
    repeat refine hP _ _ _ _ ?_
    exact hQ
  | 95, _ =>
    refine b_sw 95 _ (by rw [nI_toInt (by omega)]; rfl) rfl (by decide) ?_
    repeat refine hP _ _ _ _ ?_
    exact hQ
  | 96, _ =>
    refine b_sw 96 _ (by rw [nI_toInt (by omega)]; rfl) rfl (by decide) ?_
    repeat refine hP _ _ _ _ ?_
    exact hQ
  | 97, _ =>
    refine b_sw 97 _ (by rw [nI_toInt (by omega)]; rfl) rfl (by decide) ?_
    repeat refine hP _ _ _ _ ?_
    exact hQ
  | 98, _ =>
    refine b_sw 98 _ (by rw [nI_toInt (by omega)]; rfl) rfl (by decide) ?_
    repeat refine hP _ _ _ _ ?_
    exact hQ
  | 99, _ =>
    refine b_sw 99 _ (by rw [nI_toInt (by omega)]; rfl) rfl (by decide) ?_
    repeat refine hP _ _ _ _ ?_
    exact hQ
  | 100, _ =>
    refine b_sw 100 _ (by rw [nI_toInt (by omega)]; rfl) rfl (by decide) ?_
    repeat refine hP _ _ _ _ ?_
    exact hQ
  | 101, _ =>
    refine b_sw 101 _ (by rw [nI_toInt (by omega)]; rfl) rfl (by decide) ?_
    repeat refine hP _ _ _ _ ?_
    exact hQ
  | 102, _ =>
    refine b_sw 102 _ (by rw [nI_toInt (by omega)]; rfl) rfl (by decide) ?_
    repeat refine hP _ _ _ _ ?_
    exact hQ
  | 103, _ =>
    refine b_sw 103 _ (by rw [nI_toInt (by omega)]; rfl) rfl (by decide) ?_
    repeat refine hP _ _ _ _ ?_
    exact hQ
  | 104, _ =>
    refine b_sw 104 _ (by rw [nI_toInt (by omega)]; rfl) rfl (by decide) ?_
    repeat refine hP _ _ _ _ ?_
    exact hQ
  | 105, _ =>
    refine b_sw 105 _ (by rw [nI_toInt (by omega)]; rfl) rfl (by decide) ?_
    repeat refine hP _ _ _ _ ?_
    exact hQ
  | 106, _ =>
    refine b_sw 106 _ (by rw [nI_toInt (by omega)]; rfl) rfl (by decide) ?_
    repeat refine hP _ _ _ _ ?_
    exact hQ
  | 107, _ =>
    refine b_sw 107 _ (by rw [nI_toInt (by omega)]; rfl) rfl (by decide) ?_
    repeat refine hP _ _ _ _ ?_
    exact hQ
  | 108, _ =>
    refine b_sw 108 _ (by rw [nI_toInt (by omega)]; rfl) rfl (by decide) ?_
    repeat refine hP _ _ _ _ ?_
    exact hQ
  | 109, _ =>
    refine b_sw 109 _ (by rw [nI_toInt (by omega)]; rfl) rfl (by decide) ?_
    repeat refine hP _ _ _ _ ?_
    exact hQ
  | 110, _ =>
    refine b_sw 110 _ (by rw [nI_toInt (by omega)]; rfl) rfl (by decide) ?_
    repeat refine hP _ _ _ _ ?_
    exact hQ
  | 111, _ =>
    refine b_sw 111 _ (by rw [nI_toInt (by omega)]; rfl) rfl (by decide) ?_
    repeat refine hP _ _ _ _ ?_
    exact hQ
  | 112, _ =>
    refine b_sw 112 _ (by rw [nI_toInt (by omega)]; rfl) rfl (by decide) ?_
    repeat refine hP _ _ _ _ ?_
    exact hQ
  | 113, _ =>
    refine b_swd (Or.inr (by rw [nI_toInt (by omega)]; decide)) rfl ?_
    repeat refine hP _ _ _ _ ?_
    exact hQ
  | k9 + 114, hk9 => exact absurd hk9 (by omega)
def nmT (g k : Nat) : List Nat := (nmC.getD g []).getD k []
theorem nmM_0 {g k i : Nat} (hi : (nmT g k).length ≤ i) : nmM g k i = 0 := by
  show (nmT g k).getD i 0 = 0
  rw [List.getD_eq_getElem?_getD, List.getElem?_eq_none hi]; rfl
theorem nmM_lt {g k i : Nat} (hg : g < 2) (hk : k < 19) : nmM g k i < 256 := by
  by_cases hi : i < (nmT g k).length
  · exact (nm_pos g hg k hk i hi).2
  · rw [nmM_0 (by omega)]; omega
theorem r_nameByte {X : x_H} {g k i : Nat} (hg : g < 2) (hk : k < 19) (hi : i < 2 ^ 31) (hQ : Q (.inl (some (.int (nI (nmM g k i))))) X) : x_run sc x_MM x_EX (d + 2) k_X8_nameByte [.int (nI g), .int (nI k), .int (nI i)] X Q := by
  refine x_in (M := m_X8_nameByte) rfl rfl (Nat.le_of_ble_eq_true rfl) ⟨rfl, rfl, rfl, trivial⟩ ?_
  intro P hP
  repeat refine hP _ _ _ _ ?_
  refine b_ge (i) (24) (fun h24 => ?_) (fun h24 => ?_) (rfl) (i8_24) (by omega) (by omega)
  · skip
    repeat refine hP _ _ _ _ ?_
    refine x_q1 hQ ?_
    rw [nmM_0 (by have := nm_len g hg k hk; show ((nmC.getD g []).getD k []).length ≤ i; omega)]
    rfl
  · skip
    repeat refine hP _ _ _ _ ?_
    refine And.intro (by decide) ?_
    repeat refine hP _ _ _ _ ?_
    refine x_rX (r_part (k := (19 * g + k) * 3 + i / 8) (by omega) ?_) (by
      rw [i8_19, i8_8, oi3, pk_mul, nI_add, pk_mul, pk_div (by omega) (by omega) (by omega), nI_add]
      rfl) rfl
    repeat refine hP _ _ _ _ ?_
    refine And.intro (by decide) ?_
    repeat refine hP _ _ _ _ ?_
    refine x_q1 hQ ?_
    rw [← nb_ok g hg k hk i h24]
    rfl
/-- a letter of a cell's name -/
def ltI (n c j : Nat) : Int32 := if j = 0 then 32 else if j = 1 then 114 else if j = 2 then nI (49 + c / n) else if j = 3 then 99 else nI (49 + c % n)
def wdI (n : Nat) (t L : List Nat) (j : Nat) : Int32 := if j < t.length then nI (t.getD j 0) else match L[(j - t.length) / 5]? with
  | none => -1
  | some c => ltI n c ((j - t.length) % 5)
theorem b_le0 {A B : Prop} (v : Nat) {x : Int32} (hx : x = nI v) (hv : v < 2 ^ 31) (f : v = 0 → A) (g : v ≠ 0 → B) : (x_ic .le x 0 → A) ∧ (¬ x_ic .le x 0 → B) := by
  subst hx
  have e : nI v ≤ 0 ↔ v ≤ 0 := by rw [z0]; exact nI_leI hv (by omega)
  exact ⟨fun h => f (by have := e.mp h; omega), fun h => g (fun h0 => h (e.mpr (by omega)))⟩
theorem i32_nn {x : Int32} (h : ¬ x < 0) : ∃ k, k < 2 ^ 31 ∧ x = nI k := by
  rw [i32_neg] at h
  have h1 := Int32.toInt_lt x
  refine ⟨x.toNatClampNeg, ?_, ?_⟩
  · have : (x.toNatClampNeg : Int) = x.toInt := by show ((x.toInt.toNat : Nat) : Int) = _; omega
    omega
  · apply Int32.toInt_inj.1
    have : (x.toNatClampNeg : Int) = x.toInt := by show ((x.toInt.toNat : Nat) : Int) = _; omega
    rw [nI_toInt (by omega), this]
theorem r_words (hG : gM ms n w h) (hS : ms.1 8 = -1 ∨ ∃ k, k < 19 ∧ ms.1 8 = nI k) (hR : ms.1 8 ≠ -1 → rM ms rs) {lg x : Int32} (hN : (ms.1 8 = -1 ∨ lg < 0 ∨ 1 < lg ∨ x < 0) → Q (.inl (some (.int (-1)))) (w_M f (sF ms 0 0) tl bb)) (hT : ∀ k g j, k < 19 → ms.1 8 = nI k → g < 2 → lg = nI g → j < 2 ^ 31 → x = nI j → Q (.inl (some (.int (wdI n (nmT g k) (rsL rs 81) j)))) (w_M f (sF ms 0 0) tl bb)) : x_run sc x_MM x_EX (d + 3) k_X8_words [.ref 26, .int lg, .int x] (w_M f ms tl bb) Q := by
  obtain ⟨g1, g2, g3, g4, g5, g6, g7, g8⟩ := hG.2.2.2.le
  have e1 : ¬ ms.1 1 = 0 := by rw [hG.1]; exact nI_ne0 (by omega) (by omega)
  refine x_in (M := m_X8_words) rfl rfl (Nat.le_of_ble_eq_true rfl) ⟨rfl, rfl, rfl, trivial⟩ ?_
  intro P hP
  have no : (ms.1 8 = -1 ∨ lg < 0 ∨ 1 < lg ∨ x < 0) → P 25 [some (.ref 26), some (.int lg), some (.int x), none, none, none] [] (w_M f (sF ms 0 0) tl bb) := by
    intro h9
    repeat refine hP _ _ _ _ ?_
    exact hN h9
  rcases hS with hS | ⟨k, hk, hS⟩
  · repeat refine hP _ _ _ _ ?_
    refine And.intro (fun _ => no (Or.inl hS)) (fun h9 => absurd (show ms.1 8 < 0 by rw [hS]; decide) h9)
  · have hne : ms.1 8 ≠ -1 := by
      rw [hS]
      intro e
      have := nI_pos (n := k) (by omega)
      rw [e] at this
      exact this (by decide)
    have hR := hR hne
    have hR5 : rM (sF ms 0 0) rs := hR
    repeat refine hP _ _ _ _ ?_
    refine And.intro (fun h9 => absurd (show ms.1 8 < 0 from h9) (by rw [hS]; exact nI_pos (by omega))) (fun _ => ?_)
    repeat refine hP _ _ _ _ ?_
    refine And.intro (fun h9 => no (Or.inr (Or.inl h9))) (fun hl0 => ?_)
    repeat refine hP _ _ _ _ ?_
    refine And.intro (fun h9 => no (Or.inr (Or.inr (Or.inl h9)))) (fun hl1 => ?_)
    repeat refine hP _ _ _ _ ?_
    refine And.intro (fun hx0 => ?_) (fun h9 => no (Or.inr (Or.inr (Or.inr (Int32.not_le.mp h9)))))
    obtain ⟨g, hg31, rfl⟩ := i32_nn (show ¬ lg < 0 from hl0)
    obtain ⟨j, hj, rfl⟩ := i32_nn (show ¬ x < 0 from Int32.not_lt.mpr hx0)
    have hg : g < 2 := by
      have hl1 : ¬ (nI 1 < nI g) := hl1
      rw [nI_ltI (by omega) hg31] at hl1
      omega
    have hT := hT k g j hk hS hg rfl hj rfl
    repeat refine hP _ _ _ _ ?_
    have key : ∀ i, i < 2 ^ 31 → ∀ {Q' : x_O → x_H → Prop}, Q' (.inl (some (.int (nI (nmM g k i))))) ((w_M f (sF ms 0 0) tl bb).1, 0, 0) → x_run sc x_MM x_EX (d + 2) k_X8_nameByte [.int (nI g), .int (ms.1 8), .int (nI i)] ((w_M f (sF ms 0 0) tl bb).1, 0, 0) Q' := fun i hi Q' hq => x_rX (r_nameByte hg hk hi hq) (by rw [hS]) rfl
    refine key j hj ?_
    repeat refine hP _ _ _ _ ?_
    refine b_le0 (nmM g k j) rfl (by have := nmM_lt (i := j) hg hk; omega) (fun hz => ?_) (fun hz => ?_)
    · have hlen : (nmT g k).length ≤ j := Nat.le_of_not_lt fun h9 => (nm_pos g hg k hk j h9).1 hz
      have hl24 := nm_len g hg k hk
      have hl24 : (nmT g k).length < 24 := hl24
      have hT2 : wdI n (nmT g k) (rsL rs 81) j = match (rsL rs 81)[(j - (nmT g k).length) / 5]? with
        | none => -1
        | some c => ltI n c ((j - (nmT g k).length) % 5) := by unfold wdI; rw [if_neg (by omega)]
      rw [hT2] at hT
      generalize hM : (nmT g k).length = M at hlen hl24 hT
      have loop : ∀ m, m ≤ M → P 46 [some (.ref 26), some (.int (nI g)), some (.int (nI j)), some (.int (nI (nmM g k j))), some (.int (nI m)), none] [] (w_M f (sF ms 0 0) tl bb) := by
        refine x_lp M (fun m hm ih => ?_)
        repeat refine hP _ _ _ _ ?_
        refine key m (by omega) ?_
        repeat refine hP _ _ _ _ ?_
        refine b_le0 (nmM g k m) rfl (by have := nmM_lt (i := m) hg hk; omega) (fun hz2 => ?_) (fun hz2 => ?_)
        · have em : m = M := by
            by_cases hmm : m < M
            · exact absurd hz2 (nm_pos g hg k hk m (by show m < (nmT g k).length; omega)).1
            · omega
          subst em
          have ediv : (nI j - nI m) / Int32.ofInt 5 = nI ((j - m) / 5) := by rw [oi5, pk_sub hlen, pk_div (by omega) (by omega) (by omega)]
          have erem : (nI j - nI m) - (nI j - nI m) / Int32.ofInt 5 * Int32.ofInt 5 = nI ((j - m) % 5) := by rw [oi5, pk_sub hlen, pk_rem (by omega) (by omega) (by omega)]
          repeat refine hP _ _ _ _ ?_
          refine And.intro (by decide) ?_
          repeat refine hP _ _ _ _ ?_
          refine r_reasonAt hR5 (fun c hc hrc hxc => ?_) (fun hno => ?_)
          · rw [ediv, nI_eq (by omega) (by have := rcN_le rs c; omega)] at hxc
            rw [hxc, rsL_at hc hrc] at hT
            have hT : Q (.inl (some (.int (ltI n c ((j - m) % 5))))) (w_M f (sF ms 0 0) tl bb) := hT
            repeat refine hP _ _ _ _ ?_
            refine And.intro (fun _ => ?_) (fun h9 => absurd (show (0 : Int32) ≤ nI c from nI_pos' (by omega)) h9)
            repeat refine hP _ _ _ _ ?_
            refine And.intro (by decide) ?_
            repeat refine hP _ _ _ _ ?_
            have hr5 : (j - m) % 5 < 5 := Nat.mod_lt _ (by decide)
            generalize (j - m) % 5 = r5 at erem hT hr5
            match r5, hr5 with
            | 0, _ =>
              refine b_sw 0 _ (by rw [erem]; rfl) rfl (by decide) ?_
              repeat refine hP _ _ _ _ ?_
              exact hT
            | 1, _ =>
              refine b_sw 1 _ (by rw [erem]; rfl) rfl (by decide) ?_
              repeat refine hP _ _ _ _ ?_
              exact hT
            | 2, _ =>
              refine b_sw 2 _ (by rw [erem]; rfl) rfl (by decide) ?_
              repeat refine hP _ _ _ _ ?_
              refine And.intro e1 ?_
              repeat refine hP _ _ _ _ ?_
              refine x_q1 hT ?_
              show nI (49 + c / n) = nI 49 + nI c / ms.1 1
              rw [hG.1, pk_div (by omega) (by omega) (by omega), nI_add]
            | 3, _ =>
              refine b_sw 3 _ (by rw [erem]; rfl) rfl (by decide) ?_
              repeat refine hP _ _ _ _ ?_
              exact hT
            | 4, _ =>
              refine b_swd (Or.inr (by rw [erem]; decide)) rfl ?_
              repeat refine hP _ _ _ _ ?_
              refine And.intro e1 ?_
              repeat refine hP _ _ _ _ ?_
              refine x_q1 hT ?_
              show nI (49 + c % n) = nI 49 + (nI c - nI c / ms.1 1 * ms.1 1)
              rw [hG.1, pk_rem (by omega) (by omega) (by omega), nI_add]
          · have hT : Q (.inl (some (.int (-1)))) (w_M f (sF ms 0 0) tl bb) := by
              cases hq : (rsL rs 81)[(j - m) / 5]? with
              | none => rw [hq] at hT; exact hT
              | some c =>
                obtain ⟨h1, h2, h3⟩ := rsL_idx hq
                exact absurd (by rw [ediv, h3]) (hno c h1 h2)
            repeat refine hP _ _ _ _ ?_
            refine And.intro (fun h9 => absurd (show (0 : Int32) ≤ -1 from h9) (by decide)) (fun _ => ?_)
            repeat refine hP _ _ _ _ ?_
            exact hT
        · have hmm : m < M := by
            by_cases hmm : m < M
            · exact hmm
            · exact absurd (nmM_0 (by show (nmT g k).length ≤ m; omega)) hz2
          have ih := ih hmm
          iterate 2 refine hP _ _ _ _ ?_
          refine x_p4 (P := P) (ih) ?_ rfl ?_ <;> try (first | rfl | (rw [nI_succ]; rfl))
      iterate 2 refine hP _ _ _ _ ?_
      refine x_p4 (P := P) (loop 0 (by omega)) ?_ rfl ?_ <;> try (first | rfl | (rw [nI_succ]; rfl))
    · have hlen : j < (nmT g k).length := Nat.lt_of_not_le fun h9 => hz (nmM_0 h9)
      repeat refine hP _ _ _ _ ?_
      refine x_q1 hT ?_
      unfold wdI
      rw [if_pos hlen]
      rfl
end PT
