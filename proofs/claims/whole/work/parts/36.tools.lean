/-! ===== walking: branches over numbers, loops ===== -/
theorem x_lp {R : Nat → Prop} (n : Nat) (hs : ∀ k, k ≤ n → (k < n → R (k + 1)) → R k) : ∀ k, k ≤ n → R k := by
  have h : ∀ j k, k + j = n → R k := by
    intro j
    induction j with
    | zero => exact fun k hk => hs k (by omega) (fun h => by omega)
    | succ j ih => exact fun k hk => hs k (by omega) (fun _ => ih (k + 1) (by omega))
  exact fun k hk => h (n - k) k (by omega)
section B
variable {x y : Int32} {A B : Prop}
theorem b_ge (a b : Nat) (f : b ≤ a → A) (g : a < b → B) (hx : x = nI a) (hy : y = nI b) (ha : a < 2 ^ 31) (hb : b < 2 ^ 31) : (x_ic .ge x y → A) ∧ (¬ x_ic .ge x y → B) := by
  subst hx; subst hy
  exact ⟨fun h => f ((nI_leI hb ha).mp h), fun h => g (Nat.lt_of_not_le fun h2 => h ((nI_leI hb ha).mpr h2))⟩
theorem b_le (a b : Nat) (f : a ≤ b → A) (g : b < a → B) (hx : x = nI a) (hy : y = nI b) (ha : a < 2 ^ 31) (hb : b < 2 ^ 31) : (x_ic .le x y → A) ∧ (¬ x_ic .le x y → B) := by
  subst hx; subst hy
  exact ⟨fun h => f ((nI_leI ha hb).mp h), fun h => g (Nat.lt_of_not_le fun h2 => h ((nI_leI ha hb).mpr h2))⟩
theorem b_lt (a b : Nat) (f : a < b → A) (g : b ≤ a → B) (hx : x = nI a) (hy : y = nI b) (ha : a < 2 ^ 31) (hb : b < 2 ^ 31) : (x_ic .lt x y → A) ∧ (¬ x_ic .lt x y → B) := by
  subst hx; subst hy
  exact ⟨fun h => f ((nI_ltI ha hb).mp h), fun h => g (Nat.le_of_not_lt fun h2 => h ((nI_ltI ha hb).mpr h2))⟩
theorem b_gt (a b : Nat) (f : b < a → A) (g : a ≤ b → B) (hx : x = nI a) (hy : y = nI b) (ha : a < 2 ^ 31) (hb : b < 2 ^ 31) : (x_ic .gt x y → A) ∧ (¬ x_ic .gt x y → B) := by
  subst hx; subst hy
  exact ⟨fun h => f ((nI_ltI hb ha).mp h), fun h => g (Nat.le_of_not_lt fun h2 => h ((nI_ltI hb ha).mpr h2))⟩
theorem b_eq (a b : Nat) (f : a = b → A) (g : a ≠ b → B) (hx : x = nI a) (hy : y = nI b) (ha : a < 2 ^ 31) (hb : b < 2 ^ 31) : (x_ic .eq x y → A) ∧ (¬ x_ic .eq x y → B) := by
  subst hx; subst hy
  exact ⟨fun h => f ((nI_eq ha hb).mp h), fun h => g fun h2 => h ((nI_eq ha hb).mpr h2)⟩
theorem b_ne (a b : Nat) (f : a ≠ b → A) (g : a = b → B) (hx : x = nI a) (hy : y = nI b) (ha : a < 2 ^ 31) (hb : b < 2 ^ 31) : (x_ic .ne x y → A) ∧ (¬ x_ic .ne x y → B) := by
  subst hx; subst hy
  exact ⟨fun h => f fun h2 => h ((nI_eq ha hb).mpr h2), fun h => g ((nI_eq ha hb).mp (Decidable.of_not_not h))⟩
theorem b_ifeq {b : Bool} (f : b = false → A) (g : b = true → B) (hx : x = bI b) : (x_ic .eq x 0 → A) ∧ (¬ x_ic .eq x 0 → B) := by
  subst hx
  exact ⟨fun h => f (bI_t.mp h), fun h => g (bI_n0 h)⟩
theorem b_ifne {b : Bool} (f : b = true → A) (g : b = false → B) (hx : x = bI b) : (x_ic .ne x 0 → A) ∧ (¬ x_ic .ne x 0 → B) := by
  subst hx
  exact ⟨fun h => f (bI_n0 h), fun h => g (bI_t.mp (Decidable.of_not_not h))⟩
theorem b_vge {o : Option Nat} (f : o ≠ none → A) (g : o = none → B) (hx : x = vI o) (ho : ∀ s, o = some s → s < 2 ^ 31) : (x_ic .ge x 0 → A) ∧ (¬ x_ic .ge x 0 → B) := by
  subst hx
  exact ⟨fun h => f ((vI_neg ho).mp h), fun h => g (Decidable.of_not_not fun h2 => h ((vI_neg ho).mpr h2))⟩
theorem b_vlt {o : Option Nat} (f : o = none → A) (g : o ≠ none → B) (hx : x = vI o) (ho : ∀ s, o = some s → s < 2 ^ 31) : (x_ic .lt x 0 → A) ∧ (¬ x_ic .lt x 0 → B) := by
  subst hx
  have e : vI o < 0 ↔ ¬ 0 ≤ vI o := by rw [Int32.not_le]
  exact ⟨fun h => f (Decidable.of_not_not fun h2 => (e.mp h) ((vI_neg ho).mpr h2)), fun h => g fun h2 => h (e.mpr fun h3 => (vI_neg ho).mp h3 h2)⟩
end B
theorem ldv {f : Nat → Int32} {i : Nat} {v : Int32} (h : f i = v) (hi : i < 2 ^ 31) : f (nI i).toNatClampNeg = v := by rw [nI_clamp hi]; exact h
theorem upv {f : Nat → Int32} {i : Nat} {v : Int32} (hi : i < 2 ^ 31) : upd f (nI i).toNatClampNeg v = upd f i v := by rw [nI_clamp hi]
theorem sh1 {s : Nat} (hs : s < 10) : Int32.ofInt 1 <<< (nI s &&& 31) = nI (2 ^ s) := by
  rw [oi1, nI_shl (by omega), Nat.one_mul]
  have : 2 ^ s ≤ 2 ^ 9 := Nat.pow_le_pow_right (by omega) (by omega)
  omega
theorem bit1 {b s : Nat} (hb : b < 512) (hs : s < 32) : (nI b >>> (nI s &&& 31)) &&& Int32.ofInt 1 = bI (b.testBit s) := by
  rw [oi1, nI_bit (by omega) hs]
  unfold tbN bI
  split <;> rfl
/-- a number or -1, from 0 on and from 1 on -/
def iM : Nat → Int32
  | 0 => -1
  | i + 1 => nI i
theorem iM_1 (k : Nat) : nI k - Int32.ofInt 1 = iM k := by
  cases k with
  | zero => decide
  | succ k => rw [show Int32.ofInt 1 = 1 from rfl, nI_pred]; rfl
theorem iM_s (k : Nat) : iM (k + 1) + Int32.ofInt (-1) = iM k := by
  cases k with
  | zero => decide
  | succ k => show nI (k + 1) + (-1) = nI k; exact pk_m1 k
theorem b_iM {A B : Prop} (k : Nat) {x : Int32} (hk : k < 2 ^ 31) (hx : x = iM k) (f : k = 0 → A) (g : k ≠ 0 → B) : (x_ic .lt x 0 → A) ∧ (¬ x_ic .lt x 0 → B) := by
  subst hx
  cases k with
  | zero => exact ⟨fun _ => f rfl, fun h => absurd (show (-1 : Int32) < 0 by decide) h⟩
  | succ k => exact ⟨fun h => absurd h (nI_pos (by omega)), fun _ => g (by omega)⟩
theorem b_iMg {A B : Prop} (k : Nat) {x : Int32} (hk : k < 2 ^ 31) (hx : x = iM k) (f : k ≠ 0 → A) (g : k = 0 → B) : (x_ic .ge x 0 → A) ∧ (¬ x_ic .ge x 0 → B) := by
  subst hx
  cases k with
  | zero => exact ⟨fun h => absurd h (show ¬ (0 : Int32) ≤ -1 by decide), fun _ => g rfl⟩
  | succ k => exact ⟨fun _ => f (by omega), fun h => absurd (nI_pos' (by omega)) h⟩
