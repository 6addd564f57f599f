/-! ===== the small machine's heap in the great one ===== -/
def x_T : List Cond := lw_tbl.filter goodWord
theorem x_T_good {w : Cond} (h : w ∈ x_T) : goodWord w = true := (List.mem_filter.mp h).2
theorem x_T_in {big : List Cond} (hb : ∀ w ∈ x_T, w ∈ big) {ws : List Cond} (h : ∀ w ∈ ws, w ∈ x_T) : GoodIn big ws := fun w hw => ⟨hb w (h w hw), good_of_word (x_T_good (h w hw))⟩
def x_rv (ad : Nat → Nat) (v : Value) : Value := match v with
  | .ref k => .ref (ad k)
  | v => v
theorem x_rv_cat (ad : Nat → Nat) (v : Value) : (x_rv ad v).category = v.category := by cases v <;> rfl
/-- the places below n, and the script's, keep their addresses -/
def x_agr (n : Nat) (ad ad' : Nat → Nat) : Prop := (∀ k, k < n → ad' k = ad k) ∧ ad' x_SP = ad x_SP
theorem x_rv_ok {ad ad' : Nat → Nat} {n : Nat} (h : x_agr n ad ad') {v : Value} (hv : x_vok n v) : x_rv ad' v = x_rv ad v := by
  cases v with
  | ref k =>
    rcases hv with hv | rfl
    · exact congrArg Value.ref (h.1 k hv)
    · exact congrArg Value.ref h.2
  | _ => rfl
def x_cz (ad : Nat → Nat) (cO : FieldType → ClassId) (c : x_C) : va_E := match c with
  | .inl (ty, a) => .inl (cO ty, a)
  | .inr (ci, fs) => .inr (ci, fs.map (x_rv ad))
def x_wk (ad : Nat → Nat) (cO : FieldType → ClassId) : Nat → List x_C → va_W
  | _, [] => []
  | k, c :: X => (ad k, x_cz ad cO c) :: x_wk ad cO (k + 1) X
theorem x_wk_at (ad : Nat → Nat) (cO : FieldType → ClassId) : ∀ (k : Nat) (X : List x_C) (i : Nat), (x_wk ad cO k X)[i]? = X[i]?.map (fun c => (ad (k + i), x_cz ad cO c))
  | _, [], _ => by simp [x_wk]
  | k, c :: X, 0 => by simp [x_wk]
  | k, c :: X, i + 1 => by
    have h := x_wk_at ad cO (k + 1) X i
    simp only [x_wk, List.getElem?_cons_succ]
    rw [h, show k + 1 + i = k + (i + 1) by omega]
theorem x_wk_set (ad : Nat → Nat) (cO : FieldType → ClassId) (c : x_C) : ∀ (k : Nat) (X : List x_C) (i : Nat), x_wk ad cO k (X.set i c) = (x_wk ad cO k X).set i (ad (k + i), x_cz ad cO c)
  | _, [], _ => by simp [x_wk]
  | k, b :: X, 0 => by simp [x_wk]
  | k, b :: X, i + 1 => by
    simp only [x_wk, List.set_cons_succ]
    rw [x_wk_set ad cO c (k + 1) X i, show k + 1 + i = k + (i + 1) by omega]
theorem x_at0 {ad : Nat → Nat} {cO : FieldType → ClassId} {X : List x_C} {a : Nat} {c : x_C} (h : X[a]? = some c) : (x_wk ad cO 0 X)[a]? = some (ad a, x_cz ad cO c) := by
  rw [x_wk_at, h, Nat.zero_add]; rfl
theorem x_set0 {ad : Nat → Nat} {cO : FieldType → ClassId} {X : List x_C} {a : Nat} {c : x_C} : x_wk ad cO 0 (X.set a c) = (x_wk ad cO 0 X).set a (ad a, x_cz ad cO c) := by
  rw [x_wk_set, Nat.zero_add]
/-- the locals as the kit lists them -/
def x_ll (ad : Nat → Nat) : Nat → x_L → List (Nat × Value)
  | _, [] => []
  | k, none :: L => x_ll ad (k + 1) L
  | k, some v :: L => (k, x_rv ad v) :: x_ll ad (k + 1) L
theorem x_ll_mem (ad : Nat → Nat) : ∀ (k : Nat) (L : x_L) (q : Nat × Value), q ∈ x_ll ad k L ↔ ∃ (j : Nat) (v : Value), L[j]? = some (some v) ∧ q = (k + j, x_rv ad v)
  | k, [], q => by simp [x_ll]
  | k, none :: L, q => by
    rw [x_ll, x_ll_mem ad (k + 1) L q]
    constructor
    · rintro ⟨j, v, h, rfl⟩
      exact ⟨j + 1, v, by simpa using h, by rw [show k + 1 + j = k + (j + 1) by omega]⟩
    · rintro ⟨j, v, h, rfl⟩
      cases j with
      | zero => simp at h
      | succ j => exact ⟨j, v, by simpa using h, by rw [show k + 1 + j = k + (j + 1) by omega]⟩
  | k, some w :: L, q => by
    rw [x_ll, List.mem_cons, x_ll_mem ad (k + 1) L q]
    constructor
    · rintro (rfl | ⟨j, v, h, rfl⟩)
      · exact ⟨0, w, by simp, by simp⟩
      · exact ⟨j + 1, v, by simpa using h, by rw [show k + 1 + j = k + (j + 1) by omega]⟩
    · rintro ⟨j, v, h, rfl⟩
      cases j with
      | zero =>
        have h1 : w = v := by simpa using h
        subst h1
        exact Or.inl rfl
      | succ j => exact Or.inr ⟨j, v, by simpa using h, by rw [show k + 1 + j = k + (j + 1) by omega]⟩
/-- the locals: known ones are of one word -/
def x_lv (ad : Nat → Nat) (L : x_L) (ls : Array Slot) (nL : Nat) : Prop := L.length = nL ∧ lv_has ls nL (x_ll ad 0 L) ∧ ∀ (j : Nat) (v : Value), L[j]? = some (some v) → v.category = 1
theorem x_lv.at {ad : Nat → Nat} {L : x_L} {ls : Array Slot} {nL k : Nat} {v : Value} (h : x_lv ad L ls nL) (hk : L[k]? = some (some v)) : ls[k]? = some (.val (x_rv ad v)) :=
  h.2.1.2.2 (k, x_rv ad v) ((x_ll_mem ad 0 L _).mpr ⟨k, v, hk, by rw [Nat.zero_add]⟩)
theorem x_lv.set {ad : Nat → Nat} {L : x_L} {ls ls' : Array Slot} {nL k : Nat} {v : Value} (h : x_lv ad L ls nL) (hv : v.category = 1)
    (h' : lv_has ls' nL ((k, x_rv ad v) :: (x_ll ad 0 L).filter (fun q => !(q.1 == k) && !(q.1 + 1 == k && q.2.category == 2)))) : x_lv ad (L.set k (some v)) ls' nL := by
  obtain ⟨h1, h2, h3⟩ := h
  have hc : ∀ (j : Nat) (w : Value), (L.set k (some v))[j]? = some (some w) → (j = k ∧ w = v) ∨ (j ≠ k ∧ L[j]? = some (some w)) := by
    intro j w hj
    by_cases hjk : j = k
    · subst hjk
      by_cases hl : j < L.length
      · rw [List.getElem?_set_self hl] at hj
        exact Or.inl ⟨rfl, (Option.some.inj (Option.some.inj hj)).symm⟩
      · rw [List.getElem?_eq_none (by rw [List.length_set]; omega)] at hj
        cases hj
    · rw [List.getElem?_set_ne (Ne.symm hjk)] at hj
      exact Or.inr ⟨hjk, hj⟩
  refine ⟨by rw [List.length_set]; exact h1, ⟨h'.1, h'.2.1, fun q hq => ?_⟩, fun j w hj => ?_⟩
  · obtain ⟨j, w, hj, rfl⟩ := (x_ll_mem ad 0 _ q).mp hq
    rw [Nat.zero_add]
    rcases hc j w hj with ⟨rfl, rfl⟩ | ⟨hne, hj⟩
    · exact h'.2.2 _ List.mem_cons_self
    · refine h'.2.2 (j, x_rv ad w) (List.mem_cons_of_mem _ (List.mem_filter.mpr ⟨(x_ll_mem ad 0 L _).mpr ⟨j, w, hj, by rw [Nat.zero_add]⟩, ?_⟩))
      have hw := h3 j w hj
      have h4 : (x_rv ad w).category = 1 := by rw [x_rv_cat]; exact hw
      simp [hne, h4]
  · rcases hc j w hj with ⟨rfl, rfl⟩ | ⟨hne, hj⟩
    · exact hv
    · exact h3 j w hj
theorem x_lok_at {n : Nat} : ∀ {L : x_L}, x_lok n L → ∀ (j : Nat) (v : Value), L[j]? = some (some v) → x_vok n v
  | [], _, j, v, h => by simp at h
  | none :: L, hL, j, v, h => by
    cases j with
    | zero => simp at h
    | succ j => exact x_lok_at (L := L) hL j v (by simpa using h)
  | some w :: L, hL, j, v, h => by
    cases j with
    | zero =>
      have h1 : w = v := by simpa using h
      subst h1
      exact hL.1
    | succ j => exact x_lok_at (L := L) hL.2 j v (by simpa using h)
theorem x_lv.move {ad ad' : Nat → Nat} {n : Nat} (hn : x_agr n ad ad') {L : x_L} {ls : Array Slot} {nL : Nat} (hL : x_lok n L) (h : x_lv ad L ls nL) : x_lv ad' L ls nL := by
  refine ⟨h.1, ⟨h.2.1.1, h.2.1.2.1, fun q hq => ?_⟩, h.2.2⟩
  obtain ⟨j, v, hj, rfl⟩ := (x_ll_mem ad' 0 L q).mp hq
  rw [Nat.zero_add, x_rv_ok hn (x_lok_at hL j v hj)]
  exact h.at hj
theorem x_st_move {ad ad' : Nat → Nat} {n : Nat} (hn : x_agr n ad ad') : ∀ {st : List Value}, x_sok n st → st.map (x_rv ad') = st.map (x_rv ad)
  | [], _ => rfl
  | v :: st, h => by rw [List.map_cons, List.map_cons, x_rv_ok hn h.1, x_st_move hn h.2]
theorem x_lv.unset {ad : Nat → Nat} {L : x_L} {ls ls' : Array Slot} {nL k : Nat} {w : Value} (h : x_lv ad L ls nL)
    (h' : lv_has ls' nL ((k, w) :: (x_ll ad 0 L).filter (fun q => !(q.1 == k) && !(q.1 + 1 == k && q.2.category == 2)))) : x_lv ad (L.set k none) ls' nL := by
  obtain ⟨h1, h2, h3⟩ := h
  have hc : ∀ (j : Nat) (w : Value), (L.set k none)[j]? = some (some w) → j ≠ k ∧ L[j]? = some (some w) := by
    intro j w hj
    by_cases hjk : j = k
    · subst hjk
      by_cases hl : j < L.length
      · rw [List.getElem?_set_self hl] at hj
        cases hj
      · rw [List.getElem?_eq_none (by rw [List.length_set]; omega)] at hj
        cases hj
    · rw [List.getElem?_set_ne (Ne.symm hjk)] at hj
      exact ⟨hjk, hj⟩
  refine ⟨by rw [List.length_set]; exact h1, ⟨h'.1, h'.2.1, fun q hq => ?_⟩, fun j w hj => h3 j w (hc j w hj).2⟩
  obtain ⟨j, w, hj, rfl⟩ := (x_ll_mem ad 0 _ q).mp hq
  rw [Nat.zero_add]
  obtain ⟨hne, hj⟩ := hc j w hj
  refine h'.2.2 (j, x_rv ad w) (List.mem_cons_of_mem _ (List.mem_filter.mpr ⟨(x_ll_mem ad 0 L _).mpr ⟨j, w, hj, by rw [Nat.zero_add]⟩, ?_⟩))
  have hw := h3 j w hj
  have h4 : (x_rv ad w).category = 1 := by rw [x_rv_cat]; exact hw
  simp [hne, h4]
theorem x_wk_app (ad : Nat → Nat) (cO : FieldType → ClassId) (c : x_C) : ∀ (k : Nat) (X : List x_C), x_wk ad cO k (X ++ [c]) = x_wk ad cO k X ++ [(ad (k + X.length), x_cz ad cO c)]
  | k, [] => rfl
  | k, b :: X => by
    simp only [List.cons_append, x_wk]
    rw [x_wk_app ad cO c (k + 1) X, List.length_cons, show k + 1 + X.length = k + (X.length + 1) by omega]
theorem x_wk_move {ad ad' : Nat → Nat} {n : Nat} (hn : x_agr n ad ad') (cO : FieldType → ClassId) : ∀ (X : List x_C) (k : Nat), k + X.length ≤ n → x_hok n X → x_wk ad' cO k X = x_wk ad cO k X
  | [], _, _, _ => rfl
  | .inl (ty, a) :: X, k, h, ho => by
    have h0 := hn.1 k (by simp only [List.length_cons] at h; omega)
    simp only [x_wk, x_cz]
    rw [h0, x_wk_move hn cO X (k + 1) (by simp only [List.length_cons] at h; omega) ho]
  | .inr (ci, fs) :: X, k, h, ho => by
    have h0 := hn.1 k (by simp only [List.length_cons] at h; omega)
    simp only [x_wk, x_cz]
    rw [h0, x_st_move hn ho.1, x_wk_move hn cO X (k + 1) (by simp only [List.length_cons] at h; omega) ho.2]
/-- one more place -/
def x_adn (ad : Nat → Nat) (n q : Nat) : Nat → Nat := fun k => if k = n then q else ad k
theorem x_adn_agr (ad : Nat → Nat) {n q : Nat} (h : n < x_SP) : x_agr n ad (x_adn ad n q) := ⟨fun k hk => if_neg (by omega), if_neg (by omega)⟩
theorem x_adn_new (ad : Nat → Nat) (n q : Nat) : x_adn ad n q n = q := if_pos rfl
theorem x_wk_new {ad : Nat → Nat} {cO : FieldType → ClassId} {X : List x_C} {L : x_L} {st : List Value} (h : x_aok L st X) (q : Nat) (c : x_C) (hc : x_cz (x_adn ad X.length q) cO c = x_cz ad cO c) : x_wk (x_adn ad X.length q) cO 0 (X ++ [c]) = x_wk ad cO 0 X ++ [(q, x_cz ad cO c)] := by
  rw [x_wk_app, x_wk_move (x_adn_agr ad h.1) cO X 0 (by omega) h.2.2.2, Nat.zero_add, x_adn_new, hc]
def x_ty (cO : FieldType → ClassId) : List (ClassId × FieldType) := [(cO .int, .int), (cO .boolean, .boolean), (cO .long, .long)]
/-- what the start gives beside the world, and keeps -/
def x_EnOK (En : (Nat → Prop) → State → Heap → Prop) : Prop :=
  (∀ A u U H, u.vm = U.vm → En A u H → En A U H) ∧ (∀ A s U H, s.WarmedH U.vm → En A s H → En A U H) ∧
  (∀ A U H H', H.size ≤ H'.size → (∀ q : Nat, q < H.size → ¬ A q → H'[q]? = H[q]?) → En A U H → En A U H') ∧ (∀ A B U H, (∀ q, B q → A q) → En A U H → En B U H)
/-- a method's start, in the small machine's words -/
def x_Pre (D : va_G) (cO : FieldType → ClassId) (En : (Nat → Prop) → State → Heap → Prop) (ad : Nat → Nat) (X : List x_C) (av : List Value) (sz : Nat) : Array Value → State → Prop :=
  va_Pc (av.map (x_rv ad)) (fun U => U.heap.size = sz ∧ va_P D vwCl (x_wk ad cO 0 X) U.heap ∧ va_K D vwCl (x_ty cO) U ∧ va_D (fun _ => True) (x_wk ad cO 0 X) ∧ En (va_A (x_wk ad cO 0 X) sz) U U.heap)
/-- how the places go on: those that were there keep their addresses, and without new cells all is as it was -/
def x_ext (X : List x_C) (bc : Nat) (ad : Nat → Nat) (Y : List x_C) (ad' : Nat → Nat) : Prop := X.length ≤ Y.length ∧ x_agr X.length ad ad' ∧ (bc = 0 → ad' = ad)
/-- the world behind it -/
def x_B (D : va_G) (cO : FieldType → ClassId) (A : Nat → Prop) (ad' : Nat → Nat) (Y : List x_C) (t : State) : Prop := va_P D vwCl (x_wk ad' cO 0 Y) t.heap ∧ va_K D vwCl (x_ty cO) t ∧ va_D A (x_wk ad' cO 0 Y)
/-- a method's end -/
def x_Post (D : va_G) (cO : FieldType → ClassId) (ad : Nat → Nat) (X : List x_C) (sz bc : Nat) (Q : x_O → x_H → Prop) : Array Value → State → Outcome → State → Prop := fun _ st oc t =>
  (∃ (v : Option Value) (Y : x_H) (ad' : Nat → Nat), oc = .returned (v.map (x_rv ad')) ∧ Q (.inl v) Y ∧ x_ext X bc ad Y.1 ad' ∧ x_B D cO (va_A (x_wk ad cO 0 X) sz) ad' Y.1 t) ∧ va_F (va_A (x_wk ad cO 0 X) sz) st t
/-- a method's end where it throws -/
def x_PostX (D : va_G) (cO : FieldType → ClassId) (ad : Nat → Nat) (X : List x_C) (sz bc : Nat) (Q : x_O → x_H → Prop) : String → State → State → Prop := fun E st t =>
  (∃ (Y : x_H) (ad' : Nat → Nat), Q (.inr E) Y ∧ x_ext X bc ad Y.1 ad' ∧ x_B D cO (va_A (x_wk ad cO 0 X) sz) ad' Y.1 t) ∧ va_F (va_A (x_wk ad cO 0 X) sz) st t
/-- a contract where nothing is thrown -/
theorem x_toMet {l : Launch} {y : MethodName} {ws : List Cond} {rm : Room} {Pc : Array Value → State → Prop} {Qc : Array Value → State → Outcome → State → Prop} {XC : String → State → State → Prop} {mc ms : Nat} {free : Addr → Prop} (h : vx_Met l y ws rm Pc Qc XC mc ms free) (hx : ∀ E st t, ¬ XC E st t) : Met l y ws rm Pc Qc mc ms free := by
  refine MetFree.mono h (fun _ _ h => h) (fun _ _ _ _ _ h => h) (fun a s o s' _ hq => ?_)
  rcases hq with hq | ⟨q, -, E, ce, L, h1, -⟩
  · exact hq
  · exact absurd h1 (hx _ _ _)
