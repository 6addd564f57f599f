/-! ===== sets of two, three, four: the class' bits against the model's lists ===== -/
theorem cmb_map (f : Nat → Nat) : ∀ (k : Nat) (l : List Nat), cmb k (l.map f) = (cmb k l).map (List.map f)
  | 0, l => by cases l <;> rfl
  | k + 1, [] => rfl
  | k + 1, a :: l => by
    show (cmb k (l.map f)).map (f a :: ·) ++ cmb (k + 1) (l.map f) = ((cmb k l).map (a :: ·) ++ cmb (k + 1) l).map (List.map f)
    rw [cmb_map f k l, cmb_map f (k + 1) l, List.map_append, List.map_map, List.map_map]
    rfl
theorem cmb_filter (p : Nat → Bool) : ∀ (k : Nat) (l : List Nat), cmb k (l.filter p) = (cmb k l).filter fun c => c.all p
  | 0, l => by
    have e : ∀ l : List Nat, cmb 0 l = [[]] := fun l => by cases l <;> rfl
    rw [e, e]
    rfl
  | k + 1, [] => rfl
  | k + 1, a :: l => by
    show cmb (k + 1) (List.filter p (a :: l)) = ((cmb k l).map (a :: ·) ++ cmb (k + 1) l).filter fun c => c.all p
    rw [List.filter_append, List.filter_map, ← cmb_filter p (k + 1) l]
    cases ha : p a with
    | true =>
      rw [List.filter_cons_of_pos ha]
      show (cmb k (l.filter p)).map (a :: ·) ++ cmb (k + 1) (l.filter p) = _
      rw [cmb_filter p k l]
      congr 2
      apply List.filter_congr
      intro c _
      show c.all p = (a :: c).all p
      rw [List.all_cons, ha, Bool.true_and]
    | false =>
      rw [List.filter_cons_of_neg (by rw [ha]; decide)]
      have e : List.filter ((fun c => c.all p) ∘ fun x => a :: x) (cmb k l) = [] := by
        rw [List.filter_eq_nil_iff]
        intro c _
        show ¬ (a :: c).all p = true
        rw [List.all_cons, ha, Bool.false_and]
        decide
      rw [e]
      rfl
theorem pF_range (l : List Nat) : (List.range l.length).map (pF l) = l := by
  apply List.ext_getElem
  · simp
  · intro i h1 h2
    simp [pF, List.getD_eq_getElem?_getD, h2]
theorem cmb_len : ∀ (k : Nat) (l c : List Nat), c ∈ cmb k l → c.length = k
  | 0, l, c, h => by
    have e : cmb 0 l = [[]] := by cases l <;> rfl
    rw [e] at h
    rw [List.mem_singleton.mp h]
    rfl
  | k + 1, [], c, h => by cases h
  | k + 1, a :: l, c, h => by
    have h : c ∈ (cmb k l).map (a :: ·) ++ cmb (k + 1) l := h
    rcases List.mem_append.mp h with h | h
    · obtain ⟨c', h1, h2⟩ := List.mem_map.mp h
      rw [← h2]
      show c'.length + 1 = k + 1
      rw [cmb_len k l c' h1]
    · exact cmb_len (k + 1) l c h
theorem fS_congr {α β : Type} {f g : α → Option β} : ∀ {l : List α}, (∀ c, c ∈ l → f c = g c) → l.findSome? f = l.findSome? g
  | [], _ => rfl
  | a :: l, h => by
    rw [List.findSome?_cons, List.findSome?_cons, h a List.mem_cons_self]
    cases g a with
    | some r => rfl
    | none => exact fS_congr (fun c hc => h c (List.mem_cons_of_mem _ hc))
theorem fS_filter {α β : Type} {f : α → Option β} {p : α → Bool} : ∀ {l : List α}, (l.filter p).findSome? f = l.findSome? fun c => if p c then f c else none
  | [] => rfl
  | a :: l => by
    cases hp : p a with
    | true => rw [List.filter_cons_of_pos hp, List.findSome?_cons, List.findSome?_cons, fS_filter, hp]; rfl
    | false => rw [List.filter_cons_of_neg (by rw [hp]; decide), List.findSome?_cons, fS_filter, hp]; rfl
theorem fS_map {α β γ : Type} {f : γ → Option β} {m : α → γ} : ∀ {l : List α}, (l.map m).findSome? f = l.findSome? fun c => f (m c)
  | [] => rfl
  | a :: l => by rw [List.map_cons, List.findSome?_cons, List.findSome?_cons, fS_map]
/-- the picks of k of a list as sets of places: l lists f of the good ones of 0 .. n - 1 -/
theorem cc_all {β : Type} {k n : Nat} {l : List Nat} {good : Nat → Bool} {f : Nat → Nat} (hl : l = ((List.range n).filter good).map f) {F : List Nat → Option β} {G : (Nat → Nat) → Option β} (hc : ∀ c : List Nat, c.length = k → ∀ u, (∀ i, i < k → u i = pF c i) → G u = F c) : ((CC k l.length).drop 0).findSome? (fun c => G (fun i => pF l (pF c i))) = (CC k n).findSome? fun c => if c.all good then F (c.map f) else none := by
  have h1 : ((CC k l.length).drop 0).findSome? (fun c => G (fun i => pF l (pF c i))) = (CC k l.length).findSome? fun c => F (c.map (pF l)) := by
    rw [List.drop_zero]
    apply fS_congr
    intro c hm
    have hlen := cmb_len k _ c hm
    refine hc (c.map (pF l)) (by rw [List.length_map]; exact hlen) _ (fun i hi => ?_)
    unfold pF
    simp [List.getD_eq_getElem?_getD, show i < c.length by omega]
  rw [h1, ← fS_map (m := List.map (pF l)) (f := F)]
  unfold CC
  rw [← cmb_map, pF_range, hl, cmb_map, fS_map, cmb_filter, fS_filter]
/-! unions -/
def unL (v : Nat → Nat) : List Nat → Nat
  | [] => 0
  | i :: c => v i ||| unL v c
theorem unL_bit (v : Nat → Nat) (t : Nat) : ∀ c : List Nat, (unL v c).testBit t = c.any fun i => (v i).testBit t
  | [] => Nat.zero_testBit t
  | i :: c => by
    show (v i ||| unL v c).testBit t = _
    rw [Nat.testBit_or, unL_bit v t c]
    rfl
theorem mkB_bit (t : Nat) : ∀ c : List Nat, (mkB c).testBit t = c.any fun i => i == t
  | [] => Nat.zero_testBit t
  | i :: c => by
    show (2 ^ i ||| mkB c).testBit t = _
    rw [Nat.testBit_or, Nat.testBit_two_pow, mkB_bit t c]
    rfl
theorem orA_bit (v : Nat → Nat) (t : Nat) : ∀ k, (orA v k).testBit t = (List.range k).any fun i => (v i).testBit t
  | 0 => Nat.zero_testBit t
  | k + 1 => by
    rw [any_s, ← orA_bit v t k]
    show (orA v k ||| v k).testBit t = _
    rw [Nat.testBit_or]
theorem any_pF {q : Nat → Bool} {c : List Nat} {k : Nat} {u : Nat → Nat} (hk : c.length = k) (hu : ∀ i, i < k → u i = pF c i) : ((List.range k).any fun i => q (u i)) = c.any q := by
  have e : c.any q = ((List.range c.length).map (pF c)).any q := by rw [pF_range]
  rw [e, List.any_map, hk, Bool.eq_iff_iff, List.any_eq_true, List.any_eq_true]
  constructor
  · rintro ⟨i, hi, h1⟩
    exact ⟨i, hi, by show q (pF c i) = true; rw [← hu i (List.mem_range.mp hi)]; exact h1⟩
  · rintro ⟨i, hi, h1⟩
    exact ⟨i, hi, by rw [hu i (List.mem_range.mp hi)]; exact h1⟩
theorem orA_un {v : Nat → Nat} {c : List Nat} {k : Nat} {u : Nat → Nat} (hk : c.length = k) (hu : ∀ i, i < k → u i = pF c i) : orA (fun i => v (u i)) k = unL v c := by
  apply Nat.eq_of_testBit_eq
  intro t
  rw [orA_bit, unL_bit, ← any_pF (q := fun i => (v i).testBit t) hk hu]
theorem unL_map (v f : Nat → Nat) : ∀ c : List Nat, unL v (c.map f) = unL (fun i => v (f i)) c
  | [] => rfl
  | i :: c => by
    show v (f i) ||| unL v (c.map f) = v (f i) ||| _
    rw [unL_map v f c]
def unS (mk : Nat → Nat) (S : Nat) : Nat → Nat
  | 0 => 0
  | i + 1 => if S.testBit i then unS mk S i ||| mk i else unS mk S i
theorem unS_bit (mk : Nat → Nat) (S t : Nat) : ∀ k, (unS mk S k).testBit t = (List.range k).any fun i => S.testBit i && (mk i).testBit t
  | 0 => Nat.zero_testBit t
  | k + 1 => by
    rw [any_s, ← unS_bit mk S t k]
    show (if S.testBit k then unS mk S k ||| mk k else unS mk S k).testBit t = _
    cases hb : S.testBit k with
    | true => rw [if_pos rfl, Nat.testBit_or, Bool.true_and]
    | false => rw [if_neg (by decide), Bool.false_and, Bool.or_false]
theorem unS_un {mk : Nat → Nat} {c : List Nat} {n : Nat} (hc : ∀ i, i ∈ c → i < n) : unS mk (mkB c) n = unL mk c := by
  apply Nat.eq_of_testBit_eq
  intro t
  rw [unS_bit, unL_bit, Bool.eq_iff_iff, List.any_eq_true, List.any_eq_true]
  constructor
  · rintro ⟨i, hi, h1⟩
    rw [Bool.and_eq_true, mkB_bit, List.any_eq_true] at h1
    obtain ⟨⟨j, hj, e⟩, h2⟩ := h1
    rw [beq_iff_eq] at e
    subst e
    exact ⟨j, hj, h2⟩
  · rintro ⟨i, hi, h1⟩
    refine ⟨i, List.mem_range.mpr (hc i hi), ?_⟩
    rw [Bool.and_eq_true, mkB_bit, List.any_eq_true]
    exact ⟨⟨i, hi, by simp⟩, h1⟩
theorem unS_lt {mk : Nat → Nat} {S n : Nat} (hm : ∀ i, i < n → mk i < 512) : ∀ k, k ≤ n → unS mk S k < 512
  | 0, _ => by show 0 < 512; decide
  | k + 1, hk => by
    have ih := unS_lt (S := S) hm k (by omega)
    unfold unS
    split
    · exact Nat.or_lt_two_pow (n := 9) ih (hm k (by omega))
    · exact ih
def ftB (mk : Nat → Nat) (k : Nat) : Nat → Nat
  | 0 => 0
  | i + 1 => if mk i ≠ 0 ∧ pcN (mk i) ≤ k then ftB mk k i ||| 2 ^ i else ftB mk k i
theorem ftB_lt (mk : Nat → Nat) (k : Nat) : ∀ j, ftB mk k j < 2 ^ j
  | 0 => by show 0 < 1; decide
  | j + 1 => by
    have ih := ftB_lt mk k j
    have h2 : 2 ^ j < 2 ^ (j + 1) := p2_lt (by omega)
    unfold ftB
    split
    · exact Nat.or_lt_two_pow (by omega) h2
    · omega
theorem ftB_bit (mk : Nat → Nat) (k i : Nat) : ∀ j, (ftB mk k j).testBit i = (decide (i < j) && decide (mk i ≠ 0 ∧ pcN (mk i) ≤ k))
  | 0 => by rw [decide_eq_false (Nat.not_lt_zero i)]; exact Nat.zero_testBit i
  | j + 1 => by
    unfold ftB
    by_cases hj : mk j ≠ 0 ∧ pcN (mk j) ≤ k
    · rw [if_pos hj, Nat.testBit_or, ftB_bit mk k i j, Nat.testBit_two_pow]
      by_cases hij : i = j
      · subst hij
        rw [decide_eq_true rfl, decide_eq_true hj, decide_eq_true (Nat.lt_succ_self i)]
        simp
      · rw [decide_eq_false (p := j = i) (fun e => hij e.symm), Bool.or_false, show decide (i < j + 1) = decide (i < j) by rw [decide_eq_decide]; omega]
    · rw [if_neg hj, ftB_bit mk k i j]
      by_cases hij : i = j
      · subst hij
        rw [decide_eq_false hj, Bool.and_false, Bool.and_false]
      · rw [show decide (i < j + 1) = decide (i < j) by rw [decide_eq_decide]; omega]
theorem CC_ok : ∀ k, k < 5 → 2 ≤ k → ∀ n, n < 10 → ((CC k n).all fun c => c.all (fun i => decide (i < n)) && pcN (mkB c) == k && decide (mkB c < 512)) = true := by decide +kernel
theorem CC_at {k n : Nat} {c : List Nat} (hk : k < 5) (hk2 : 2 ≤ k) (hn : n < 10) (hc : c ∈ CC k n) : (∀ i, i ∈ c → i < n) ∧ pcN (mkB c) = k ∧ mkB c < 512 := by
  have h := List.all_eq_true.mp (CC_ok k hk hk2 n hn) c hc
  rw [Bool.and_eq_true, Bool.and_eq_true, List.all_eq_true] at h
  exact ⟨fun i hi => of_decide_eq_true (h.1.1 i hi), by simpa using h.1.2, of_decide_eq_true h.2⟩
theorem pcA_mono {a g : Nat} (h : ∀ t, g.testBit t = true → a.testBit t = true) (k : Nat) : pcA g k ≤ pcA a k := by have := pcA_clr h k; omega
theorem clr_0 {a g : Nat} : clr a g = 0 ↔ ∀ t, a.testBit t = true → g.testBit t = true := by
  constructor
  · intro h t ht
    have : (clr a g).testBit t = false := by rw [h]; exact Nat.zero_testBit t
    rw [clr_bit, ht] at this
    simpa using this
  · intro h
    apply Nat.eq_of_testBit_eq
    intro t
    rw [clr_bit, Nat.zero_testBit]
    have := h t
    cases ha : a.testBit t <;> simp_all
/-- a set is covered: the class' test says what the model's does -/
theorem cov_ok {k n : Nat} {c : List Nat} {good : Nat → Bool} {v mk : Nat → Nat} (hk : k < 5) (hk2 : 2 ≤ k) (hn : n < 10) (hc : c ∈ CC k n) (hm : ∀ i, i < n → mk i = if good i then v i else 0) (hv : ∀ i, i < n → good i = true → v i ≠ 0) : (clr (mkB c) (ftB mk k n) == 0 && pcN (unL mk c) == k) = (c.all good && pcN (unL v c) == k) ∧ (c.all good = true → unL mk c = unL v c) := by
  obtain ⟨c1, c2, c3⟩ := CC_at hk hk2 hn hc
  have hu : c.all good = true → unL mk c = unL v c := by
    intro hg
    apply Nat.eq_of_testBit_eq
    intro t
    rw [unL_bit, unL_bit, Bool.eq_iff_iff, List.any_eq_true, List.any_eq_true]
    have hg := List.all_eq_true.mp hg
    constructor
    · rintro ⟨i, hi, h1⟩
      rw [hm i (c1 i hi), hg i hi] at h1
      exact ⟨i, hi, h1⟩
    · rintro ⟨i, hi, h1⟩
      exact ⟨i, hi, by rw [hm i (c1 i hi), hg i hi]; exact h1⟩
  refine ⟨?_, hu⟩
  have hmb : ∀ i, i ∈ c → (mkB c).testBit i = true := fun i hi => by rw [mkB_bit, List.any_eq_true]; exact ⟨i, hi, by simp⟩
  rw [Bool.eq_iff_iff, Bool.and_eq_true, Bool.and_eq_true, beq_iff_eq, beq_iff_eq, beq_iff_eq, clr_0]
  constructor
  · rintro ⟨h1, h2⟩
    have hg : c.all good = true := by
      rw [List.all_eq_true]
      intro i hi
      have := h1 i (hmb i hi)
      rw [ftB_bit, Bool.and_eq_true, decide_eq_true_eq, decide_eq_true_eq] at this
      cases hgi : good i with
      | true => rfl
      | false =>
        have h9 := this.2.1
        rw [hm i (c1 i hi), hgi] at h9
        exact absurd rfl h9
    exact ⟨hg, by rw [← hu hg]; exact h2⟩
  · rintro ⟨hg, h2⟩
    refine ⟨fun t ht => ?_, by rw [hu hg]; exact h2⟩
    rw [mkB_bit, List.any_eq_true] at ht
    obtain ⟨i, hi, e⟩ := ht
    rw [beq_iff_eq] at e
    subst e
    have hgi := List.all_eq_true.mp hg i hi
    have hmi : mk i = v i := by rw [hm i (c1 i hi), hgi]; rfl
    rw [ftB_bit, decide_eq_true (c1 i hi), Bool.true_and, decide_eq_true_eq, hmi]
    refine ⟨hv i (c1 i hi) hgi, ?_⟩
    have hsub : ∀ t, (v i).testBit t = true → (unL v c).testBit t = true := fun t ht => by rw [unL_bit, List.any_eq_true]; exact ⟨i, hi, ht⟩
    have := pcA_mono hsub 9
    unfold pcN at h2 ⊢
    omega
/-- too few items fit: nothing is covered -/
theorem few_ok {k n : Nat} {good : Nat → Bool} {v mk : Nat → Nat} (hk : k < 5) (hk2 : 2 ≤ k) (hn : n < 10) (hm : ∀ i, i < n → mk i = if good i then v i else 0) (hv : ∀ i, i < n → good i = true → v i ≠ 0) (hf : pcN (ftB mk k n) < k) {c : List Nat} (hc : c ∈ CC k n) : (c.all good && pcN (unL v c) == k) = false := by
  obtain ⟨c1, c2, c3⟩ := CC_at hk hk2 hn hc
  rw [← (cov_ok hk hk2 hn hc hm hv).1]
  have : ¬ clr (mkB c) (ftB mk k n) = 0 := by
    intro h0
    have := pcA_mono (clr_0.mp h0) 9
    unfold pcN at c2 hf
    omega
  rw [beq_eq_false_iff_ne.mpr this, Bool.false_and]
theorem stN_le {n w h : Nat} (k : KD n w h) : stN n 5 ≤ 2 ^ n := by
  rcases k with ⟨rfl, rfl, rfl⟩ | ⟨rfl, rfl, rfl⟩ | ⟨rfl, rfl, rfl⟩ <;> decide +kernel
theorem stN_s (n : Nat) {k : Nat} (hk : k < 5) (hk2 : 2 ≤ k) : stN n (k + 1) = stN n k + (CC k n).length := by
  rcases (show k = 2 ∨ k = 3 ∨ k = 4 by omega) with rfl | rfl | rfl
  · show (CC 2 n).length = 0 + _; omega
  · rfl
  · rfl
theorem stN_mo (n : Nat) {k : Nat} (hk : k ≤ 5) : stN n k ≤ stN n 5 := by
  unfold stN
  rw [if_neg (show ¬ 5 ≤ 2 by decide), if_neg (show ¬ 5 = 3 by decide), if_neg (show ¬ 5 = 4 by decide)]
  split
  · omega
  · split
    · omega
    · split <;> omega
/-- the masks -/
def mC (cs : x_S) (n : Nat) (mk : Nat → Nat) : Prop := ∀ i, i < n → cs.2 18 i = nI (mk i) ∧ mk i < 512
section K3
variable {sc : Nat × (Nat → Int32)} {cs : x_S} {tl : List x_C} {bb : Nat × Nat} {n w h d : Nat} {Q : x_O → x_H → Prop} {mk : Nat → Nat}
theorem c_unionOf (k : KD n w h) (hM : mC cs n mk) {S : Nat} (hS : S < 512) {x : Int32} (hx : x = nI S) (hQ : Q (.inl (some (.int (nI (unS mk S n))))) (w_C n cs tl bb)) : x_run sc x_MM x_EX (d + 1) k_X5_unionOf [.ref 1, .int x] (w_C n cs tl bb) Q := by
  subst hx
  obtain ⟨g1, g2, g3, g4, g5, g6, g7, g8⟩ := k.le
  refine x_in (M := m_X5_unionOf) rfl rfl (Nat.le_of_ble_eq_true rfl) ⟨rfl, rfl, trivial⟩ ?_
  intro P hP
  have loop : ∀ i, i ≤ n → P 4 [some (.ref 1), some (.int (nI S)), some (.int (nI (unS mk S i))), some (.int (nI i))] [] (w_C n cs tl bb) := by
    refine x_lp n (fun i hi ih => ?_)
    repeat refine hP _ _ _ _ ?_
    refine b_ge (i) (n) (fun hi9 => ?_) (fun hi9 => ?_) (rfl) (rfl) (by omega) (by omega)
    · have e9 : i = n := by omega
      subst e9
      repeat refine hP _ _ _ _ ?_
      exact hQ
    · have ih := ih hi9
      rw [show unS mk S (i + 1) = if S.testBit i then unS mk S i ||| mk i else unS mk S i from rfl] at ih
      repeat refine hP _ _ _ _ ?_
      refine b_ifeq (fun hb => ?_) (fun hb => ?_) (bit1 hS (by omega))
      · rw [hb] at ih
        iterate 2 refine hP _ _ _ _ ?_
        refine x_p4 (P := P) (ih) ?_ rfl ?_ <;> try (first | rfl | (rw [nI_succ]; rfl))
      · rw [hb, if_pos rfl, ← nx_or] at ih
        repeat refine hP _ _ _ _ ?_
        refine And.intro (vp_in_nI hi9 (by omega)) ?_
        rw [ldv (f := cs.2 18) (hM i hi9).1 (by omega)]
        iterate 4 refine hP _ _ _ _ ?_
        refine x_p4 (P := P) (ih) ?_ rfl ?_ <;> try (first | rfl | (rw [nI_succ]; rfl))
  iterate 4 refine hP _ _ _ _ ?_
  refine x_p4 (P := P) (loop 0 (by omega)) ?_ rfl ?_ <;> try (first | rfl | (rw [nI_succ]; rfl))
theorem c_fitItems (k : KD n w h) (hM : mC cs n mk) {m : Nat} (hm : m < 5) {x : Int32} (hx : x = nI m) (hQ : Q (.inl (some (.int (nI (ftB mk m n))))) (w_C n cs tl bb)) : x_run sc x_MM x_EX (d + 2) k_X5_fitItems [.ref 1, .int x] (w_C n cs tl bb) Q := by
  subst hx
  obtain ⟨g1, g2, g3, g4, g5, g6, g7, g8⟩ := k.le
  refine x_in (M := m_X5_fitItems) rfl rfl (Nat.le_of_ble_eq_true rfl) ⟨rfl, rfl, trivial⟩ ?_
  intro P hP
  have loop : ∀ i, i ≤ n → P 4 [some (.ref 1), some (.int (nI m)), some (.int (nI (ftB mk m i))), some (.int (nI i))] [] (w_C n cs tl bb) := by
    refine x_lp n (fun i hi ih => ?_)
    repeat refine hP _ _ _ _ ?_
    refine b_ge (i) (n) (fun hi9 => ?_) (fun hi9 => ?_) (rfl) (rfl) (by omega) (by omega)
    · have e9 : i = n := by omega
      subst e9
      repeat refine hP _ _ _ _ ?_
      exact hQ
    · have ih := ih hi9
      rw [show ftB mk m (i + 1) = if mk i ≠ 0 ∧ pcN (mk i) ≤ m then ftB mk m i ||| 2 ^ i else ftB mk m i from rfl] at ih
      have hmi := hM i hi9
      have hp9 : pcN (mk i) ≤ 9 := pcA_le _ 9
      repeat refine hP _ _ _ _ ?_
      refine And.intro (vp_in_nI hi9 (by omega)) ?_
      rw [ldv (f := cs.2 18) hmi.1 (by omega)]
      repeat refine hP _ _ _ _ ?_
      refine And.intro (fun h9 => ?_) (fun h9 => ?_)
      · have h9 : nI (mk i) = 0 := h9
        rw [nI_z (by omega)] at h9
        rw [if_neg (fun e => e.1 h9)] at ih
        iterate 2 refine hP _ _ _ _ ?_
        refine x_p4 (P := P) (ih) ?_ rfl ?_ <;> try (first | rfl | (rw [nI_succ]; rfl))
      · have h9 : ¬ nI (mk i) = 0 := h9
        rw [nI_z (by omega)] at h9
        repeat refine hP _ _ _ _ ?_
        refine And.intro (vp_in_nI hi9 (by omega)) ?_
        rw [ldv (f := cs.2 18) hmi.1 (by omega)]
        repeat refine hP _ _ _ _ ?_
        refine c_bitCount hmi.2 rfl ?_
        repeat refine hP _ _ _ _ ?_
        refine b_gt (pcN (mk i)) (m) (fun hg => ?_) (fun hg => ?_) (rfl) (rfl) (by omega) (by omega)
        · rw [if_neg (by omega)] at ih
          iterate 2 refine hP _ _ _ _ ?_
          refine x_p4 (P := P) (ih) ?_ rfl ?_ <;> try (first | rfl | (rw [nI_succ]; rfl))
        · rw [if_pos ⟨h9, hg⟩, ← nx_or, ← sh1 (show i < 10 by omega)] at ih
          iterate 8 refine hP _ _ _ _ ?_
          refine x_p4 (P := P) (ih) ?_ rfl ?_ <;> try (first | rfl | (rw [nI_succ]; rfl))
  iterate 4 refine hP _ _ _ _ ?_
  refine x_p4 (P := P) (loop 0 (by omega)) ?_ rfl ?_ <;> try (first | rfl | (rw [nI_succ]; rfl))
theorem c_isCovered (k : KD n w h) (hM : mC cs n mk) {S m : Nat} (hm : m < 5) (hS : S < 512) {x y z : Int32} (hx : x = nI S) (hy : y = nI (ftB mk m n)) (hz : z = nI m) (hQ : Q (.inl (some (.int (bI (clr S (ftB mk m n) == 0 && pcN (unS mk S n) == m))))) (w_C n cs tl bb)) : x_run sc x_MM x_EX (d + 2) k_X5_isCovered [.ref 1, .int x, .int y, .int z] (w_C n cs tl bb) Q := by
  subst hx; subst hy; subst hz
  obtain ⟨g1, g2, g3, g4, g5, g6, g7, g8⟩ := k.le
  have hcl := clr_le S (ftB mk m n)
  have hu := unS_lt (mk := mk) (S := S) (fun i hi => (hM i hi).2) n (Nat.le_refl _)
  have hp9 : pcN (unS mk S n) ≤ 9 := pcA_le _ 9
  have e1 : nI S &&& (nI (ftB mk m n) ^^^ Int32.ofInt (-1)) = nI (clr S (ftB mk m n)) := by rw [oim, nx_not]
  refine x_in (M := m_X5_isCovered) rfl rfl (Nat.le_of_ble_eq_true rfl) ⟨rfl, rfl, rfl, rfl, trivial⟩ ?_
  intro P hP
  have no : (clr S (ftB mk m n) == 0 && pcN (unS mk S n) == m) = false → P 24 [some (.ref 1), some (.int (nI S)), some (.int (nI (ftB mk m n))), some (.int (nI m))] [] (w_C n cs tl bb) := by
    intro hy
    repeat refine hP _ _ _ _ ?_
    refine And.intro rfl (x_q1 hQ ?_)
    rw [hy]; rfl
  repeat refine hP _ _ _ _ ?_
  refine And.intro (fun h9 => ?_) (fun h9 => ?_)
  · have h9 : ¬ nI S &&& (nI (ftB mk m n) ^^^ Int32.ofInt (-1)) = 0 := h9
    rw [e1, nI_z (by omega)] at h9
    exact no (by rw [beq_eq_false_iff_ne.mpr h9, Bool.false_and])
  · have h9 : nI S &&& (nI (ftB mk m n) ^^^ Int32.ofInt (-1)) = 0 := Decidable.of_not_not h9
    rw [e1, nI_z (by omega)] at h9
    repeat refine hP _ _ _ _ ?_
    refine c_unionOf k hM hS rfl ?_
    repeat refine hP _ _ _ _ ?_
    refine c_bitCount hu rfl ?_
    repeat refine hP _ _ _ _ ?_
    refine b_ne (pcN (unS mk S n)) (m) (fun h2 => ?_) (fun h2 => ?_) (rfl) (rfl) (by omega) (by omega)
    · exact no (by rw [beq_eq_false_iff_ne.mpr h2, Bool.and_false])
    · repeat refine hP _ _ _ _ ?_
      refine And.intro rfl (x_q1 hQ ?_)
      rw [h9, h2]
      simp
      rfl
theorem c_start (hE : seC cs n) {m : Nat} (hm : m < 5) (hm2 : 2 ≤ m) (hQ : Q (.inl (some (.int (nI (stN n m))))) (w_C n cs tl bb)) : x_run sc x_MM x_EX (d + 1) k_X6_start [.ref 12, .int (nI m)] (w_C n cs tl bb) Q := by
  refine x_in (M := m_X6_start) rfl rfl (Nat.le_of_ble_eq_true rfl) ⟨rfl, rfl, trivial⟩ ?_
  intro P hP
  repeat refine hP _ _ _ _ ?_
  refine And.intro (vp_in_nI (by omega) (by omega)) ?_
  rw [ldv (f := cs.2 14) (hE.1 m hm2 (by omega)) (by omega)]
  repeat refine hP _ _ _ _ ?_
  exact hQ
theorem c_end (hE : seC cs n) {m : Nat} (hm : m < 5) (hm2 : 2 ≤ m) (hQ : Q (.inl (some (.int (nI (stN n (m + 1)))))) (w_C n cs tl bb)) : x_run sc x_MM x_EX (d + 1) k_X6_end [.ref 12, .int (nI m)] (w_C n cs tl bb) Q := by
  have e1 : nI m + Int32.ofInt 1 = nI (m + 1) := by rw [oi1, nI_add]
  refine x_in (M := m_X6_end) rfl rfl (Nat.le_of_ble_eq_true rfl) ⟨rfl, rfl, trivial⟩ ?_
  intro P hP
  repeat refine hP _ _ _ _ ?_
  refine And.intro (vpx e1 (by omega) (by omega)) ?_
  rw [ldx (f := cs.2 14) (hE.1 (m + 1) (by omega) (by omega)) e1 (by omega)]
  repeat refine hP _ _ _ _ ?_
  exact hQ
theorem c_get (k : KD n w h) (hE : seC cs n) {m t : Nat} {c : List Nat} (hm : m < 5) (hm2 : 2 ≤ m) (hc : (CC m n)[t]? = some c) (hQ : Q (.inl (some (.int (nI (mkB c))))) (w_C n cs tl bb)) : x_run sc x_MM x_EX (d + 1) k_X6_get [.ref 12, .int (nI (stN n m + t))] (w_C n cs tl bb) Q := by
  have h1 := stN_le k
  have h2 := stN_mo n (show m + 1 ≤ 5 by omega)
  have h3 := stN_s n hm hm2
  have h4 := (List.getElem?_eq_some_iff.mp hc).1
  obtain ⟨b1, b2, b3, b4, b5, b6, b7⟩ := k.b3
  refine x_in (M := m_X6_get) rfl rfl (Nat.le_of_ble_eq_true rfl) ⟨rfl, rfl, trivial⟩ ?_
  intro P hP
  repeat refine hP _ _ _ _ ?_
  refine And.intro (vp_in_nI (by omega) (by omega)) ?_
  rw [ldv (f := cs.2 13) (hE.2 m t c hm2 (by omega) hc) (by omega)]
  repeat refine hP _ _ _ _ ?_
  exact hQ
end K3
