/-! ===== the class: what colours take ===== -/
theorem seeN_sym (n w h a b : Nat) : seeN n w h a b = seeN n w h b a := by
  unfold seeN
  have e1 : (a != b) = (b != a) := by rw [Bool.eq_iff_iff, bne_iff_ne, bne_iff_ne]; exact ⟨fun h e => h e.symm, fun h e => h e.symm⟩
  have e2 : ∀ x y : Nat, (x == y) = (y == x) := fun x y => by rw [Bool.eq_iff_iff, beq_iff_eq, beq_iff_eq]; exact eq_comm
  rw [e1, e2 (a / n), e2 (a % n), e2 (boxN n w h a)]
theorem clB_t {n w h N : Nat} {x : Nat → Bool} : clB n w h x N = true ↔ ∃ a b, a < N ∧ b < N ∧ x a = true ∧ x b = true ∧ seeN n w h a b = true := by
  unfold clB
  rw [List.any_eq_true]
  constructor
  · rintro ⟨a, ha, h1⟩
    rw [List.any_eq_true] at h1
    obtain ⟨b, hb, h2⟩ := h1
    rw [Bool.and_eq_true, Bool.and_eq_true] at h2
    rw [List.mem_range] at ha hb
    exact ⟨a, b, ha, by omega, h2.2.1, h2.2.2, h2.1⟩
  · rintro ⟨a, b, ha, hb, xa, xb, hs⟩
    rcases Nat.lt_or_gt_of_ne (seeN_ne hs) with h7 | h7
    · refine ⟨b, List.mem_range.mpr hb, ?_⟩
      rw [List.any_eq_true]
      exact ⟨a, List.mem_range.mpr h7, by rw [seeN_sym, hs, xa, xb]; rfl⟩
    · refine ⟨a, List.mem_range.mpr ha, ?_⟩
      rw [List.any_eq_true]
      exact ⟨b, List.mem_range.mpr h7, by rw [hs, xa, xb]; rfl⟩
theorem cN_m (j : Nat) (x : Bool) : j % 2 = cN x ↔ (j % 2 == 0) = x := by
  rcases Nat.mod_two_eq_zero_or_one j with h0 | h0 <;> rw [h0] <;> cases x <;> decide
def scA (J : Nat → Nat) (x : Bool) (s k : Nat) : Nat → Nat := fun e => if (List.range k).any fun j => J j == 2 * e + cN x then 2 ^ s else 0
theorem scA_no {J : Nat → Nat} {x : Bool} {s k : Nat} (h : J k % 2 ≠ cN x) : scA J x s (k + 1) = scA J x s k := by
  funext e
  unfold scA
  rw [any_s, show (J k == 2 * e + cN x) = false from beq_eq_false_iff_ne.mpr fun e9 => h (by rw [e9]; cases x <;> simp [cN] <;> omega), Bool.or_false]
theorem scA_yes {J : Nat → Nat} {x : Bool} {s k : Nat} (h : J k % 2 = cN x) : (fun e => if e = J k / 2 then scA J x s k (J k / 2) ||| 2 ^ s else scA J x s k e) = scA J x s (k + 1) := by
  funext e
  have hk : ∀ e, (J k == 2 * e + cN x) = (e == J k / 2) := fun e => by
    rw [Bool.eq_iff_iff, beq_iff_eq, beq_iff_eq]
    have : cN x < 2 := by cases x <;> decide
    omega
  unfold scA
  rw [any_s, hk]
  by_cases he : e = J k / 2
  · rw [if_pos he, he, beq_self_eq_true, Bool.or_true, if_pos rfl]
    split
    · exact Nat.or_self _
    · exact Nat.zero_or _
  · rw [if_neg he, beq_eq_false_iff_ne.mpr he, Bool.or_false]
def snA (J : Nat → Nat) (n w h e : Nat) (x : Bool) (k : Nat) : Bool := (List.range k).any fun j => (J j % 2 == cN x) && seeN n w h e (J j / 2)
def sv (p q : Bool) : Nat := (if p then 1 else 0) ||| (if q then 2 else 0)
theorem sv_or : ∀ p q : Bool, nI (sv p q) ||| (Int32.ofInt 1 <<< (nI 0 &&& 31)) = nI (sv true q) ∧ nI (sv p q) ||| (Int32.ofInt 1 <<< (nI 1 &&& 31)) = nI (sv p true) ∧ (sv p q = 3 ↔ (p = true ∧ q = true)) ∧ sv p q < 4 := by decide
theorem mv_o : ∀ p q r : Bool, (mv p q r = 0 ∨ mv p q r = 4 ↔ (p || q) = false) ∧ mv p q r < 8 := by decide
section KB
variable {sc : Nat × (Nat → Int32)} {cs : x_S} {tl : List x_C} {bb : Nat × Nat} {n w h d : Nat} {Q : x_O → x_H → Prop} {cb : Nat → Nat} {vb : Nat → Option Nat} {lt dk lf : Nat → Bool} {m : Nat} {J : Nat → Nat}
theorem joC.le (hJ : joC cs n m J lt dk) : m ≤ 2 * (n * n) := by
  have h1 := rcN_le lt (n * n)
  have h2 := rcN_le dk (n * n)
  have h3 := hJ.2.1
  omega
theorem frS.j {a b : x_S} (h : frS a b) (hJ : joC a n m J lt dk) : joC b n m J lt dk := ⟨(h.1 5 (by decide)).trans hJ.1, hJ.2.1, fun i hi => by rw [h.2 17 (by decide)]; exact hJ.2.2.1 i hi, hJ.2.2.2⟩
theorem frB.j {a b : x_S} (h : frB a b) (hJ : joC a n m J lt dk) : joC b n m J lt dk := ⟨(h.1 5 (by decide)).trans hJ.1, hJ.2.1, fun i hi => by rw [h.2 17 (by decide)]; exact hJ.2.2.1 i hi, hJ.2.2.2⟩
theorem frS.mr {a b : x_S} (h : frS a b) (hK : mrC a n lt dk lf) : mrC b n lt dk lf := fun c hc => by rw [h.2 16 (by decide)]; exact hK c hc
theorem c_clash (hG : gC cs n w h) (hJ : joC cs n m J lt dk) {x : Bool} {z : Int32} (hz : z = nI (cN x)) (hQ : Q (.inl (some (.int (bI (clB n w h (xc lt dk x) (n * n)))))) (w_C n cs tl bb)) : x_run sc x_MM x_EX (d + 2) k_X0_clash [.ref 15, .ref 2, .int z] (w_C n cs tl bb) Q := by
  subst hz
  have hk := hG.1
  obtain ⟨g1, g2, g3, g4, g5, g6, g7, g8⟩ := hk.le
  have hm2 := hJ.le
  obtain ⟨j1, j2, j3, j4⟩ := hJ
  have c2 : cN x < 2 := by cases x <;> decide
  refine x_in (M := m_X0_clash) rfl rfl (Nat.le_of_ble_eq_true rfl) ⟨rfl, rfl, rfl, trivial⟩ ?_
  intro P hP
  have loop : ∀ i, i ≤ m → (∀ i', i' < i → ∀ j', j' < i' → J i' % 2 = cN x → J j' % 2 = cN x → seeN n w h (J i' / 2) (J j' / 2) = false) → ∀ x4 x5, P 2 [some (.ref 15), some (.ref 2), some (.int (nI (cN x))), some (.int (nI i)), x4, x5] [] (w_C n cs tl bb) := by
    refine x_lp m (fun i hi ih hz x4 x5 => ?_)
    repeat refine hP _ _ _ _ ?_
    refine b_ge (i) (m) (fun hi9 => ?_) (fun hi9 => ?_) (rfl) (j1) (by omega) (by omega)
    · have e9 : i = m := by omega
      subst e9
      have hno : clB n w h (xc lt dk x) (n * n) = false := by
        cases hh : clB n w h (xc lt dk x) (n * n) with
        | false => rfl
        | true =>
          exfalso
          obtain ⟨a, b, ha, hb, xa, xb, hs⟩ := clB_t.mp hh
          obtain ⟨ia, ia1, ia2⟩ := j4 a x ha xa
          obtain ⟨ib, ib1, ib2⟩ := j4 b x hb xb
          have da : J ia / 2 = a := by omega
          have db : J ib / 2 = b := by omega
          have ma : J ia % 2 = cN x := by omega
          have mb : J ib % 2 = cN x := by omega
          have hne := seeN_ne hs
          rcases Nat.lt_trichotomy ia ib with h7 | h7 | h7
          · have := hz ib ib1 ia h7 mb ma
            rw [da, db, seeN_sym, hs] at this
            cases this
          · rw [h7, db] at da
            exact hne da.symm
          · have := hz ia ia1 ib h7 ma mb
            rw [da, db, hs] at this
            cases this
      rw [hno] at hQ
      repeat refine hP _ _ _ _ ?_
      exact And.intro rfl hQ
    · have ih := ih hi9
      obtain ⟨p1, p2, p3⟩ := j3 i hi9
      have lpj : ∀ j, j ≤ i → (∀ j', j' < j → J i % 2 = cN x → J j' % 2 = cN x → seeN n w h (J i / 2) (J j' / 2) = false) → ∀ x5, P 13 [some (.ref 15), some (.ref 2), some (.int (nI (cN x))), some (.int (nI i)), some (.int (nI j)), x5] [] (w_C n cs tl bb) := by
        refine x_lp i (fun j hj ihj hzj x5 => ?_)
        repeat refine hP _ _ _ _ ?_
        refine b_ge (j) (i) (fun hj9 => ?_) (fun hj9 => ?_) (rfl) (rfl) (by omega) (by omega)
        · have e9 : j = i := by omega
          subst e9
          iterate 2 refine hP _ _ _ _ ?_
          refine x_p4 (P := P) (ih (all_lt hz hzj) (some (.int (nI j))) x5) ?_ rfl ?_ <;> try (first | rfl | (rw [nI_succ]; rfl))
        · have ihj := ihj hj9
          obtain ⟨q1, q2, q3⟩ := j3 j (by omega)
          have tst : ∀ b : Bool, (b = true ↔ (J i % 2 = cN x ∧ J j % 2 = cN x)) → P 49 [some (.ref 15), some (.ref 2), some (.int (nI (cN x))), some (.int (nI i)), some (.int (nI j)), x5] [.int (bI b)] (w_C n cs tl bb) := by
            intro b hb
            repeat refine hP _ _ _ _ ?_
            refine b_ifeq (fun hq => ?_) (fun hq => ?_) (rfl)
            · iterate 2 refine hP _ _ _ _ ?_
              refine x_p4 (P := P) (ihj (all_lt hzj (fun h1 h2 => absurd (hb.mpr ⟨h1, h2⟩) (by rw [hq]; decide))) (some (.int (bI b)))) ?_ rfl ?_ <;> try (first | rfl | (rw [nI_succ]; rfl))
            · have hbb := hb.mp hq
              repeat refine hP _ _ _ _ ?_
              refine And.intro (vp_in_nI (by omega) (by omega)) ?_
              rw [ldv (f := cs.2 17) p1 (by omega)]
              repeat refine hP _ _ _ _ ?_
              refine And.intro (vp_in_nI (by omega) (by omega)) ?_
              rw [ldv (f := cs.2 17) q1 (by omega)]
              repeat refine hP _ _ _ _ ?_
              refine c_see hG p2 q2 (sh_half (by omega)) (sh_half (by omega)) ?_
              repeat refine hP _ _ _ _ ?_
              refine b_ifeq (fun hs => ?_) (fun hs => ?_) (rfl)
              · iterate 2 refine hP _ _ _ _ ?_
                refine x_p4 (P := P) (ihj (all_lt hzj (fun _ _ => hs)) (some (.int (bI b)))) ?_ rfl ?_ <;> try (first | rfl | (rw [nI_succ]; rfl))
              · have xi : xc lt dk x (J i / 2) = true := by rw [(cN_m _ _).mp hbb.1] at p3; exact p3
                have xj : xc lt dk x (J j / 2) = true := by rw [(cN_m _ _).mp hbb.2] at q3; exact q3
                rw [clB_t.mpr ⟨_, _, p2, q2, xi, xj, hs⟩] at hQ
                repeat refine hP _ _ _ _ ?_
                exact And.intro rfl hQ
          repeat refine hP _ _ _ _ ?_
          refine And.intro (vp_in_nI (by omega) (by omega)) ?_
          rw [ldv (f := cs.2 17) p1 (by omega)]
          repeat refine hP _ _ _ _ ?_
          refine b_ne (J i % 2) (cN x) (fun h1 => ?_) (fun h1 => ?_) (and_one _) (rfl) (by omega) (by omega)
          · refine hP _ _ _ _ ?_
            refine x_p4 (P := P) (tst false ⟨fun e => absurd e (by decide), fun e => absurd e.1 h1⟩) ?_ rfl ?_ <;> try (first | rfl | (rw [nI_succ]; rfl))
          · repeat refine hP _ _ _ _ ?_
            refine And.intro (vp_in_nI (by omega) (by omega)) ?_
            rw [ldv (f := cs.2 17) q1 (by omega)]
            repeat refine hP _ _ _ _ ?_
            refine b_ne (J j % 2) (cN x) (fun h2 => ?_) (fun h2 => ?_) (and_one _) (rfl) (by omega) (by omega)
            · refine hP _ _ _ _ ?_
              refine x_p4 (P := P) (tst false ⟨fun e => absurd e (by decide), fun e => absurd e.2 h2⟩) ?_ rfl ?_ <;> try (first | rfl | (rw [nI_succ]; rfl))
            · iterate 2 refine hP _ _ _ _ ?_
              refine x_p4 (P := P) (tst true ⟨fun _ => ⟨h1, h2⟩, fun _ => rfl⟩) ?_ rfl ?_ <;> try (first | rfl | (rw [nI_succ]; rfl))
      iterate 2 refine hP _ _ _ _ ?_
      refine x_p4 (P := P) (lpj 0 (by omega) (fun j' hj' => absurd hj' (Nat.not_lt_zero j')) x5) ?_ rfl ?_ <;> try (first | rfl | (rw [nI_succ]; rfl))
  iterate 2 refine hP _ _ _ _ ?_
  refine x_p4 (P := P) (loop 0 (by omega) (fun i' hi' => absurd hi' (Nat.not_lt_zero i')) none none) ?_ rfl ?_ <;> try (first | rfl | (rw [nI_succ]; rfl))
theorem c_strikeColour (k : KD n w h) (hJ : joC cs n m J lt dk) (hO : oC cs n (fun _ => 0)) {x : Bool} {s : Nat} (hs : s < n) {z : Int32} (hz : z = nI (cN x)) (hQ : ∀ cs3, frS cs cs3 → oC cs3 n (fun e => if xc lt dk x e then 2 ^ s else 0) → Q (.inl none) (w_C n cs3 tl bb)) : x_run sc x_MM x_EX (d + 3) k_X0_strikeColour [.ref 15, .ref 9, .int z, .int (nI s)] (w_C n cs tl bb) Q := by
  subst hz
  obtain ⟨g1, g2, g3, g4, g5, g6, g7, g8⟩ := k.le
  have hm2 := hJ.le
  have c2 : cN x < 2 := by cases x <;> decide
  have h2s : 2 ^ s < 512 := Nat.lt_of_lt_of_le (p2_lt hs) (Nat.pow_le_pow_right (by omega) g2)
  refine x_in (M := m_X0_strikeColour) rfl rfl (Nat.le_of_ble_eq_true rfl) ⟨rfl, rfl, rfl, rfl, trivial⟩ ?_
  intro P hP
  have loop : ∀ i, i ≤ m → ∀ cs2 : x_S, frS cs cs2 → oC cs2 n (scA J x s i) → P 3 [some (.ref 15), some (.ref 9), some (.int (nI (cN x))), some (.int (nI s)), some (.int (nI i))] [] (w_C n cs2 tl bb) := by
    refine x_lp m (fun i hi ih cs2 hf ho => ?_)
    have hJ2 := hf.j hJ
    repeat refine hP _ _ _ _ ?_
    refine b_ge (i) (m) (fun hi9 => ?_) (fun hi9 => ?_) (rfl) (hJ2.1) (by omega) (by omega)
    · have e9 : i = m := by omega
      subst e9
      repeat refine hP _ _ _ _ ?_
      refine hQ cs2 hf (oC_congr ho (fun e he => ?_))
      unfold scA
      congr 1
      rw [eq_iff_iff, List.any_eq_true]
      constructor
      · rintro ⟨j, hj, h1⟩
        rw [List.mem_range] at hj
        rw [beq_iff_eq] at h1
        obtain ⟨_, _, q3⟩ := hJ.2.2.1 j hj
        rw [(cN_m (J j) x).mp (by omega), show J j / 2 = e by omega] at q3
        exact q3
      · intro hx
        obtain ⟨j, hj, e2⟩ := hJ.2.2.2 e x he hx
        exact ⟨j, List.mem_range.mpr hj, by rw [e2]; simp⟩
    · have ih := ih hi9
      obtain ⟨p1, p2, p3⟩ := hJ2.2.2.1 i hi9
      repeat refine hP _ _ _ _ ?_
      refine And.intro (vp_in_nI (by omega) (by omega)) ?_
      rw [ldv (f := cs2.2 17) p1 (by omega)]
      repeat refine hP _ _ _ _ ?_
      refine b_ne (J i % 2) (cN x) (fun h1 => ?_) (fun h1 => ?_) (and_one _) (rfl) (by omega) (by omega)
      · rw [scA_no h1] at ih
        iterate 2 refine hP _ _ _ _ ?_
        refine x_p4 (P := P) (ih cs2 hf ho) ?_ rfl ?_ <;> try (first | rfl | (rw [nI_succ]; rfl))
      · repeat refine hP _ _ _ _ ?_
        refine And.intro (vp_in_nI (by omega) (by omega)) ?_
        rw [ldv (f := cs2.2 17) p1 (by omega)]
        repeat refine hP _ _ _ _ ?_
        refine c_str ho k p2 h2s (sh_half (by omega)) (sh1 (by omega)) (fun cs4 hf4 ho4 => ?_)
        rw [scA_yes h1] at ho4
        iterate 2 refine hP _ _ _ _ ?_
        refine x_p4 (P := P) (ih cs4 (hf.tr hf4) ho4) ?_ rfl ?_ <;> try (first | rfl | (rw [nI_succ]; rfl))
  iterate 2 refine hP _ _ _ _ ?_
  refine x_p4 (P := P) (loop 0 (by omega) cs (frS.rf cs) hO) ?_ rfl ?_ <;> try (first | rfl | (rw [nI_succ]; rfl))
theorem c_strikeOthers (hB : bC cs n w h cb vb) (hJ : joC cs n m J lt dk) (hK : mrC cs n lt dk lf) (hO : oC cs n (fun _ => 0)) {s : Nat} (hs : s < n) (hQ : ∀ cs3, frS cs cs3 → oC cs3 n (fun e => if decide (e < n * n) && (!(lt e || dk e) && soB n w h lt e && soB n w h dk e) then cb e &&& 2 ^ s else 0) → Q (.inl none) (w_C n cs3 tl bb)) : x_run sc x_MM x_EX (d + 3) k_X0_strikeOthers [.ref 15, .ref 2, .ref 9, .int (nI s)] (w_C n cs tl bb) Q := by
  have hk := hB.1.1
  obtain ⟨g1, g2, g3, g4, g5, g6, g7, g8⟩ := hk.le
  have hm2 := hJ.le
  generalize hW : (fun e => !(lt e || dk e) && soB n w h lt e && soB n w h dk e) = W at *
  have hQ : ∀ cs3, frS cs cs3 → oC cs3 n (fun e => if decide (e < n * n) && W e then cb e &&& 2 ^ s else 0) → Q (.inl none) (w_C n cs3 tl bb) := by rw [← hW]; exact hQ
  refine x_in (M := m_X0_strikeOthers) rfl rfl (Nat.le_of_ble_eq_true rfl) ⟨rfl, rfl, rfl, rfl, trivial⟩ ?_
  intro P hP
  have loop : ∀ e, e ≤ n * n → ∀ cs2 : x_S, frS cs cs2 → oC cs2 n (fun i => if decide (i < e) && W i then cb i &&& 2 ^ s else 0) → ∀ x5 x6 x7, P 3 [some (.ref 15), some (.ref 2), some (.ref 9), some (.int (nI s)), some (.int (nI e)), x5, x6, x7] [] (w_C n cs2 tl bb) := by
    refine x_lp (n * n) (fun e he ih cs2 hf ho x5 x6 x7 => ?_)
    have hJ2 := hf.j hJ
    have hK2 := hf.mr hK
    obtain ⟨hG2, hC2, hV2, hP2, hE2⟩ := hf.sc.b hB
    repeat refine hP _ _ _ _ ?_
    refine b_ge (e) (n * n) (fun he9 => ?_) (fun he9 => ?_) (rfl) (rfl) (by omega) (by omega)
    · have e9 : e = n * n := by omega
      subst e9
      repeat refine hP _ _ _ _ ?_
      exact hQ cs2 hf ho
    · have ih := ih he9
      have hstep : W e = false → (fun i => if decide (i < e + 1) && W i then cb i &&& 2 ^ s else 0) = (fun i => if decide (i < e) && W i then cb i &&& 2 ^ s else 0) := by
        intro hw
        funext i
        by_cases hie : i = e
        · subst hie; rw [hw, Bool.and_false, Bool.and_false]
        · rw [show decide (i < e + 1) = decide (i < e) by rw [decide_eq_decide]; omega]
      have hstep2 : W e = true → (fun i => if i = e then (if decide (e < e) && W e then cb e &&& 2 ^ s else 0) ||| (cb e &&& 2 ^ s) else (if decide (i < e) && W i then cb i &&& 2 ^ s else 0)) = (fun i => if decide (i < e + 1) && W i then cb i &&& 2 ^ s else 0) := by
        intro hw
        funext i
        by_cases hie : i = e
        · subst hie; rw [if_pos rfl, decide_eq_false (Nat.lt_irrefl i), decide_eq_true (Nat.lt_succ_self i), hw]; simp
        · rw [if_neg hie, show decide (i < e + 1) = decide (i < e) by rw [decide_eq_decide]; omega]
      have hWe : W e = (!(lt e || dk e) && soB n w h lt e && soB n w h dk e) := by rw [← hW]
      have hmo := mv_o (lt e) (dk e) (lf e)
      have fin : ∀ (b p q : Bool), W e = (b && (p && q)) → (b = false → p = false) → ∀ x7, P 101 [some (.ref 15), some (.ref 2), some (.ref 9), some (.int (nI s)), some (.int (nI e)), some (.int (bI b)), some (.int (nI (sv p q))), x7] [] (w_C n cs2 tl bb) := by
        intro b p q hw hbp x7
        have h3 := (sv_or p q).2.2
        repeat refine hP _ _ _ _ ?_
        refine b_ne (sv p q) (3) (fun hs3 => ?_) (fun hs3 => ?_) (rfl) (oi3) (by omega) (by omega)
        · have hwf : W e = false := by
            rw [hw]
            cases p <;> cases q <;> simp_all
          rw [hstep hwf] at ih
          iterate 2 refine hP _ _ _ _ ?_
          refine x_p4 (P := P) (ih cs2 hf ho (some (.int (bI b))) (some (.int (nI (sv p q)))) x7) ?_ rfl ?_ <;> try (first | rfl | (rw [nI_succ]; rfl))
        · have hpq := h3.1.mp hs3
          have hwt : W e = true := by
            rw [hw, hpq.1, hpq.2]
            cases b with
            | true => rfl
            | false => rw [hbp rfl] at hpq; exact absurd hpq.1 (by decide)
          repeat refine hP _ _ _ _ ?_
          refine And.intro (vp_in_nI he9 (by omega)) ?_
          rw [ldv (f := cs2.2 3) (hC2 e he9).1 (by omega)]
          repeat refine hP _ _ _ _ ?_
          refine c_str ho hk he9 (m := cb e &&& 2 ^ s) (and_lt9 (hC2.lt g2 he9)) rfl (by rw [sh1 (show s < 10 by omega), nx_and]) (fun cs4 hf4 ho4 => ?_)
          have ho4 : oC cs4 n (fun i => if i = e then (if decide (e < e) && W e then cb e &&& 2 ^ s else 0) ||| (cb e &&& 2 ^ s) else (if decide (i < e) && W i then cb i &&& 2 ^ s else 0)) := ho4
          rw [hstep2 hwt] at ho4
          iterate 2 refine hP _ _ _ _ ?_
          refine x_p4 (P := P) (ih cs4 (hf.tr hf4) ho4 (some (.int (bI b))) (some (.int (nI (sv p q)))) x7) ?_ rfl ?_ <;> try (first | rfl | (rw [nI_succ]; rfl))
      have so_sn : ∀ x : Bool, snA J n w h e x m = soB n w h (xc lt dk x) e := by
        intro x
        unfold snA soB
        have c2 : cN x < 2 := by cases x <;> decide
        rw [Bool.eq_iff_iff, List.any_eq_true, List.any_eq_true]
        constructor
        · rintro ⟨j, hj, h1⟩
          rw [Bool.and_eq_true, beq_iff_eq] at h1
          obtain ⟨_, q2, q3⟩ := hJ.2.2.1 j (List.mem_range.mp hj)
          rw [(cN_m (J j) x).mp h1.1] at q3
          exact ⟨J j / 2, List.mem_range.mpr q2, by rw [h1.2, q3]; rfl⟩
        · rintro ⟨c, hc, h1⟩
          rw [Bool.and_eq_true] at h1
          obtain ⟨j, hj, e2⟩ := hJ.2.2.2 c x (List.mem_range.mp hc) h1.2
          refine ⟨j, List.mem_range.mpr hj, ?_⟩
          rw [Bool.and_eq_true, beq_iff_eq, show J j / 2 = c by omega]
          exact ⟨by omega, h1.1⟩
      have sees : (lt e || dk e) = false → ∀ i, i ≤ m → P 47 [some (.ref 15), some (.ref 2), some (.ref 9), some (.int (nI s)), some (.int (nI e)), some (.int (bI true)), some (.int (nI (sv (snA J n w h e true i) (snA J n w h e false i)))), some (.int (nI i))] [] (w_C n cs2 tl bb) := by
        intro hno
        refine x_lp m (fun i hi ihi => ?_)
        repeat refine hP _ _ _ _ ?_
        refine b_ifeq (fun h0 => ?_) (fun h0 => ?_) (rfl)
        · cases h0
        · repeat refine hP _ _ _ _ ?_
          refine b_ge (i) (m) (fun hi9 => ?_) (fun hi9 => ?_) (rfl) (hJ2.1) (by omega) (by omega)
          · have e9 : i = m := by omega
            subst e9
            have e1 := so_sn true
            have e2 := so_sn false
            exact fin true _ _ (by rw [hWe, hno, e1, e2]; rfl) (fun h9 => by cases h9) _
          · have ihi := ihi hi9
            obtain ⟨p1, p2, p3⟩ := hJ2.2.2.1 i hi9
            have es : ∀ x, snA J n w h e x (i + 1) = (snA J n w h e x i || ((J i % 2 == cN x) && seeN n w h e (J i / 2))) := fun x => any_s _ i
            rw [es, es] at ihi
            repeat refine hP _ _ _ _ ?_
            refine And.intro (vp_in_nI (by omega) (by omega)) ?_
            rw [ldv (f := cs2.2 17) p1 (by omega)]
            repeat refine hP _ _ _ _ ?_
            refine c_see hG2 he9 p2 rfl (sh_half (by omega)) ?_
            repeat refine hP _ _ _ _ ?_
            refine b_ifeq (fun hsee => ?_) (fun hsee => ?_) (rfl)
            · rw [hsee, Bool.and_false, Bool.and_false, Bool.or_false, Bool.or_false] at ihi
              iterate 2 refine hP _ _ _ _ ?_
              refine x_p4 (P := P) (ihi) ?_ rfl ?_ <;> try (first | rfl | (rw [nI_succ]; rfl))
            · rw [hsee, Bool.and_true, Bool.and_true] at ihi
              repeat refine hP _ _ _ _ ?_
              refine And.intro (vp_in_nI (by omega) (by omega)) ?_
              rw [ldv (f := cs2.2 17) p1 (by omega)]
              have hv := sv_or (snA J n w h e true i) (snA J n w h e false i)
              rcases Nat.mod_two_eq_zero_or_one (J i) with h9 | h9
              · rw [h9, show ((0 : Nat) == cN true) = true from rfl, show ((0 : Nat) == cN false) = false from rfl, Bool.or_true, Bool.or_false, ← hv.1, ← show nI (J i) &&& Int32.ofInt 1 = nI 0 by rw [and_one, h9]] at ihi
                iterate 7 refine hP _ _ _ _ ?_
                refine x_p4 (P := P) (ihi) ?_ rfl ?_ <;> try (first | rfl | (rw [nI_succ]; rfl))
              · rw [h9, show ((1 : Nat) == cN true) = false from rfl, show ((1 : Nat) == cN false) = true from rfl, Bool.or_true, Bool.or_false, ← hv.2.1, ← show nI (J i) &&& Int32.ofInt 1 = nI 1 by rw [and_one, h9]] at ihi
                iterate 7 refine hP _ _ _ _ ?_
                refine x_p4 (P := P) (ihi) ?_ rfl ?_ <;> try (first | rfl | (rw [nI_succ]; rfl))
      have oth : (lt e || dk e) = false → P 34 [some (.ref 15), some (.ref 2), some (.ref 9), some (.int (nI s)), some (.int (nI e)), x5, x6, x7] [] (w_C n cs2 tl bb) := by
        intro hno
        have s0 := sees hno 0 (by omega)
        rw [show sv (snA J n w h e true 0) (snA J n w h e false 0) = 0 by unfold snA; simp [sv]] at s0
        iterate 7 refine hP _ _ _ _ ?_
        refine x_p4 (P := P) (s0) ?_ rfl ?_ <;> try (first | rfl | (rw [nI_succ]; rfl))
      have mine : (lt e || dk e) = true → P 38 [some (.ref 15), some (.ref 2), some (.ref 9), some (.int (nI s)), some (.int (nI e)), x5, x6, x7] [] (w_C n cs2 tl bb) := by
        intro hyes
        have f9 := fin false false false (by rw [hWe, hyes]; rfl) (fun _ => rfl) (some (.int (nI 0)))
        repeat refine hP _ _ _ _ ?_
        refine b_ifeq (fun h0 => ?_) (fun h0 => ?_) ((show Int32.ofInt 0 = bI false from rfl))
        · skip
          refine x_p4 (P := P) (f9) rfl rfl rfl
        · cases h0
      repeat refine hP _ _ _ _ ?_
      refine And.intro (vp_in_nI he9 (by omega)) ?_
      rw [ldv (f := cs2.2 16) (hK2 e he9) (by omega)]
      repeat refine hP _ _ _ _ ?_
      refine And.intro (fun h0 => ?_) (fun h0 => ?_)
      · have h0 : nI (mv (lt e) (dk e) (lf e)) = 0 := h0
        rw [nI_z (by omega)] at h0
        exact oth (hmo.1.mp (Or.inl h0))
      · have h0 : ¬ nI (mv (lt e) (dk e) (lf e)) = 0 := h0
        rw [nI_z (by omega)] at h0
        repeat refine hP _ _ _ _ ?_
        refine And.intro (vp_in_nI he9 (by omega)) ?_
        rw [ldv (f := cs2.2 16) (hK2 e he9) (by omega)]
        repeat refine hP _ _ _ _ ?_
        refine b_ne (mv (lt e) (dk e) (lf e)) (4) (fun h4 => ?_) (fun h4 => ?_) (rfl) (oi4) (by omega) (by omega)
        · cases hj : (lt e || dk e) with
          | true => exact mine hj
          | false => rcases hmo.1.mpr hj with h7 | h7; exact absurd h7 h0; exact absurd h7 h4
        · exact oth (hmo.1.mp (Or.inr h4))
  iterate 2 refine hP _ _ _ _ ?_
  refine x_p4 (P := P) (loop 0 (by omega) cs (frS.rf cs) (oC_congr hO (fun e _ => by rw [decide_eq_false (Nat.not_lt_zero e), Bool.false_and]; rfl)) none none none) ?_ rfl ?_ <;> try (first | rfl | (rw [nI_succ]; rfl))
theorem c_leaveBehind (k : KD n w h) (hJ : joC cs n m J lt dk) (hK : mrC cs n lt dk lf) (hQ : ∀ cs', frJ cs cs' → mrC cs' n (fun _ => false) (fun _ => false) (fun c => lf c || (lt c || dk c)) → Q (.inl none) (w_C n cs' tl bb)) : x_run sc x_MM x_EX (d + 1) k_X0_leaveBehind [.ref 15] (w_C n cs tl bb) Q := by
  obtain ⟨g1, g2, g3, g4, g5, g6, g7, g8⟩ := k.le
  have hm2 := hJ.le
  refine x_in (M := m_X0_leaveBehind) rfl rfl (Nat.le_of_ble_eq_true rfl) ⟨rfl, trivial⟩ ?_
  intro P hP
  have loop : ∀ i, i ≤ m → ∀ A : Nat → Int32, (∀ c, c < n * n → A c = if (List.range i).any fun j => J j / 2 == c then nI 4 else nI (mv (lt c) (dk c) (lf c))) → P 2 [some (.ref 15), some (.int (nI i))] [] (w_C n (sA cs 16 A) tl bb) := by
    refine x_lp m (fun i hi ih A hA => ?_)
    repeat refine hP _ _ _ _ ?_
    refine b_ge (i) (m) (fun hi9 => ?_) (fun hi9 => ?_) (rfl) (hJ.1) (by omega) (by omega)
    · have e9 : i = m := by omega
      subst e9
      repeat refine hP _ _ _ _ ?_
      refine hQ (sA cs 16 A) ⟨fun _ _ => rfl, fun p h1 _ => by show (if p = 16 then A else cs.2 p) = _; rw [if_neg h1]⟩ (fun c hc => ?_)
      show A c = nI (mv false false (lf c || (lt c || dk c)))
      rw [hA c hc]
      cases hh : (List.range i).any fun j => J j / 2 == c with
      | true =>
        rw [List.any_eq_true] at hh
        obtain ⟨j, hj, h1⟩ := hh
        rw [beq_iff_eq] at h1
        obtain ⟨_, _, q3⟩ := hJ.2.2.1 j (List.mem_range.mp hj)
        rw [h1] at q3
        have : (lt c || dk c) = true := by
          cases hx : (J j % 2 == 0) with
          | true => rw [hx] at q3; have q3 : lt c = true := q3; rw [q3]; rfl
          | false => rw [hx] at q3; have q3 : dk c = true := q3; rw [q3]; exact Bool.or_true _
        rw [this, Bool.or_true]
        rfl
      | false =>
        rw [List.any_eq_false] at hh
        have hno : ∀ x, xc lt dk x c = false := by
          intro x
          cases hx : xc lt dk x c with
          | false => rfl
          | true =>
            exfalso
            obtain ⟨j, hj, e2⟩ := hJ.2.2.2 c x hc hx
            have c2 : cN x < 2 := by cases x <;> decide
            exact hh j (List.mem_range.mpr hj) (by rw [beq_iff_eq]; omega)
        have h1 : lt c = false := hno true
        have h2 : dk c = false := hno false
        rw [h1, h2, Bool.or_self, Bool.or_false]
        rfl
    · have ih := ih hi9
      obtain ⟨p1, p2, p3⟩ := hJ.2.2.1 i hi9
      repeat refine hP _ _ _ _ ?_
      refine And.intro (vp_in_nI (by omega) (by omega)) ?_
      rw [ldv (f := (sA cs 16 A).2 17) p1 (by omega)]
      repeat refine hP _ _ _ _ ?_
      refine And.intro (vpx (sh_half (by omega)) p2 (by omega)) ?_
      rw [upx (f := (sA cs 16 A).2 16) (sh_half (by omega)) (by omega)]
      iterate 2 refine hP _ _ _ _ ?_
      refine x_p4 (P := P) (ih (upd A (J i / 2) (Int32.ofInt 4)) (fun c hc => by rw [any_s]; by_cases hcc : c = J i / 2; (rw [hcc, pk_us, beq_self_eq_true, Bool.or_true, if_pos rfl]; exact oi4); (rw [pk_un hcc, beq_eq_false_iff_ne.mpr (fun e9 => hcc e9.symm), Bool.or_false]; exact hA c hc))) ?_ rfl ?_ <;> try (first | rfl | (rw [nI_succ]; rfl))
  iterate 2 refine hP _ _ _ _ ?_
  refine x_p4 (P := P) (loop 0 (by omega) (cs.2 16) hK) ?_ rfl ?_
  · rfl
  · rfl
end KB
