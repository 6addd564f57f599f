/-! ===== the class: the seeker's frames, settle, strikes, reasons ===== -/
/-- all but the scratch is as it was -/
def scC (cs cs' : x_S) : Prop := (∀ k, k ≠ 1 → k ≠ 2 → k ≠ 3 → k ≠ 4 → k ≠ 5 → cs'.1 k = cs.1 k) ∧ ∀ p, p ≠ 10 → p ≠ 11 → p ≠ 16 → p ≠ 17 → p ≠ 18 → cs'.2 p = cs.2 p
theorem scC.rf (cs : x_S) : scC cs cs := ⟨fun _ _ _ _ _ _ => rfl, fun _ _ _ _ _ _ => rfl⟩
theorem scC.tr {a b c : x_S} (h1 : scC a b) (h2 : scC b c) : scC a c := ⟨fun k x1 x2 x3 x4 x5 => (h2.1 k x1 x2 x3 x4 x5).trans (h1.1 k x1 x2 x3 x4 x5), fun p x1 x2 x3 x4 x5 => (h2.2 p x1 x2 x3 x4 x5).trans (h1.2 p x1 x2 x3 x4 x5)⟩
theorem scC.f {cs : x_S} {k : Nat} {v : Int32} (h : k = 1 ∨ k = 2 ∨ k = 3 ∨ k = 4 ∨ k = 5) : scC cs (sF cs k v) := ⟨fun j h1 h2 h3 h4 h5 => by show upd cs.1 k v j = _; rw [pk_un (by omega)], fun _ _ _ _ _ _ => rfl⟩
theorem scC.a {cs : x_S} {p : Nat} {g : Nat → Int32} (h : p = 10 ∨ p = 11 ∨ p = 16 ∨ p = 17 ∨ p = 18) : scC cs (sA cs p g) := ⟨fun _ _ _ _ _ _ => rfl, fun q h1 h2 h3 h4 h5 => by show (if q = p then g else cs.2 q) = _; rw [if_neg (by omega)]⟩
/-- a strike's frame, a reason's frame -/
def frS (cs cs' : x_S) : Prop := (∀ k, k ≠ 3 → cs'.1 k = cs.1 k) ∧ ∀ p, p ≠ 10 → cs'.2 p = cs.2 p
def frB (cs cs' : x_S) : Prop := (∀ k, k ≠ 4 → cs'.1 k = cs.1 k) ∧ ∀ p, p ≠ 11 → cs'.2 p = cs.2 p
theorem frS.rf (cs : x_S) : frS cs cs := ⟨fun _ _ => rfl, fun _ _ => rfl⟩
theorem frB.rf (cs : x_S) : frB cs cs := ⟨fun _ _ => rfl, fun _ _ => rfl⟩
theorem frS.tr {a b c : x_S} (h1 : frS a b) (h2 : frS b c) : frS a c := ⟨fun k x => (h2.1 k x).trans (h1.1 k x), fun p x => (h2.2 p x).trans (h1.2 p x)⟩
theorem frB.tr {a b c : x_S} (h1 : frB a b) (h2 : frB b c) : frB a c := ⟨fun k x => (h2.1 k x).trans (h1.1 k x), fun p x => (h2.2 p x).trans (h1.2 p x)⟩
theorem frS.sc {a b : x_S} (h : frS a b) : scC a b := ⟨fun k _ _ x _ _ => h.1 k x, fun p x _ _ _ _ => h.2 p x⟩
theorem frB.sc {a b : x_S} (h : frB a b) : scC a b := ⟨fun k _ _ _ x _ => h.1 k x, fun p _ x _ _ _ => h.2 p x⟩
theorem frS.mk (cs : x_S) (g : Nat → Int32) (v : Int32) : frS cs (sF (sA cs 10 g) 3 v) := ⟨fun k hk => by show upd cs.1 3 v k = _; rw [pk_un hk], fun p hp => by show (if p = 10 then g else cs.2 p) = _; rw [if_neg hp]⟩
theorem frB.mk (cs : x_S) (g : Nat → Int32) (v : Int32) : frB cs (sF (sA cs 11 g) 4 v) := ⟨fun k hk => by show upd cs.1 4 v k = _; rw [pk_un hk], fun p hp => by show (if p = 11 then g else cs.2 p) = _; rw [if_neg hp]⟩
theorem frS.r {a b : x_S} {n : Nat} {rs : Nat → Bool} (h : frS a b) (hR : rC a n rs) : rC b n rs := ⟨(h.1 4 (by decide)).trans hR.1, fun j c e => by rw [h.2 11 (by decide)]; exact hR.2 j c e⟩
theorem frB.o {a b : x_S} {n : Nat} {go : Nat → Nat} (h : frB a b) (hO : oC a n go) : oC b n go := ⟨fun c hc => by rw [h.2 10 (by decide)]; exact hO.1 c hc, (h.1 3 (by decide)).trans hO.2⟩
/-- the bits of a list -/
def mkB : List Nat → Nat
  | [] => 0
  | i :: l => 2 ^ i ||| mkB l
/-- how many smaller sets stand before those of k -/
def stN (n k : Nat) : Nat := if k ≤ 2 then 0 else if k = 3 then (CC 2 n).length else if k = 4 then (CC 2 n).length + (CC 3 n).length else (CC 2 n).length + (CC 3 n).length + (CC 4 n).length
def seC (cs : x_S) (n : Nat) : Prop := (∀ k, 2 ≤ k → k ≤ 5 → cs.2 14 k = nI (stN n k)) ∧ ∀ k t c, 2 ≤ k → k ≤ 4 → (CC k n)[t]? = some c → cs.2 13 (stN n k + t) = nI (mkB c)
/-- all that the seeker reads -/
def bC (cs : x_S) (n w h : Nat) (cb : Nat → Nat) (vb : Nat → Option Nat) : Prop := gC cs n w h ∧ cC cs n cb ∧ vC cs n vb ∧ pC cs n w h cb ∧ seC cs n
theorem scC.b {a b : x_S} {n w h : Nat} {cb : Nat → Nat} {vb : Nat → Option Nat} (s : scC a b) (hB : bC a n w h cb vb) : bC b n w h cb vb := by
  obtain ⟨h1, h2, h3, h4, h5⟩ := hB
  have e3 := s.2 3 (by decide) (by decide) (by decide) (by decide) (by decide)
  have e4 := s.2 4 (by decide) (by decide) (by decide) (by decide) (by decide)
  have e5 := s.2 5 (by decide) (by decide) (by decide) (by decide) (by decide)
  have e6 := s.2 6 (by decide) (by decide) (by decide) (by decide) (by decide)
  have e7 := s.2 7 (by decide) (by decide) (by decide) (by decide) (by decide)
  have e8 := s.2 8 (by decide) (by decide) (by decide) (by decide) (by decide)
  have e13 := s.2 13 (by decide) (by decide) (by decide) (by decide) (by decide)
  have e14 := s.2 14 (by decide) (by decide) (by decide) (by decide) (by decide)
  unfold bC gC cC vC pC seC
  rw [e3, e4, e5, e6, e7, e8, e13, e14]
  exact ⟨h1, h2, h3, h4, h5⟩
/-- nothing is found yet -/
def zC (cs : x_S) (n : Nat) : Prop := cs.1 1 = -1 ∧ cs.1 2 = -1 ∧ oC cs n (fun _ => 0) ∧ rC cs n (fun _ => false)
/-- a finding -/
def rsC (cs : x_S) (n : Nat) (r : rS) : Prop := (cs.1 1 = vI (r.1.map Prod.fst) ∧ cs.1 2 = vI (r.1.map Prod.snd)) ∧ oC cs n r.2.1 ∧ rC cs n r.2.2
theorem oC_0 {cs : x_S} {n : Nat} {go : Nat → Nat} (hn : n * n ≤ 81) (hO : oC cs n go) (hz : anyG go = false) : oC cs n (fun _ => 0) := oC_congr hO (fun c hc => by
  cases h : go c with
  | zero => rfl
  | succ m =>
    have : anyG go = true := anyG_t.mpr ⟨c, by omega, by rw [h]; omega⟩
    rw [hz] at this
    cases this)
theorem setGk_0 (cb : Nat → Nat) (n w h c s : Nat) : ∀ e, e < n * n → (if e = c then 0 ||| clr (cb c) (2 ^ s) else 0) = setGk cb n w h c s 0 e := by
  intro e _
  unfold setGk
  rw [Nat.zero_or, if_neg (c := e < 0 ∧ seeN n w h c e = true) (fun x => absurd x.1 (Nat.not_lt_zero e))]
theorem setGk_no {cb : Nat → Nat} {n w h c s e : Nat} (hq : seeN n w h c e = false) : setGk cb n w h c s (e + 1) = setGk cb n w h c s e := by
  funext j
  unfold setGk
  by_cases hj : j = e
  · subst hj
    rw [if_neg (c := j < j + 1 ∧ seeN n w h c j = true) (fun x => by rw [hq] at x; cases x.2), if_neg (c := j < j ∧ seeN n w h c j = true) (fun x => absurd x.1 (Nat.lt_irrefl j))]
  · by_cases h2 : j < e ∧ seeN n w h c j = true
    · rw [if_pos h2, if_pos (c := j < e + 1 ∧ seeN n w h c j = true) ⟨by omega, h2.2⟩]
    · rw [if_neg h2, if_neg (c := j < e + 1 ∧ seeN n w h c j = true) (fun x => h2 ⟨by omega, x.2⟩)]
theorem setGk_yes {cb : Nat → Nat} {n w h c s e : Nat} (hq : seeN n w h c e = true) : (fun j => if j = e then setGk cb n w h c s e e ||| (cb e &&& 2 ^ s) else setGk cb n w h c s e j) = setGk cb n w h c s (e + 1) := by
  have hne := seeN_ne hq
  funext j
  unfold setGk
  by_cases hj : j = e
  · subst hj
    rw [if_pos rfl, if_neg (fun x => hne x.symm), if_neg (fun x => absurd x.1 (Nat.lt_irrefl j)), Nat.zero_or, if_neg (fun x => hne x.symm), if_pos ⟨by omega, hq⟩]
  · rw [if_neg hj]
    by_cases h2 : j < e ∧ seeN n w h c j = true
    · rw [if_pos h2, if_pos (c := j < e + 1 ∧ seeN n w h c j = true) ⟨by omega, h2.2⟩]
    · rw [if_neg h2, if_neg (c := j < e + 1 ∧ seeN n w h c j = true) (fun x => h2 ⟨by omega, x.2⟩)]
section K1
variable {sc : Nat × (Nat → Int32)} {cs : x_S} {tl : List x_C} {bb : Nat × Nat} {n w h d : Nat} {Q : x_O → x_H → Prop} {cb : Nat → Nat} {vb : Nat → Option Nat} {go : Nat → Nat} {rs : Nat → Bool}
theorem c_str (hO : oC cs n go) (k : KD n w h) {c m : Nat} (hc : c < n * n) (hm : m < 512) {x y : Int32} (hx : x = nI c) (hy : y = nI m) (hQ : ∀ cs3, frS cs cs3 → oC cs3 n (fun e => if e = c then go c ||| m else go e) → Q (.inl none) (w_C n cs3 tl bb)) : x_run sc x_MM x_EX (d + 2) k_X1_strike [.ref 9, .int x, .int y] (w_C n cs tl bb) Q := c_strike hO k hc hm hx hy (fun g v ho => hQ _ (frS.mk cs g v) ho)
theorem c_bec (k : KD n w h) (hR : rC cs n rs) {c : Nat} (hc : c < n * n) {x : Int32} (hx : x = nI c) (hQ : ∀ cs3, frB cs cs3 → rC cs3 n (updB rs c true) → Q (.inl none) (w_C n cs3 tl bb)) : x_run sc x_MM x_EX (d + 1) k_X1_because [.ref 9, .int x] (w_C n cs tl bb) Q := c_because k hR hc hx (fun g v hr => hQ _ (frB.mk cs g v) hr)
theorem and_lt9 {a m : Nat} (ha : a < 512) : a &&& m < 512 := Nat.lt_of_le_of_lt Nat.and_le_left ha
theorem c_settle (hB : bC cs n w h cb vb) (hZ : zC cs n) {c s : Nat} (hc : c < n * n) (hs : s < n) {x y : Int32} (hx : x = nI c) (hy : y = nI s) (hQ : ∀ cs', scC cs cs' → cs'.1 1 = nI c → cs'.1 2 = nI s → oC cs' n (setG cb n w h c s) → rC cs' n (fun _ => false) → Q (.inl none) (w_C n cs' tl bb)) : x_run sc x_MM x_EX (d + 3) k_X5_settle [.ref 1, .int x, .int y] (w_C n cs tl bb) Q := by
  subst hx; subst hy
  obtain ⟨hG, hC, hV, hP9, hE⟩ := hB
  obtain ⟨g1, g2, g3, g4, g5, g6, g7, g8⟩ := hG.1.le
  obtain ⟨z1, z2, z3, z4⟩ := hZ
  refine x_in (M := m_X5_settle) rfl rfl (Nat.le_of_ble_eq_true rfl) ⟨rfl, rfl, rfl, trivial⟩ ?_
  intro P hP
  repeat refine hP _ _ _ _ ?_
  refine And.intro (vp_in_nI hc (by omega)) ?_
  rw [ldv (f := cs.2 3) (hC c hc).1 (by omega)]
  repeat refine hP _ _ _ _ ?_
  have z3' : oC (sF (sF cs 1 (nI c)) 2 (nI s)) n (fun _ => 0) := z3
  refine c_str (cs := sF (sF cs 1 (nI c)) 2 (nI s)) z3' hG.1 hc (m := clr (cb c) (2 ^ s)) (Nat.lt_of_le_of_lt (clr_le _ _) (hC.lt g2 hc)) rfl (by rw [sh1 (show s < 10 by omega), oim, nx_not]) (fun cs3 hf ho => ?_)
  have loop : ∀ e, e ≤ n * n → ∀ cs2 : x_S, scC cs cs2 → cs2.1 1 = nI c → cs2.1 2 = nI s → oC cs2 n (setGk cb n w h c s e) → rC cs2 n (fun _ => false) → P 41 [some (.ref 1), some (.int (nI c)), some (.int (nI s)), some (.int (nI e))] [] (w_C n cs2 tl bb) := by
    refine x_lp (n * n) (fun e he ih cs2 hsc h1 h2 ho hr => ?_)
    obtain ⟨hG2, hC2, hV2, hP2, hE2⟩ := hsc.b ⟨hG, hC, hV, hP9, hE⟩
    repeat refine hP _ _ _ _ ?_
    refine b_ge (e) (n * n) (fun he9 => ?_) (fun he9 => ?_) (rfl) (rfl) (by omega) (by omega)
    · have e9 : e = n * n := by omega
      subst e9
      repeat refine hP _ _ _ _ ?_
      exact hQ cs2 hsc h1 h2 ho hr
    · have ih := ih he9
      repeat refine hP _ _ _ _ ?_
      refine c_see hG2 hc he9 rfl rfl ?_
      repeat refine hP _ _ _ _ ?_
      refine b_ifeq (fun hq => ?_) (fun hq => ?_) (rfl)
      · rw [setGk_no hq] at ih
        iterate 2 refine hP _ _ _ _ ?_
        refine x_p4 (P := P) (ih cs2 hsc h1 h2 ho hr) ?_ rfl ?_ <;> try (first | rfl | (rw [nI_succ]; rfl))
      · repeat refine hP _ _ _ _ ?_
        refine And.intro (vp_in_nI he9 (by omega)) ?_
        rw [ldv (f := cs2.2 3) (hC2 e he9).1 (by omega)]
        repeat refine hP _ _ _ _ ?_
        refine c_str ho hG.1 he9 (m := cb e &&& 2 ^ s) (and_lt9 (hC.lt g2 he9)) rfl (by rw [sh1 (show s < 10 by omega), nx_and]) (fun cs4 hf4 ho4 => ?_)
        rw [setGk_yes hq] at ho4
        iterate 2 refine hP _ _ _ _ ?_
        refine x_p4 (P := P) (ih cs4 (hsc.tr hf4.sc) ((hf4.1 1 (by decide)).trans h1) ((hf4.1 2 (by decide)).trans h2) ho4 (hf4.r hr)) ?_ rfl ?_ <;> try (first | rfl | (rw [nI_succ]; rfl))
  have z4' : rC (sF (sF cs 1 (nI c)) 2 (nI s)) n (fun _ => false) := z4
  iterate 2 refine hP _ _ _ _ ?_
  refine x_p4 (P := P) (loop 0 (by omega) cs3 (((scC.f (Or.inl rfl)).tr (scC.f (Or.inr (Or.inl rfl)))).tr hf.sc) (hf.1 1 (by decide)) (hf.1 2 (by decide)) (oC_congr ho (setGk_0 cb n w h c s)) (hf.r z4')) ?_ rfl ?_ <;> try (first | rfl | (rw [nI_succ]; rfl))
/-- strikes at some places of a house -/
def spG (go sm : Nat → Nat) (pb : Nat → Bool) (n w h g k : Nat) : Nat → Nat := fun e => if (List.range k).any fun i => atN n w h g i == e && pb i then go e ||| sm e else go e
theorem spG_s {go sm : Nat → Nat} {pb : Nat → Bool} {n w h g k : Nat} : spG go sm pb n w h g (k + 1) = if pb k then (fun e => if e = atN n w h g k then spG go sm pb n w h g k (atN n w h g k) ||| sm (atN n w h g k) else spG go sm pb n w h g k e) else spG go sm pb n w h g k := by
  funext e
  unfold spG
  rw [any_s]
  cases hb : pb k with
  | false => rw [Bool.and_false, Bool.or_false]; rfl
  | true =>
    rw [Bool.and_true, if_pos rfl]
    by_cases he : e = atN n w h g k
    · subst he
      rw [beq_self_eq_true, Bool.or_true, if_pos rfl, if_pos rfl]
      split
      · rw [Nat.or_assoc, Nat.or_self]
      · rfl
    · rw [beq_eq_false_iff_ne.mpr (fun e9 => he e9.symm), Bool.or_false, if_neg he]
theorem c_strikePlaces (hB : bC cs n w h cb vb) (hO : oC cs n go) {g : Nat} (hg : g < 3 * n) {pb : Nat → Bool} {sm : Nat → Nat} {x y z : Int32} (hz : z = nI g) (hx : ∀ i, i < n → (x >>> (nI i &&& 31)) &&& Int32.ofInt 1 = bI (pb i)) (hy : ∀ c, c < n * n → nI (cb c) &&& y = nI (sm c) ∧ sm c < 512) (hQ : ∀ cs3, frS cs cs3 → oC cs3 n (spG go sm pb n w h g n) → Q (.inl none) (w_C n cs3 tl bb)) : x_run sc x_MM x_EX (d + 3) k_X5_strikePlaces [.ref 1, .int z, .int x, .int y] (w_C n cs tl bb) Q := by
  subst hz
  have hk := hB.1.1
  obtain ⟨g1, g2, g3, g4, g5, g6, g7, g8⟩ := hk.le
  refine x_in (M := m_X5_strikePlaces) rfl rfl (Nat.le_of_ble_eq_true rfl) ⟨rfl, rfl, rfl, rfl, trivial⟩ ?_
  intro P hP
  have loop : ∀ i, i ≤ n → ∀ cs2 : x_S, frS cs cs2 → oC cs2 n (spG go sm pb n w h g i) → ∀ x5, P 3 [some (.ref 1), some (.int (nI g)), some (.int x), some (.int y), some (.int (nI i)), x5] [] (w_C n cs2 tl bb) := by
    refine x_lp n (fun i hi ih cs2 hf ho x5 => ?_)
    obtain ⟨hG2, hC2, hV2, hP2, hE2⟩ := hf.sc.b hB
    repeat refine hP _ _ _ _ ?_
    refine b_ge (i) (n) (fun hi9 => ?_) (fun hi9 => ?_) (rfl) (rfl) (by omega) (by omega)
    · have e9 : i = n := by omega
      subst e9
      repeat refine hP _ _ _ _ ?_
      exact hQ cs2 hf ho
    · have ih := ih hi9
      rw [spG_s] at ih
      repeat refine hP _ _ _ _ ?_
      refine b_ifeq (fun hq => ?_) (fun hq => ?_) (hx i hi9)
      · rw [hq] at ih
        iterate 2 refine hP _ _ _ _ ?_
        refine x_p4 (P := P) (ih cs2 hf ho x5) ?_ rfl ?_ <;> try (first | rfl | (rw [nI_succ]; rfl))
      · rw [hq, if_pos rfl] at ih
        have hat := atN_lt hk hg hi9
        repeat refine hP _ _ _ _ ?_
        refine c_cell hG2 hg hi9 rfl rfl ?_
        repeat refine hP _ _ _ _ ?_
        refine And.intro (vp_in_nI hat (by omega)) ?_
        rw [ldv (f := cs2.2 3) (hC2 _ hat).1 (by omega)]
        repeat refine hP _ _ _ _ ?_
        refine c_str ho hk hat (hy _ hat).2 rfl (hy _ hat).1 (fun cs4 hf4 ho4 => ?_)
        iterate 2 refine hP _ _ _ _ ?_
        refine x_p4 (P := P) (ih cs4 (hf.tr hf4) ho4 (some (.int (nI (atN n w h g i))))) ?_ rfl ?_ <;> try (first | rfl | (rw [nI_succ]; rfl))
  iterate 2 refine hP _ _ _ _ ?_
  refine x_p4 (P := P) (loop 0 (by omega) cs (frS.rf cs) hO none) ?_ rfl ?_ <;> try (first | rfl | (rw [nI_succ]; rfl))
def boR (rs : Nat → Bool) (pb : Nat → Bool) (n w h g k : Nat) : Nat → Bool := fun e => rs e || (List.range k).any fun i => atN n w h g i == e && pb i
theorem boR_s {rs : Nat → Bool} {pb : Nat → Bool} {n w h g k : Nat} : boR rs pb n w h g (k + 1) = if pb k then updB (boR rs pb n w h g k) (atN n w h g k) true else boR rs pb n w h g k := by
  funext e
  unfold boR
  rw [any_s]
  cases hb : pb k with
  | false => rw [Bool.and_false, Bool.or_false]; rfl
  | true =>
    rw [Bool.and_true, if_pos rfl]
    by_cases he : e = atN n w h g k
    · subst he
      rw [beq_self_eq_true, Bool.or_true, Bool.or_true, updB_s]
    · rw [beq_eq_false_iff_ne.mpr (fun e9 => he e9.symm), Bool.or_false, updB_n he]
theorem c_becauseOf (hB : bC cs n w h cb vb) (hR : rC cs n rs) {g : Nat} (hg : g < 3 * n) {pb : Nat → Bool} {x z : Int32} (hz : z = nI g) (hx : ∀ i, i < n → (x >>> (nI i &&& 31)) &&& Int32.ofInt 1 = bI (pb i)) (hQ : ∀ cs3, frB cs cs3 → rC cs3 n (boR rs pb n w h g n) → Q (.inl none) (w_C n cs3 tl bb)) : x_run sc x_MM x_EX (d + 2) k_X5_becauseOf [.ref 1, .int z, .int x] (w_C n cs tl bb) Q := by
  subst hz
  have hk := hB.1.1
  obtain ⟨g1, g2, g3, g4, g5, g6, g7, g8⟩ := hk.le
  refine x_in (M := m_X5_becauseOf) rfl rfl (Nat.le_of_ble_eq_true rfl) ⟨rfl, rfl, rfl, trivial⟩ ?_
  intro P hP
  have loop : ∀ i, i ≤ n → ∀ cs2 : x_S, frB cs cs2 → rC cs2 n (boR rs pb n w h g i) → P 2 [some (.ref 1), some (.int (nI g)), some (.int x), some (.int (nI i))] [] (w_C n cs2 tl bb) := by
    refine x_lp n (fun i hi ih cs2 hf ho => ?_)
    obtain ⟨hG2, hC2, hV2, hP2, hE2⟩ := hf.sc.b hB
    repeat refine hP _ _ _ _ ?_
    refine b_ge (i) (n) (fun hi9 => ?_) (fun hi9 => ?_) (rfl) (rfl) (by omega) (by omega)
    · have e9 : i = n := by omega
      subst e9
      repeat refine hP _ _ _ _ ?_
      exact hQ cs2 hf ho
    · have ih := ih hi9
      rw [boR_s] at ih
      repeat refine hP _ _ _ _ ?_
      refine b_ifeq (fun hq => ?_) (fun hq => ?_) (hx i hi9)
      · rw [hq] at ih
        iterate 2 refine hP _ _ _ _ ?_
        refine x_p4 (P := P) (ih cs2 hf ho) ?_ rfl ?_ <;> try (first | rfl | (rw [nI_succ]; rfl))
      · rw [hq, if_pos rfl] at ih
        have hat := atN_lt hk hg hi9
        repeat refine hP _ _ _ _ ?_
        refine c_cell hG2 hg hi9 rfl rfl ?_
        repeat refine hP _ _ _ _ ?_
        refine c_bec hk ho hat rfl (fun cs4 hf4 ho4 => ?_)
        iterate 2 refine hP _ _ _ _ ?_
        refine x_p4 (P := P) (ih cs4 (hf.tr hf4) ho4) ?_ rfl ?_ <;> try (first | rfl | (rw [nI_succ]; rfl))
  iterate 2 refine hP _ _ _ _ ?_
  refine x_p4 (P := P) (loop 0 (by omega) cs (frB.rf cs) (rC_congr hR (fun c _ => (Bool.or_false (rs c)).symm))) ?_ rfl ?_ <;> try (first | rfl | (rw [nI_succ]; rfl))
theorem gc_any {go : Nat → Nat} {N : Nat} (hN : N ≤ 81) (h9 : ∀ c, c < N → go c < 512) (hz : ∀ e, N ≤ e → go e = 0) : gcN go N = 0 ↔ anyG go = false := by
  constructor
  · intro h0
    cases ha : anyG go with
    | false => rfl
    | true =>
      obtain ⟨c, hc, hne⟩ := anyG_t.mp ha
      have hcN : c < N := Nat.lt_of_not_le fun h9 => hne (hz c h9)
      have h1 := pcN_pos (go c) (h9 c hcN) hne
      have h2 := gcN_ge (go := go) hcN
      omega
  · intro ha
    have hall : ∀ c, c < N → go c = 0 := fun c hc => Decidable.of_not_not fun hne => by
      have : anyG go = true := anyG_t.mpr ⟨c, by omega, hne⟩
      rw [ha] at this
      cases this
    have : ∀ k, k ≤ N → gcN go k = 0 := by
      intro k
      induction k with
      | zero => exact fun _ => rfl
      | succ k ih =>
        intro hk
        show gcN go k + pcN (go k) = 0
        rw [ih (by omega), hall k (by omega), pcN_0]
    exact this N (Nat.le_refl _)
theorem c_takesSome (k : KD n w h) (hO : oC cs n go) (hz : ∀ e, n * n ≤ e → go e = 0) (hQ : Q (.inl (some (.int (bI (anyG go))))) (w_C n cs tl bb)) : x_run sc x_MM x_EX (d + 1) k_X5_takesSome [.ref 1] (w_C n cs tl bb) Q := by
  obtain ⟨g1, g2, g3, g4, g5, g6, g7, g8⟩ := k.le
  have hga := gc_any (go := go) g7 (fun c hc => (hO.1 c hc).2) hz
  have hle := gcN_le go (n * n)
  refine x_in (M := m_X5_takesSome) rfl rfl (Nat.le_of_ble_eq_true rfl) ⟨rfl, trivial⟩ ?_
  intro P hP
  repeat refine hP _ _ _ _ ?_
  refine b_le0 (gcN go (n * n)) hO.2 (by omega) (fun h0 => ?_) (fun h0 => ?_)
  · skip
    repeat refine hP _ _ _ _ ?_
    refine And.intro rfl (x_q1 hQ ?_)
    rw [hga.mp h0]
    rfl
  · skip
    repeat refine hP _ _ _ _ ?_
    refine And.intro rfl (x_q1 hQ ?_)
    cases ha : anyG go with
    | true => rfl
    | false => exact absurd (hga.mpr ha) h0
theorem c_last (hB : bC cs n w h cb vb) (hZ : zC cs n) (hT : ∀ cs' r, scC cs cs' → lastS cb vb n w h = some r → rsC cs' n r → Q (.inl (some (.int (bI true)))) (w_C n cs' tl bb)) (hF : lastS cb vb n w h = none → Q (.inl (some (.int (bI false)))) (w_C n cs tl bb)) : x_run sc x_MM x_EX (d + 4) k_X5_last [.ref 1] (w_C n cs tl bb) Q := by
  have hB0 := hB
  obtain ⟨hG, hC, hV, hP9, hE⟩ := hB
  obtain ⟨g1, g2, g3, g4, g5, g6, g7, g8⟩ := hG.1.le
  refine x_in (M := m_X5_last) rfl rfl (Nat.le_of_ble_eq_true rfl) ⟨rfl, trivial⟩ ?_
  intro P hP
  have loop : ∀ c, c ≤ n * n → lastS cb vb n w h = ff (lastE cb vb n w h) (n * n - c) c → P 2 [some (.ref 1), some (.int (nI c))] [] (w_C n cs tl bb) := by
    refine x_lp (n * n) (fun c hc ih hf => ?_)
    repeat refine hP _ _ _ _ ?_
    refine b_ge (c) (n * n) (fun hc9 => ?_) (fun hc9 => ?_) (rfl) (rfl) (by omega) (by omega)
    · repeat refine hP _ _ _ _ ?_
      exact And.intro rfl (hF (hf.trans (ff_e hc9)))
    · have ih := ih hc9
      repeat refine hP _ _ _ _ ?_
      refine c_isOpen hG.1 hV hc9 rfl ?_
      repeat refine hP _ _ _ _ ?_
      refine b_ifeq (fun ho => ?_) (fun ho => ?_) (rfl)
      · iterate 2 refine hP _ _ _ _ ?_
        refine x_p4 (P := P) (ih (hf.trans (ff_n' hc9 (by unfold lastE; rw [if_neg]; intro e; rw [e.1] at ho; cases ho)))) ?_ rfl ?_ <;> try (first | rfl | (rw [nI_succ]; rfl))
      · have ho := Option.isNone_iff_eq_none.mp ho
        repeat refine hP _ _ _ _ ?_
        refine And.intro (vp_in_nI hc9 (by omega)) ?_
        rw [ldv (f := cs.2 3) (hC c hc9).1 (by omega)]
        repeat refine hP _ _ _ _ ?_
        refine c_bitCount (hC.lt g2 hc9) rfl ?_
        repeat refine hP _ _ _ _ ?_
        have hp9 : pcN (cb c) ≤ 9 := pcA_le _ 9
        refine b_ne (pcN (cb c)) (1) (fun h1 => ?_) (fun h1 => ?_) (rfl) (oi1) (by omega) (by omega)
        · iterate 2 refine hP _ _ _ _ ?_
          refine x_p4 (P := P) (ih (hf.trans (ff_n' hc9 (by unfold lastE; rw [if_neg]; intro e; exact h1 e.2)))) ?_ rfl ?_ <;> try (first | rfl | (rw [nI_succ]; rfl))
        · have hne : cb c ≠ 0 := fun e => by rw [e, pcN_0] at h1; cases h1
          have hlo := tb_lt (lowN_ok (cb c) (hC.lt g2 hc9) hne).2.1 (hC c hc9).2
          repeat refine hP _ _ _ _ ?_
          refine And.intro (vp_in_nI hc9 (by omega)) ?_
          rw [ldv (f := cs.2 3) (hC c hc9).1 (by omega)]
          repeat refine hP _ _ _ _ ?_
          refine c_leastBit (hC.lt g2 hc9) hne rfl ?_
          repeat refine hP _ _ _ _ ?_
          refine c_settle hB0 hZ hc9 hlo rfl rfl (fun cs2 hs2 e1 e2 ho2 hr2 => ?_)
          repeat refine hP _ _ _ _ ?_
          refine c_bec hG.1 hr2 hc9 rfl (fun cs4 hf4 hr4 => ?_)
          repeat refine hP _ _ _ _ ?_
          refine And.intro rfl (hT cs4 (some (c, lowN (cb c)), setG cb n w h c (lowN (cb c)), fun e => e == c) (hs2.tr hf4.sc) (hf.trans (ff_s' hc9 (by unfold lastE; rw [if_pos ⟨ho, h1⟩]))) ⟨⟨(hf4.1 1 (by decide)).trans e1, (hf4.1 2 (by decide)).trans e2⟩, hf4.o ho2, rC_congr hr4 (fun e _ => ?_)⟩)
          show updB (fun _ => false) c true e = (e == c)
          by_cases hec : e = c
          · subst hec; rw [updB_s, beq_self_eq_true]
          · rw [updB_n hec, beq_eq_false_iff_ne.mpr hec]
  iterate 2 refine hP _ _ _ _ ?_
  refine x_p4 (P := P) (loop 0 (by omega) rfl) ?_ rfl ?_ <;> try (first | rfl | (rw [nI_succ]; rfl))
theorem c_isOpenIn (hB : bC cs n w h cb vb) {g s : Nat} (hg : g < 3 * n) (hs : s < n) (hQ : Q (.inl (some (.int (bI (decide (1 < pcN (plB cb n w h g s n)) || (plB cb n w h g s n != 0 && (vb (atN n w h g (lowN (plB cb n w h g s n)))).isNone)))))) (w_C n cs tl bb)) : x_run sc x_MM x_EX (d + 2) k_X5_isOpenIn [.ref 1, .int (nI g), .int (nI s)] (w_C n cs tl bb) Q := by
  obtain ⟨hG, hC, hV, hP9, hE⟩ := hB
  obtain ⟨g1, g2, g3, g4, g5, g6, g7, g8⟩ := hG.1.le
  have h512 := plB_9 cb w h g s g2
  have hp9 : pcN (plB cb n w h g s n) ≤ 9 := pcA_le _ 9
  refine x_in (M := m_X5_isOpenIn) rfl rfl (Nat.le_of_ble_eq_true rfl) ⟨rfl, rfl, rfl, trivial⟩ ?_
  intro P hP
  repeat refine hP _ _ _ _ ?_
  refine c_places hG hP9 hg hs rfl rfl ?_
  repeat refine hP _ _ _ _ ?_
  refine c_bitCount h512 rfl ?_
  repeat refine hP _ _ _ _ ?_
  have yes : (decide (1 < pcN (plB cb n w h g s n)) || (plB cb n w h g s n != 0 && (vb (atN n w h g (lowN (plB cb n w h g s n)))).isNone)) = true → P 44 [some (.ref 1), some (.int (nI g)), some (.int (nI s)), some (.int (nI (plB cb n w h g s n)))] [] (w_C n cs tl bb) := by
    intro hy
    repeat refine hP _ _ _ _ ?_
    refine And.intro rfl (x_q1 hQ ?_)
    rw [hy]; rfl
  have no : (decide (1 < pcN (plB cb n w h g s n)) || (plB cb n w h g s n != 0 && (vb (atN n w h g (lowN (plB cb n w h g s n)))).isNone)) = false → P 48 [some (.ref 1), some (.int (nI g)), some (.int (nI s)), some (.int (nI (plB cb n w h g s n)))] [] (w_C n cs tl bb) := by
    intro hy
    repeat refine hP _ _ _ _ ?_
    refine And.intro rfl (x_q1 hQ ?_)
    rw [hy]; rfl
  refine b_gt (pcN (plB cb n w h g s n)) (1) (fun h1 => ?_) (fun h1 => ?_) (rfl) (oi1) (by omega) (by omega)
  · exact yes (by rw [decide_eq_true h1]; rfl)
  · rw [decide_eq_false (by omega), Bool.false_or] at yes no
    repeat refine hP _ _ _ _ ?_
    refine And.intro (fun h9 => ?_) (fun h9 => ?_)
    · have h9 : nI (plB cb n w h g s n) = 0 := h9
      rw [nI_z (by omega)] at h9
      exact no (by rw [h9]; rfl)
    · have h9 : ¬ nI (plB cb n w h g s n) = 0 := h9
      rw [nI_z (by omega)] at h9
      have hlo := (plB_low hG.1 h9).1
      have hat := atN_lt hG.1 hg hlo
      repeat refine hP _ _ _ _ ?_
      refine c_leastBit h512 h9 rfl ?_
      repeat refine hP _ _ _ _ ?_
      refine c_cell hG hg hlo rfl rfl ?_
      repeat refine hP _ _ _ _ ?_
      refine c_isOpen hG.1 hV hat rfl ?_
      repeat refine hP _ _ _ _ ?_
      refine b_ifeq (fun ho => ?_) (fun ho => ?_) (rfl)
      · exact no (by rw [ho, Bool.and_false])
      · exact yes (by rw [ho, bne_iff_ne.mpr h9]; rfl)
theorem all_bit {n i : Nat} (hi : i < n) (hn : n ≤ 9) : (((Int32.ofInt 1 <<< (nI n &&& 31)) - Int32.ofInt 1) >>> (nI i &&& 31)) &&& Int32.ofInt 1 = bI true := by
  have h1 : 2 ^ n ≤ 2 ^ 9 := Nat.pow_le_pow_right (by omega) hn
  have hpos : 0 < 2 ^ n := Nat.two_pow_pos n
  obtain ⟨m, hm⟩ : ∃ m, 2 ^ n = m + 1 := ⟨2 ^ n - 1, by omega⟩
  have e1 : (Int32.ofInt 1 <<< (nI n &&& 31)) - Int32.ofInt 1 = nI (2 ^ n - 1) := by rw [sh1 (by omega), hm, show Int32.ofInt 1 = 1 from rfl, nI_pred]; rfl
  rw [e1, bit1 (by omega) (by omega), Nat.testBit_two_pow_sub_one, decide_eq_true hi]
theorem c_onlyPlace (hB : bC cs n w h cb vb) (hZ : zC cs n) {fr : Nat} (hfr : fr + n ≤ 3 * n) {x : Int32} (hx : x = nI fr) (hT : ∀ cs' r, scC cs cs' → onlyS cb vb n w h fr = some r → rsC cs' n r → Q (.inl (some (.int (bI true)))) (w_C n cs' tl bb)) (hF : onlyS cb vb n w h fr = none → Q (.inl (some (.int (bI false)))) (w_C n cs tl bb)) : x_run sc x_MM x_EX (d + 4) k_X5_onlyPlace [.ref 1, .int x] (w_C n cs tl bb) Q := by
  subst hx
  have hB0 := hB
  obtain ⟨hG, hC, hV, hP9, hE⟩ := hB
  obtain ⟨g1, g2, g3, g4, g5, g6, g7, g8⟩ := hG.1.le
  refine x_in (M := m_X5_onlyPlace) rfl rfl (Nat.le_of_ble_eq_true rfl) ⟨rfl, rfl, trivial⟩ ?_
  intro P hP
  have loop : ∀ a, a ≤ n → onlyS cb vb n w h fr = ff (fun g => ff (onlyE cb vb n w h g) n 0) (n - a) (fr + a) → ∀ x3 x4, P 2 [some (.ref 1), some (.int (nI fr)), some (.int (nI (fr + a))), x3, x4] [] (w_C n cs tl bb) := by
    refine x_lp n (fun a ha ih hf x3 x4 => ?_)
    repeat refine hP _ _ _ _ ?_
    refine b_ge (fr + a) (fr + n) (fun ha9 => ?_) (fun ha9 => ?_) (rfl) (by rw [nI_add]) (by omega) (by omega)
    · repeat refine hP _ _ _ _ ?_
      refine And.intro rfl (hF (hf.trans ?_))
      rw [show n - a = 0 by omega]
      rfl
    · have ha9 : a < n := by omega
      have ih := ih ha9
      have hg : fr + a < 3 * n := by omega
      have lps : ∀ s, s ≤ n → ff (onlyE cb vb n w h (fr + a)) n 0 = ff (onlyE cb vb n w h (fr + a)) (n - s) s → ∀ x4, P 14 [some (.ref 1), some (.int (nI fr)), some (.int (nI (fr + a))), some (.int (nI s)), x4] [] (w_C n cs tl bb) := by
        refine x_lp n (fun s hs ihs hfs x4 => ?_)
        repeat refine hP _ _ _ _ ?_
        refine b_ge (s) (n) (fun hs9 => ?_) (fun hs9 => ?_) (rfl) (rfl) (by omega) (by omega)
        · have hfn : ff (onlyE cb vb n w h (fr + a)) n 0 = none := hfs.trans (ff_e hs9)
          have hf2 : onlyS cb vb n w h fr = ff (fun g => ff (onlyE cb vb n w h g) n 0) (n - (a + 1)) (fr + (a + 1)) := by
            rw [hf, show n - a = (n - (a + 1)) + 1 by omega, ff_n (ev := fun g => ff (onlyE cb vb n w h g) n 0) hfn]; rfl
          iterate 2 refine hP _ _ _ _ ?_
          refine x_p4 (P := P) (ih hf2 (some (.int (nI s))) x4) ?_ rfl ?_ <;> try (first | rfl | (rw [← Nat.add_assoc, nI_succ]; rfl))
        · have ihs := ihs hs9
          have h512 := plB_9 cb w h (fr + a) s g2
          have hp9 : pcN (plB cb n w h (fr + a) s n) ≤ 9 := pcA_le _ 9
          repeat refine hP _ _ _ _ ?_
          refine c_places hG hP9 hg hs9 rfl rfl ?_
          repeat refine hP _ _ _ _ ?_
          refine c_bitCount h512 rfl ?_
          repeat refine hP _ _ _ _ ?_
          refine b_ne (pcN (plB cb n w h (fr + a) s n)) (1) (fun h1 => ?_) (fun h1 => ?_) (rfl) (oi1) (by omega) (by omega)
          · iterate 2 refine hP _ _ _ _ ?_
            refine x_p4 (P := P) (ihs (hfs.trans (ff_n' hs9 (by unfold onlyE; rw [if_neg]; intro e; exact h1 e.1))) (some (.int (nI (plB cb n w h (fr + a) s n))))) ?_ rfl ?_ <;> try (first | rfl | (rw [nI_succ]; rfl))
          · have hne : plB cb n w h (fr + a) s n ≠ 0 := fun e => by rw [e, pcN_0] at h1; cases h1
            repeat refine hP _ _ _ _ ?_
            refine c_isOpenIn hB0 hg hs9 ?_
            rw [decide_eq_false (by omega), Bool.false_or, bne_iff_ne.mpr hne, Bool.true_and]
            repeat refine hP _ _ _ _ ?_
            refine b_ifeq (fun ho => ?_) (fun ho => ?_) (rfl)
            · iterate 2 refine hP _ _ _ _ ?_
              refine x_p4 (P := P) (ihs (hfs.trans (ff_n' hs9 (by unfold onlyE; rw [if_neg]; intro e; rw [e.2] at ho; cases ho))) (some (.int (nI (plB cb n w h (fr + a) s n))))) ?_ rfl ?_ <;> try (first | rfl | (rw [nI_succ]; rfl))
            · have ho := Option.isNone_iff_eq_none.mp ho
              have hlo := (plB_low hG.1 hne).1
              have hat := atN_lt hG.1 hg hlo
              repeat refine hP _ _ _ _ ?_
              refine c_leastBit h512 hne rfl ?_
              repeat refine hP _ _ _ _ ?_
              refine c_cell hG hg hlo rfl rfl ?_
              repeat refine hP _ _ _ _ ?_
              refine c_settle hB0 hZ hat hs9 rfl rfl (fun cs2 hs2 e1 e2 ho2 hr2 => ?_)
              repeat refine hP _ _ _ _ ?_
              refine c_becauseOf (hs2.b hB0) hr2 hg (pb := fun _ => true) rfl (fun i hi => all_bit hi g2) (fun cs4 hf4 hr4 => ?_)
              repeat refine hP _ _ _ _ ?_
              have hfind : ff (onlyE cb vb n w h (fr + a)) n 0 = some (some (atN n w h (fr + a) (lowN (plB cb n w h (fr + a) s n)), s), setG cb n w h (atN n w h (fr + a) (lowN (plB cb n w h (fr + a) s n))) s, hsN n w h (fr + a)) := hfs.trans (ff_s' hs9 (by unfold onlyE; rw [if_pos ⟨h1, ho⟩]))
              have hfind2 := hf.trans ((congrArg (fun q => ff (fun g => ff (onlyE cb vb n w h g) n 0) q (fr + a)) (show n - a = (n - (a + 1)) + 1 by omega)).trans (ff_s (ev := fun g => ff (onlyE cb vb n w h g) n 0) hfind))
              refine And.intro rfl (hT cs4 _ (hs2.tr hf4.sc) hfind2 ⟨⟨(hf4.1 1 (by decide)).trans e1, (hf4.1 2 (by decide)).trans e2⟩, hf4.o ho2, rC_congr hr4 (fun e _ => ?_)⟩)
              show boR (fun _ => false) (fun _ => true) n w h (fr + a) n e = hsN n w h (fr + a) e
              unfold boR hsN
              simp only [Bool.and_true, Bool.false_or]
      iterate 2 refine hP _ _ _ _ ?_
      refine x_p4 (P := P) (lps 0 (by omega) rfl x4) ?_ rfl ?_ <;> try (first | rfl | (rw [nI_succ]; rfl))
  iterate 2 refine hP _ _ _ _ ?_
  refine x_p4 (P := P) (loop 0 (by omega) rfl none none) ?_ rfl ?_
  · rfl
  · rfl
end K1
