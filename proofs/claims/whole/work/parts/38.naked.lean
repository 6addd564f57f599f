/-! ===== the model: all sets of k of a list, in order; step naked ===== -/
def cmb : Nat → List Nat → List (List Nat)
  | 0, _ => [[]]
  | _ + 1, [] => []
  | k + 1, a :: l => (cmb k l).map (a :: ·) ++ cmb (k + 1) l
def CC (k m : Nat) : List (List Nat) := cmb k (List.range m)
def pF (c : List Nat) : Nat → Nat := fun i => c.getD i 0
def nxOK (k m : Nat) : Bool := (List.range (CC k m).length).all fun t => match (CC k m)[t]? with
  | none => false
  | some c => (List.range k).all (fun i => decide (pF c i < m)) && match nxA (pF c) k m k with
    | none => decide (t + 1 = (CC k m).length)
    | some i => decide ((CC k m)[t + 1]? = some ((List.range k).map (nxP (pF c) i)))
theorem nxOK_all : ∀ k, k < 5 → 2 ≤ k → ∀ m, m < 10 → nxOK k m = true := by decide +kernel
theorem CC_0a : ∀ k, k < 5 → 2 ≤ k → ∀ m, m < 10 → (if k ≤ m then decide ((CC k m)[0]? = some (List.range k)) else decide (CC k m = [])) = true := by decide +kernel
theorem CC_0 (k : Nat) (hk : k < 5) (hk2 : 2 ≤ k) (m : Nat) (hm : m < 10) : (k ≤ m → (CC k m)[0]? = some (List.range k)) ∧ (m < k → CC k m = []) := by
  have h := CC_0a k hk hk2 m hm
  refine ⟨fun h1 => ?_, fun h1 => ?_⟩
  · rw [if_pos h1] at h; exact of_decide_eq_true h
  · rw [if_neg (by omega)] at h; exact of_decide_eq_true h
theorem nx_at {k m t : Nat} {c : List Nat} (hk : k < 5) (hk2 : 2 ≤ k) (hm : m < 10) (hc : (CC k m)[t]? = some c) : (∀ i, i < k → pF c i < m) ∧ (nxA (pF c) k m k = none → t + 1 = (CC k m).length) ∧ ∀ i, nxA (pF c) k m k = some i → ∃ c', (CC k m)[t + 1]? = some c' ∧ ∀ j, j < k → pF c' j = nxP (pF c) i j := by
  have h1 := nxOK_all k hk hk2 m hm
  have ht : t < (CC k m).length := (List.getElem?_eq_some_iff.mp hc).1
  unfold nxOK at h1
  have h2 := List.all_eq_true.mp h1 t (List.mem_range.mpr ht)
  rw [hc] at h2
  simp only [Bool.and_eq_true] at h2
  refine ⟨fun i hi => of_decide_eq_true (List.all_eq_true.mp h2.1 i (List.mem_range.mpr hi)), fun hn => ?_, fun i hn => ?_⟩
  · rw [hn] at h2; exact of_decide_eq_true h2.2
  · rw [hn] at h2
    refine ⟨_, of_decide_eq_true h2.2, fun j hj => ?_⟩
    unfold pF
    simp [List.getD, hj]
theorem fs_s {α β : Type} {L : List α} {t : Nat} {c : α} {ev : α → Option β} {r : β} (hc : L[t]? = some c) (he : ev c = some r) : (L.drop t).findSome? ev = some r := by
  obtain ⟨h1, h2⟩ := List.getElem?_eq_some_iff.mp hc
  rw [List.drop_eq_getElem_cons h1, h2, List.findSome?_cons, he]
theorem fs_n {α β : Type} {L : List α} {t : Nat} {c : α} {ev : α → Option β} (hc : L[t]? = some c) (he : ev c = none) : (L.drop t).findSome? ev = (L.drop (t + 1)).findSome? ev := by
  obtain ⟨h1, h2⟩ := List.getElem?_eq_some_iff.mp hc
  rw [List.drop_eq_getElem_cons h1, h2, List.findSome?_cons, he]
theorem fs_e {α β : Type} {L : List α} {t : Nat} {ev : α → Option β} (h : L.length ≤ t) : (L.drop t).findSome? ev = none := by
  rw [List.drop_eq_nil_of_le h]; rfl
/-- the list that sets are picked from -/
def lsM (ms : x_S) (l : List Nat) (B : Nat) : Prop := ms.1 13 = nI l.length ∧ ∀ j, j < l.length → ms.2 33 j = nI (pF l j) ∧ pF l j < B
theorem lsM_0 (ms : x_S) (B : Nat) : lsM (sF ms 13 0) [] B := ⟨rfl, fun j hj => absurd hj (Nat.not_lt_zero j)⟩
theorem lsM_p {ms : x_S} {l : List Nat} {B x : Nat} (h : lsM ms l B) (hx : x < B) : lsM (sF (sA ms 33 (upd (ms.2 33) l.length (nI x))) 13 (nI (l.length + 1))) (l ++ [x]) B := by
  refine ⟨by rw [List.length_append]; rfl, fun j hj => ?_⟩
  rw [List.length_append] at hj
  have hj : j < l.length + 1 := hj
  show upd (ms.2 33) l.length (nI x) j = _ ∧ _
  by_cases hjl : j = l.length
  · subst hjl
    rw [pk_us]
    have e : pF (l ++ [x]) l.length = x := by unfold pF; simp [List.getD]
    rw [e]
    exact ⟨rfl, hx⟩
  · rw [pk_un hjl]
    have e : pF (l ++ [x]) j = pF l j := by unfold pF; simp [List.getD, List.getElem?_append_left (show j < l.length by omega)]
    rw [e]
    exact h.2 j (by omega)
/-- bits of the first i together -/
def orA (v : Nat → Nat) : Nat → Nat
  | 0 => 0
  | i + 1 => orA v i ||| v i
theorem orA_lt {v : Nat → Nat} {k : Nat} : ∀ {i}, i ≤ k → (∀ j, j < k → v j < 512) → orA v i < 512
  | 0, _, _ => by unfold orA; decide
  | i + 1, hi, hv => Nat.or_lt_two_pow (n := 9) (orA_lt (by omega) hv) (hv i (by omega))
/-- the open cells of the first i of house g -/
def openLk (vb : Nat → Option Nat) (n w h g i : Nat) : List Nat := ((List.range i).map (atN n w h g)).filter fun c => (vb c).isNone
def openL (vb : Nat → Option Nat) (n w h g : Nat) : List Nat := openLk vb n w h g n
theorem openLk_s (vb : Nat → Option Nat) (n w h g i : Nat) : openLk vb n w h g (i + 1) = openLk vb n w h g i ++ (if (vb (atN n w h g i)).isNone then [atN n w h g i] else []) := by
  unfold openLk
  rw [List.range_succ, List.map_append, List.filter_append]
  congr 1
  simp only [List.map_cons, List.map_nil, List.filter_cons, List.filter_nil]
theorem fl_le {α : Type} (l : List α) (p : α → Bool) {m : Nat} (h : l.length = m) : (l.filter p).length ≤ m := by rw [← h]; exact List.length_filter_le p l
def nakG (cb : Nat → Nat) (n w h g k : Nat) (u : Nat → Nat) (j : Nat) : Nat → Nat := fun e => if ((List.range j).any fun i => atN n w h g i == e) && !((List.range k).any fun i => u i == e) then cb e &&& orA (fun i => cb (u i)) k else 0
def nakR (n w h g k : Nat) (u : Nat → Nat) (j : Nat) : Nat → Bool := fun e => ((List.range j).any fun i => atN n w h g i == e) && ((List.range k).any fun i => u i == e)
def rOf (go : Nat → Nat) (rs : Nat → Bool) : Option rS := if anyG go then some (none, go, rs) else none
def nakE (cb : Nat → Nat) (n w h g k : Nat) (u : Nat → Nat) : Option rS := if pcN (orA (fun i => cb (u i)) k) = k then rOf (nakG cb n w h g k u n) (nakR n w h g k u n) else none
def nakH (cb : Nat → Nat) (vb : Nat → Option Nat) (n w h k g : Nat) : Option rS := ((CC k (openL vb n w h g).length).drop 0).findSome? fun c => nakE cb n w h g k (fun i => pF (openL vb n w h g) (pF c i))
def nakS (cb : Nat → Nat) (vb : Nat → Option Nat) (n w h k : Nat) : Option rS := ff (nakH cb vb n w h k) (3 * n) 0
theorem b_len {t N : Nat} (h : t < N) : bI (decide (t < N)) = bI true := by rw [decide_eq_true h]
theorem b_nle {t N : Nat} (h : ¬ t < N) : bI (decide (t < N)) = bI false := by rw [decide_eq_false h]
section NK
variable {sc : Nat × (Nat → Int32)} {f : Nat → x_C} {ms : x_S} {tl : List x_C} {bb : Nat × Nat} {n w h d : Nat} {Q : x_O → x_H → Prop} {cb : Nat → Nat} {vb : Nat → Option Nat}
theorem cM.lt {ms : x_S} (hC : cM ms n cb) (hn : n ≤ 9) {c : Nat} (hc : c < n * n) : cb c < 512 := Nat.lt_of_lt_of_le (hC c hc).2 (Nat.pow_le_pow_right (by omega) hn)
theorem vM.lt {ms : x_S} (hV : vM ms n vb) (hn : n ≤ 9) {c : Nat} (hc : c < n * n) : ∀ s, vb c = some s → s < 2 ^ 31 := fun s hs => by have := (hV c hc).2 s hs; omega
theorem r_naked (hG : gM ms n w h) (hC : cM ms n cb) (hV : vM ms n vb) {k : Nat} (hk2 : 2 ≤ k) (hk5 : k < 5) (hT : ∀ ms' r, scr ms ms' → nakS cb vb n w h k = some r → resM ms' n r → Q (.inl (some (.int (bI true)))) (w_M f ms' tl bb)) (hF : ∀ ms', scr ms ms' → nakS cb vb n w h k = none → Q (.inl (some (.int (bI false)))) (w_M f ms' tl bb)) : x_run sc x_MM x_EX (d + 2) k_X8_naked [.ref 26, .int (nI k)] (w_M f ms tl bb) Q := by
  obtain ⟨g1, g2, g3, g4, g5, g6, g7, g8⟩ := hG.2.2.2.le
  refine x_in (M := m_X8_naked) rfl rfl (Nat.le_of_ble_eq_true rfl) ⟨rfl, rfl, trivial⟩ ?_
  intro P hP
  have loop : ∀ g, g ≤ 3 * n → ∀ m2, scr ms m2 → nakS cb vb n w h k = ff (nakH cb vb n w h k) (3 * n - g) g → ∀ x3 x4 x5 : Option Value, P 2 [some (.ref 26), some (.int (nI k)), some (.int (nI g)), x3, x4, x5] [] (w_M f m2 tl bb) := by
    refine x_lp (3 * n) (fun g hg ih m2 hm hf x3 x4 x5 => ?_)
    have hG2 := hm.g hG
    repeat refine hP _ _ _ _ ?_
    refine b_ge (g) (3 * n) (fun hg9 => ?_) (fun hg9 => ?_) (rfl) (by show Int32.ofInt 3 * m2.1 1 = _; rw [oi3, hG2.1, pk_mul]) (by omega) (by omega)
    · repeat refine hP _ _ _ _ ?_
      exact And.intro rfl (hF m2 hm (by rw [hf, show 3 * n - g = 0 by omega]; rfl))
    · have ih := ih hg9
      have hff : 3 * n - g = 3 * n - (g + 1) + 1 := by omega
      rw [hff] at hf
      have hlm : (openL vb n w h g).length ≤ n := fl_le _ _ (by simp)
      generalize hl : openL vb n w h g = l at hlm
      have hm9 : l.length < 10 := by omega
      have hev : nakH cb vb n w h k g = ((CC k l.length).drop 0).findSome? fun c => nakE cb n w h g k (fun i => pF l (pF c i)) := by unfold nakH; rw [hl]
      have whl : ∀ t, t ≤ (CC k l.length).length → ∀ m4, scr ms m4 → lsM m4 l (n * n) → (∀ c, (CC k l.length)[t]? = some c → ∀ i, i < k → m4.2 34 i = nI (pF c i)) → nakH cb vb n w h k g = ((CC k l.length).drop t).findSome? (fun c => nakE cb n w h g k (fun i => pF l (pF c i))) → ∀ x4 x5 : Option Value, P 94 [some (.ref 26), some (.int (nI k)), some (.int (nI g)), some (.int (bI (decide (t < (CC k l.length).length)))), x4, x5] [] (w_M f m4 tl bb) := by
        refine x_lp _ (fun t ht ih2 m4 hm4 hl4 hp hfs x4 x5 => ?_)
        repeat refine hP _ _ _ _ ?_
        refine b_ifeq (fun hq => ?_) (fun hq => ?_) (rfl)
        · have hq := of_decide_eq_false hq
          iterate 2 refine hP _ _ _ _ ?_
          refine x_p4 (P := P) (ih m4 hm4 (hf.trans (ff_n (hfs.trans (fs_e (by omega))))) (some (.int (bI (decide (t < (CC k l.length).length))))) x4 x5) ?_ rfl ?_ <;> try (first | rfl | (rw [nI_succ]; rfl))
        · have hq := of_decide_eq_true hq
          have ih2 := ih2 hq
          obtain ⟨c, hc⟩ : ∃ c, (CC k l.length)[t]? = some c := ⟨_, List.getElem?_eq_getElem hq⟩
          obtain ⟨c1, c2, c3⟩ := nx_at hk5 hk2 hm9 hc
          have hp := hp c hc
          have hpk : ∀ m5 : x_S, lsM m5 l (n * n) → (∀ i, i < k → m5.2 34 i = nI (pF c i)) → pkM m5 k l.length (pF c) (pF l) := fun m5 e1 e2 => ⟨e1.1, fun i hi => ⟨e2 i hi, c1 i hi⟩, fun j hj => ⟨(e1.2 j hj).1, by have := (e1.2 j hj).2; omega⟩⟩
          have hcell : ∀ i, i < k → pF l (pF c i) < n * n := fun i hi => (hl4.2 _ (c1 i hi)).2
          generalize hu : (fun i => pF l (pF c i)) = u
          have hue : ∀ i, u i = pF l (pF c i) := fun i => by rw [← hu]
          generalize hall : orA (fun i => cb (u i)) k = all
          have hall9 : all < 512 := by rw [← hall]; exact orA_lt (Nat.le_refl k) (fun j hj => hC.lt g2 (by rw [hue]; exact hcell j hj))
          have hEv : nakE cb n w h g k (fun i => pF l (pF c i)) = if pcN all = k then rOf (nakG cb n w h g k u n) (nakR n w h g k u n) else none := by rw [hu]; unfold nakE; rw [hall]
          have tk : ∀ m5 go rs, scr ms m5 → lsM m5 l (n * n) → (∀ i, i < k → m5.2 34 i = nI (pF c i)) → m5.1 11 = -1 → m5.1 12 = -1 → oM m5 go → rM m5 rs → nakE cb n w h g k (fun i => pF l (pF c i)) = rOf go rs → ∀ x5 : Option Value, P 213 [some (.ref 26), some (.int (nI k)), some (.int (nI g)), some (.int (bI true)), some (.int (nI all)), x5] [] (w_M f m5 tl bb) := by
            intro m5 go rs hm5 hl5 hp5 h11 h12 hO hR he x5
            repeat refine hP _ _ _ _ ?_
            refine r_takesN hO ?_
            repeat refine hP _ _ _ _ ?_
            refine b_ifeq (fun ha => ?_) (fun ha => ?_) (rfl)
            · have he : nakE cb n w h g k (fun i => pF l (pF c i)) = none := he.trans (by unfold rOf; rw [ha]; rfl)
              have hfs9 := hfs.trans (fs_n hc he)
              repeat refine hP _ _ _ _ ?_
              refine r_next (k := k) (m := l.length) (by omega) ?_ (by omega) (hpk m5 hl5 hp5) (fun i gg hn hgg => ?_) (fun hn => ?_)
              · rcases Nat.lt_or_ge l.length k with h9 | h9
                · rw [(CC_0 k hk5 hk2 _ hm9).2 h9] at hq; exact absurd hq (Nat.not_lt_zero _)
                · exact h9
              · obtain ⟨c', d1, d2⟩ := c3 i hn
                iterate 2 refine hP _ _ _ _ ?_
                refine x_p4 (P := P) (ih2 (sA m5 34 gg) (hm5.tr (scr.a (by decide))) hl5 (fun c9 h9 i9 hi9 => by rw [d1] at h9; cases h9; rw [d2 i9 hi9]; exact hgg i9 hi9) hfs9 (some (.int (nI all))) x5) ?_ rfl ?_
                · rw [b_len (List.getElem?_eq_some_iff.mp d1).1]; rfl
                · rfl
              · have h9 := c2 hn
                iterate 2 refine hP _ _ _ _ ?_
                refine x_p4 (P := P) (ih2 m5 hm5 hl5 (fun c9 h9 => by rw [List.getElem?_eq_none (by omega)] at h9; cases h9) hfs9 (some (.int (nI all))) x5) ?_ rfl ?_
                · rw [b_nle (by omega)]; rfl
                · rfl
            · repeat refine hP _ _ _ _ ?_
              refine And.intro rfl (hT m5 (none, go, rs) hm5 ?_ ⟨⟨h11, h12⟩, hO, hR⟩)
              exact hf.trans (ff_s (hfs.trans (fs_s hc (he.trans (by unfold rOf; rw [ha]; rfl)))))
          have hm5 : scr ms (noneM m4) := hm4.tr (noneM_scr m4)
          have hC5 := hm5.c hC
          have hG5 := hm5.g hG
          have hcl5 := noneM_cl m4
          rw [b_len hq]
          have mid : P 145 [some (.ref 26), some (.int (nI k)), some (.int (nI g)), some (.int (bI true)), some (.int (nI all)), some (.int (nI 0))] [] (w_M f (noneM m4) tl bb) := by
            by_cases hpc : pcN all = k
            · rw [if_pos hpc] at hEv
              have lp3 : ∀ i, i ≤ n → ∀ m6, scr ms m6 → lsM m6 l (n * n) → (∀ i, i < k → m6.2 34 i = nI (pF c i)) → m6.1 11 = -1 → m6.1 12 = -1 → oM m6 (nakG cb n w h g k u i) → rM m6 (nakR n w h g k u i) → P 145 [some (.ref 26), some (.int (nI k)), some (.int (nI g)), some (.int (bI true)), some (.int (nI all)), some (.int (nI i))] [] (w_M f m6 tl bb) := by
                refine x_lp n (fun i hi ih3 m6 hm6 hl6 hp6 h11 h12 hO hR => ?_)
                have hG6 := hm6.g hG
                have hC6 := hm6.c hC
                repeat refine hP _ _ _ _ ?_
                refine b_ge (i) (n) (fun hi9 => ?_) (fun hi9 => ?_) (rfl) (hG6.1) (by omega) (by omega)
                · have hin : i = n := by omega
                  subst hin
                  refine x_p4 (P := P) (tk m6 _ _ hm6 hl6 hp6 h11 h12 hO hR hEv (some (.int (nI i)))) ?_ rfl ?_ <;> try (first | rfl | (rw [nI_succ]; rfl))
                · have hat := atN_lt (w := w) (h := h) hG.2.2.2 hg9 hi9
                  have ih3 := ih3 hi9
                  have hpk6 := hpk m6 hl6 hp6
                  repeat refine hP _ _ _ _ ?_
                  refine r_countOf hall9 ?_
                  repeat refine hP _ _ _ _ ?_
                  refine b_ne ((pcN all)) (k) (fun h8 => ?_) (fun h8 => ?_) (rfl) (rfl) (by omega) (by omega)
                  · exact absurd hpc h8
                  · repeat refine hP _ _ _ _ ?_
                    refine r_at hG6 hg9 hi9 ?_
                    repeat refine hP _ _ _ _ ?_
                    refine r_isPicked (k := k) (m := l.length) (by omega) (by omega) (by omega) hpk6 ?_
                    have hpe : ((List.range k).any fun j => pF l (pF c j) == atN n w h g i) = ((List.range k).any fun j => u j == atN n w h g i) := by rw [← hu]
                    rw [hpe]
                    repeat refine hP _ _ _ _ ?_
                    refine b_ifeq (fun h7 => ?_) (fun h7 => ?_) (rfl)
                    · repeat refine hP _ _ _ _ ?_
                      refine r_at hG6 hg9 hi9 ?_
                      repeat refine hP _ _ _ _ ?_
                      refine r_leavesN hC6 g2 hO hat (by omega) rfl (fun gg hgg => ?_)
                      iterate 2 refine hP _ _ _ _ ?_
                      refine x_p4 (P := P) (ih3 (sA m6 32 gg) (hm6.tr (scr.a (by decide))) hl6 hp6 h11 h12 (oM_congr hgg ?_) ?_) ?_ rfl ?_ <;> try (first | rfl | (rw [nI_succ]; rfl))
                      · intro e he
                        by_cases hea : e = atN n w h g i
                        · subst hea
                          simp only [if_true]
                          unfold nakG
                          rw [any_s, h7, hall]
                          simp only [Bool.not_false, Bool.and_true, beq_self_eq_true, Bool.or_true, if_true]
                          split
                          · rw [Nat.or_self]
                          · rw [Nat.zero_or]
                        · simp only [hea, if_false]
                          unfold nakG
                          rw [any_s, beq_eq_false_iff_ne.mpr (fun h => hea h.symm), Bool.or_false]
                      · intro e he
                        have hRe := hR e he
                        show m6.2 31 e = _
                        rw [hRe]
                        congr 1
                        unfold nakR
                        rw [any_s]
                        by_cases hea : atN n w h g i = e
                        · subst hea
                          rw [h7, Bool.and_false, Bool.and_false]
                        · rw [beq_eq_false_iff_ne.mpr hea, Bool.or_false]
                    · repeat refine hP _ _ _ _ ?_
                      refine r_at hG6 hg9 hi9 ?_
                      repeat refine hP _ _ _ _ ?_
                      refine And.intro (vp_in_nI (by omega) (by omega)) ?_
                      iterate 3 refine hP _ _ _ _ ?_
                      refine x_p4 (P := P) (ih3 (sA m6 31 (upd (m6.2 31) (nI (atN n w h g i)).toNatClampNeg (vp_nar .boolean (Int32.ofInt 1)))) (hm6.tr (scr.a (by decide))) hl6 hp6 h11 h12 (oM_congr (show oM _ (nakG cb n w h g k u i) from hO) ?_) ?_) ?_ rfl ?_ <;> try (first | rfl | (rw [nI_succ]; rfl))
                      · intro e he
                        unfold nakG
                        rw [any_s]
                        by_cases hea : atN n w h g i = e
                        · subst hea
                          rw [h7, Bool.not_true, Bool.and_false, Bool.and_false]
                        · rw [beq_eq_false_iff_ne.mpr hea, Bool.or_false]
                      · intro e he
                        show upd (m6.2 31) (nI (atN n w h g i)).toNatClampNeg (vp_nar .boolean (Int32.ofInt 1)) e = _
                        rw [upv (by omega)]
                        unfold nakR
                        rw [any_s]
                        by_cases hea : e = atN n w h g i
                        · subst hea
                          rw [pk_us, h7, beq_self_eq_true, Bool.or_true, Bool.and_true]
                          rfl
                        · rw [pk_un hea, hR e he, beq_eq_false_iff_ne.mpr (fun h => hea h.symm), Bool.or_false]
                          rfl
              exact lp3 0 (by omega) (noneM m4) hm5 hl4 hp hcl5.1 hcl5.2.1 (fun e he => ⟨(hcl5.2.2 e he).2, by unfold nakG; simp⟩) (fun e he => (hcl5.2.2 e he).1)
            · rw [if_neg hpc] at hEv
              repeat refine hP _ _ _ _ ?_
              refine b_ge 0 n (fun h0 => by omega) (fun _ => ?_) rfl hG5.1 (by omega) (by omega)
              repeat refine hP _ _ _ _ ?_
              refine r_countOf hall9 ?_
              have hpl : pcN all ≤ 9 := pcA_le _ _
              repeat refine hP _ _ _ _ ?_
              refine b_ne ((pcN all)) (k) (fun h8 => ?_) (fun h8 => ?_) (rfl) (rfl) (by omega) (by omega)
              · refine x_p4 (P := P) (tk (noneM m4) (fun _ => 0) (fun _ => false) hm5 hl4 hp hcl5.1 hcl5.2.1 (fun e he => ⟨(hcl5.2.2 e he).2, show 0 < 512 by decide⟩) (fun e he => (hcl5.2.2 e he).1) (hEv.trans rfl) (some (.int (nI 0)))) ?_ rfl ?_ <;> try (first | rfl | (rw [nI_succ]; rfl))
              · exact absurd h8 hpc
          have orl : ∀ i, i ≤ k → P 108 [some (.ref 26), some (.int (nI k)), some (.int (nI g)), some (.int (bI true)), some (.int (nI (orA (fun i => cb (u i)) i))), some (.int (nI i))] [] (w_M f (noneM m4) tl bb) := by
            refine x_lp k (fun i hi ih3 => ?_)
            repeat refine hP _ _ _ _ ?_
            refine b_ge (i) (k) (fun hi9 => ?_) (fun hi9 => ?_) (rfl) (rfl) (by omega) (by omega)
            · have hik : i = k := by omega
              subst hik
              rw [hall]
              iterate 2 refine hP _ _ _ _ ?_
              refine x_p4 (P := P) (mid) ?_ rfl ?_ <;> try (first | rfl | (rw [nI_succ]; rfl))
            · have e1 := c1 i hi9
              have e2 := hcell i hi9
              repeat refine hP _ _ _ _ ?_
              refine And.intro (vp_in_nI (by omega) (by omega)) ?_
              rw [ldv (f := (noneM m4).2 34) (hp i hi9) (by omega)]
              repeat refine hP _ _ _ _ ?_
              refine And.intro (vp_in_nI (by omega) (by omega)) ?_
              rw [ldv (f := (noneM m4).2 33) (hl4.2 _ e1).1 (by omega)]
              repeat refine hP _ _ _ _ ?_
              refine And.intro (vp_in_nI (by omega) (by omega)) ?_
              rw [ldv (f := (noneM m4).2 27) (hC5 _ e2).1 (by omega)]
              iterate 4 refine hP _ _ _ _ ?_
              refine x_p4 (P := P) (ih3 hi9) ?_ rfl ?_
              · rw [show orA (fun i => cb (u i)) (i + 1) = orA (fun i => cb (u i)) i ||| cb (pF l (pF c i)) by rw [← hue]; rfl, ← nx_or, nI_succ]; rfl
              · rfl
          repeat refine hP _ _ _ _ ?_
          refine r_none ?_
          iterate 4 refine hP _ _ _ _ ?_
          refine x_p4 (P := P) (orl 0 (by omega)) ?_ rfl ?_ <;> try (first | rfl | (rw [nI_succ]; rfl))
      have fin : ∀ m3, scr ms m3 → lsM m3 l (n * n) → P 75 [some (.ref 26), some (.int (nI k)), some (.int (nI g)), some (.int (nI n)), x4, x5] [] (w_M f m3 tl bb) := by
        intro m3 hm3 hl3
        have go : ∀ x : Int32, x = bI (decide (0 < (CC k l.length).length)) → P 88 [some (.ref 26), some (.int (nI k)), some (.int (nI g)), some (.int (nI n)), x4, x5] [.int x] (w_M f m3 tl bb) := by
          intro x hx
          subst hx
          repeat refine hP _ _ _ _ ?_
          refine r_first (by omega) (fun gg hgg => ?_)
          refine x_p4 (P := P) (whl 0 (by omega) (sA m3 34 gg) (hm3.tr (scr.a (by decide))) hl3 (fun c hc i hi => ?_) hev x4 x5) ?_ rfl ?_ <;> try (first | rfl | (rw [nI_succ]; rfl))
          show gg i = _
          rw [hgg i hi]
          rcases Nat.lt_or_ge l.length k with h9 | h9
          · rw [(CC_0 k hk5 hk2 _ hm9).2 h9] at hc; cases hc
          · rw [(CC_0 k hk5 hk2 _ hm9).1 h9] at hc
            cases hc
            unfold pF
            simp [List.getD, hi]
        repeat refine hP _ _ _ _ ?_
        refine b_lt (l.length) (k) (fun h9 => ?_) (fun h9 => ?_) (hl3.1) (rfl) (by omega) (by omega)
        · refine hP _ _ _ _ ?_
          refine x_p4 (P := P) (go (bI false) ?_) ?_ rfl ?_
          · rw [(CC_0 k hk5 hk2 _ hm9).2 h9]; rfl
          · rfl
          · rfl
        · iterate 2 refine hP _ _ _ _ ?_
          refine x_p4 (P := P) (go (bI true) ?_) ?_ rfl ?_
          · rw [b_len]
            exact (List.getElem?_eq_some_iff.mp ((CC_0 k hk5 hk2 _ hm9).1 h9)).1
          · rfl
          · rfl
      have lst : ∀ i, i ≤ n → ∀ m3, scr ms m3 → lsM m3 (openLk vb n w h g i) (n * n) → P 19 [some (.ref 26), some (.int (nI k)), some (.int (nI g)), some (.int (nI i)), x4, x5] [] (w_M f m3 tl bb) := by
        refine x_lp n (fun i hi ih2 m3 hm3 hl3 => ?_)
        have hG3 := hm3.g hG
        have hV3 := hm3.v hV
        repeat refine hP _ _ _ _ ?_
        refine b_ge (i) (n) (fun hi9 => ?_) (fun hi9 => ?_) (rfl) (hG3.1) (by omega) (by omega)
        · have hin : i = n := by omega
          subst hin
          refine x_p4 (P := P) (fin m3 hm3 (hl ▸ hl3)) ?_ rfl ?_ <;> try (first | rfl | (rw [nI_succ]; rfl))
        · have hat := atN_lt (w := w) (h := h) hG.2.2.2 hg9 hi9
          have hlk : (openLk vb n w h g i).length ≤ i := fl_le _ _ (by simp)
          have ih2 := ih2 hi9
          rw [openLk_s] at ih2
          repeat refine hP _ _ _ _ ?_
          refine r_at hG3 hg9 hi9 ?_
          repeat refine hP _ _ _ _ ?_
          refine And.intro (vp_in_nI (by omega) (by omega)) ?_
          rw [ldv (hV3 _ hat).1 (by omega)]
          repeat refine hP _ _ _ _ ?_
          refine b_vlt (fun hv => ?_) (fun hv => ?_) (rfl) ((hV.lt g2 hat))
          · rw [hv] at ih2
            repeat refine hP _ _ _ _ ?_
            refine r_at hG3 hg9 hi9 ?_
            repeat refine hP _ _ _ _ ?_
            rw [hl3.1]
            refine And.intro (vp_in_nI (by omega) (by omega)) ?_
            iterate 8 refine hP _ _ _ _ ?_
            refine x_p4 (P := P) (ih2 (sF (sA m3 33 (upd (m3.2 33) (openLk vb n w h g i).length (nI (atN n w h g i)))) 13 (nI ((openLk vb n w h g i).length + 1))) (hm3.tr ((scr.a (by decide)).tr (scr.f (by decide)))) (lsM_p hl3 hat)) ?_ rfl ?_
            · rw [nI_succ]; rfl
            · rw [← upv (i := (openLk vb n w h g i).length) (by omega), nI_succ, ← hl3.1]; rfl
          · have hv : (vb (atN n w h g i)).isNone = false := by cases h8 : vb (atN n w h g i) with
              | none => exact absurd h8 hv
              | some s => rfl
            rw [hv] at ih2
            iterate 3 refine hP _ _ _ _ ?_
            refine x_p4 (P := P) (ih2 m3 hm3 (by rw [if_neg (by decide), List.append_nil]; exact hl3)) ?_ rfl ?_ <;> try (first | rfl | (rw [nI_succ]; rfl))
      iterate 5 refine hP _ _ _ _ ?_
      refine x_p4 (P := P) (lst 0 (by omega) (sF m2 13 0) (hm.tr (scr.f (by decide))) (lsM_0 m2 _)) ?_ rfl ?_ <;> try (first | rfl | (rw [nI_succ]; rfl))
  iterate 2 refine hP _ _ _ _ ?_
  refine x_p4 (P := P) (loop 0 (by omega) ms (scr.rf ms) rfl none none none) ?_ rfl ?_ <;> try (first | rfl | (rw [nI_succ]; rfl))
end NK
