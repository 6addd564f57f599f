/-! ===== the class over the pure game: find, apply, solve, undo ===== -/
def fdC (cs : x_S) (n : Nat) (o : Option (Nat × rS)) : Prop := match o with
  | none => cs.1 0 = -1 ∧ zC cs n
  | some (k, r) => cs.1 0 = nI k ∧ rsC cs n r
def repC (cs : x_S) (n w h : Nat) (s : pS) : Prop := bC cs n w h s.cb s.vb ∧ (∀ k, k < 19 → cs.2 24 k = bI (!s.off k)) ∧ (∀ k, k < 19 → cs.2 25 k = s.dn k) ∧ fdC cs n s.fd ∧ cs.1 7 = nI s.hs.length ∧ cs.1 6 = nI (szH n s.hs) ∧ hsC cs n s.hs
/-- all but the finding and the scratch is as it was -/
def scF (cs cs' : x_S) : Prop := (∀ k, 6 ≤ k → cs'.1 k = cs.1 k) ∧ ∀ p, p ≠ 10 → p ≠ 11 → p ≠ 16 → p ≠ 17 → p ≠ 18 → cs'.2 p = cs.2 p
theorem scF.rf (cs : x_S) : scF cs cs := ⟨fun _ _ => rfl, fun _ _ _ _ _ _ => rfl⟩
theorem scF.tr {a b c : x_S} (h1 : scF a b) (h2 : scF b c) : scF a c := ⟨fun k x => (h2.1 k x).trans (h1.1 k x), fun p x1 x2 x3 x4 x5 => (h2.2 p x1 x2 x3 x4 x5).trans (h1.2 p x1 x2 x3 x4 x5)⟩
theorem scC.F {a b : x_S} (h : scC a b) : scF a b := ⟨fun k x => h.1 k (by omega) (by omega) (by omega) (by omega) (by omega), h.2⟩
theorem scF.b {a b : x_S} {n w h : Nat} {cb : Nat → Nat} {vb : Nat → Option Nat} (s : scF a b) (hB : bC a n w h cb vb) : bC b n w h cb vb := by
  obtain ⟨h1, h2, h3, h4, h5⟩ := hB
  have e3 := s.2 3 (by decide) (by decide) (by decide) (by decide) (by decide)
  have e4 := s.2 4 (by decide) (by decide) (by decide) (by decide) (by decide)
  have e5 := s.2 5 (by decide) (by decide) (by decide) (by decide) (by decide)
  have e6 := s.2 6 (by decide) (by decide) (by decide) (by decide) (by decide)
  have e7 := s.2 7 (by decide) (by decide) (by decide) (by decide) (by decide)
  have e8 := s.2 8 (by decide) (by decide) (by decide) (by decide) (by decide)
  have e13 := s.2 13 (by decide) (by decide) (by decide) (by decide) (by decide)
  have e14 := s.2 14 (by decide) (by decide) (by decide) (by decide) (by decide)
  unfold bC gC cC vC pC seC
  rw [e3, e4, e5, e6, e7, e8, e13, e14]
  exact ⟨h1, h2, h3, h4, h5⟩
theorem hsC_sc {cs cs' : x_S} {n : Nat} (h0 : cs'.2 20 = cs.2 20) (h1 : cs'.2 21 = cs.2 21) (h2 : cs'.2 22 = cs.2 22) (h3 : cs'.2 23 = cs.2 23) : ∀ hs, hsC cs n hs → hsC cs' n hs
  | [], _ => trivial
  | (cb, vb, k, r) :: t, hh => by
    obtain ⟨a1, a2, a3, a4, a5⟩ := hh
    exact ⟨by rw [h1]; exact a1, by rw [h2]; exact a2, by rw [h3]; exact a3, fun j y hy => by rw [h0]; exact a4 j y hy, hsC_sc h0 h1 h2 h3 t a5⟩
theorem rep_sc {cs cs' : x_S} {n w h : Nat} {s : pS} {fd : Option (Nat × rS)} (hR : repC cs n w h s) (hs : scF cs cs') (hf : fdC cs' n fd) : repC cs' n w h (s.cb, s.vb, s.off, s.dn, fd, s.hs) := by
  obtain ⟨a1, a2, a3, a4, a5, a6, a7⟩ := hR
  have e : ∀ p, p ≠ 10 → p ≠ 11 → p ≠ 16 → p ≠ 17 → p ≠ 18 → cs'.2 p = cs.2 p := hs.2
  refine ⟨hs.b a1, fun k hk => ?_, fun k hk => ?_, hf, (hs.1 7 (by decide)).trans a5, (hs.1 6 (by decide)).trans a6, hsC_sc (cs := cs) (e 20 (by decide) (by decide) (by decide) (by decide) (by decide)) (e 21 (by decide) (by decide) (by decide) (by decide) (by decide)) (e 22 (by decide) (by decide) (by decide) (by decide) (by decide)) (e 23 (by decide) (by decide) (by decide) (by decide) (by decide)) _ a7⟩
  · rw [e 24 (by decide) (by decide) (by decide) (by decide) (by decide)]; exact a2 k hk
  · rw [e 25 (by decide) (by decide) (by decide) (by decide) (by decide)]; exact a3 k hk
theorem gcN_z : ∀ k, gcN (fun _ => 0) k = 0
  | 0 => rfl
  | k + 1 => by show gcN (fun _ => 0) k + pcN 0 = 0; rw [gcN_z k, pcN_0]
theorem rsL_z : ∀ k, rsL (fun _ => false) k = [] ∧ rcN (fun _ => false) k = 0
  | 0 => ⟨rfl, rfl⟩
  | k + 1 => by
    obtain ⟨h1, h2⟩ := rsL_z k
    constructor
    · show rsL (fun _ => false) k ++ [] = []; rw [h1]; rfl
    · show rcN (fun _ => false) k + 0 = 0; rw [h2]
theorem cl_z {cs : x_S} {n : Nat} {g : Nat → Int32} (hg : ∀ c, c < n * n → g c = 0) : zC (clC (sA cs 10 g)) n := by
  refine ⟨rfl, rfl, ⟨fun c hc => ⟨hg c hc, by show (0 : Nat) < 512; decide⟩, ?_⟩, ?_, fun j c e => ?_⟩
  · show (0 : Int32) = nI (gcN (fun _ => 0) (n * n)); rw [gcN_z]; rfl
  · show (0 : Int32) = nI (rcN (fun _ => false) (n * n)); rw [(rsL_z _).2]; rfl
  · rw [(rsL_z _).1] at e; cases e
theorem cl_sc {cs : x_S} {g : Nat → Int32} : scF cs (clC (sA cs 10 g)) := by
  refine ⟨fun k hk => ?_, fun p hp _ _ _ _ => by show (if p = 10 then g else cs.2 p) = _; rw [if_neg hp]⟩
  show upd (upd (upd (upd (upd cs.1 0 (-1)) 1 (-1)) 2 (-1)) 3 0) 4 0 k = cs.1 k
  rw [pk_un (by omega), pk_un (by omega), pk_un (by omega), pk_un (by omega), pk_un (by omega)]
section KG
variable {sc : Nat × (Nat → Int32)} {cs : x_S} {tl : List x_C} {bb : Nat × Nat} {n w h d : Nat} {Q : x_O → x_H → Prop} {s : pS}
theorem k_clear (hR : repC cs n w h s) (hQ : ∀ cs', scF cs cs' → zC cs' n → cs'.1 0 = -1 → repC cs' n w h (noF s) → Q (.inl none) (w_C n cs' tl bb)) : x_run sc x_MM x_EX (d + 1) k_X1_clear [.ref 9] (w_C n cs tl bb) Q := c_clear hR.1.1.1 (fun g hg => hQ _ cl_sc (cl_z hg) rfl (rep_sc hR cl_sc ⟨rfl, cl_z hg⟩))
theorem k_find (hR : repC cs n w h s) (hI : inv n w h s) (hQ : ∀ cs', repC cs' n w h (findP n w h s) → Q (.inl (some (.int (frI n w h s)))) (w_C n cs' tl bb)) : x_run sc x_MM x_EX (d + 7) k_X7_find [.ref 0] (w_C n cs tl bb) Q := by
  have hk := hI.1
  refine x_in (M := m_X7_find) rfl rfl (Nat.le_of_ble_eq_true rfl) ⟨rfl, trivial⟩ ?_
  intro P hP
  repeat refine hP _ _ _ _ ?_
  refine k_clear hR (fun cs2 hs2 hz2 h02 hr2 => ?_)
  have hB2 := hs2.b hR.1
  repeat refine hP _ _ _ _ ?_
  refine c_isBroken hB2.1 hB2.2.1 hB2.2.2.2.1 (fun hb => ?_) (fun hb => ?_)
  · repeat refine hP _ _ _ _ ?_
    refine b_ifeq (fun h1 => ?_) (fun h1 => ?_) (rfl)
    · cases h1
    · repeat refine hP _ _ _ _ ?_
      have e : findP n w h s = noF s := by unfold findP fdP; rw [if_pos hb]; rfl
      refine x_q1 (hQ cs2 (e ▸ hr2)) ?_
      unfold frI
      rw [if_pos hb]
      rfl
  · repeat refine hP _ _ _ _ ?_
    refine b_ifeq (fun h1 => ?_) (fun h1 => ?_) (rfl)
    · have loop : ∀ k, k ≤ 19 → ∀ cs3 : x_S, scC cs2 cs3 → zC cs3 n → seaS s.off s.cb s.vb n w h = ff (seaE s.off s.cb s.vb n w h) (19 - k) k → P 22 [some (.ref 0), some (.int (nI k))] [] (w_C n cs3 tl bb) := by
        refine x_lp 19 (fun k hk9 ih cs3 hsc hz hf => ?_)
        repeat refine hP _ _ _ _ ?_
        refine b_ge (k) (19) (fun hk19 => ?_) (fun hk19 => ?_) (rfl) (ob19) (by omega) (by omega)
        · have hno := hf.trans (ff_e hk19)
          have e : findP n w h s = (s.cb, s.vb, s.off, s.dn, none, s.hs) := by unfold findP fdP; rw [if_neg hb, hno]
          repeat refine hP _ _ _ _ ?_
          refine x_q1 (hQ cs3 (e ▸ rep_sc hR (hs2.tr hsc.F) ⟨(hsc.1 0 (by decide) (by decide) (by decide) (by decide) (by decide)).trans h02, hz⟩)) ?_
          unfold frI
          rw [if_neg hb, hno]
          rfl
        · have ih := ih hk19
          have hoff : cs3.2 24 k = bI (!s.off k) := by rw [(hs2.tr hsc.F).2 24 (by decide) (by decide) (by decide) (by decide) (by decide)]; exact hR.2.1 k hk19
          repeat refine hP _ _ _ _ ?_
          refine And.intro (vp_in_nI hk19 (by omega)) ?_
          rw [ldv (f := cs3.2 24) hoff (by omega)]
          repeat refine hP _ _ _ _ ?_
          refine b_ifeq (fun ho => ?_) (fun ho => ?_) (rfl)
          · have ho : s.off k = true := by simpa using ho
            iterate 2 refine hP _ _ _ _ ?_
            refine x_p4 (P := P) (ih cs3 hsc hz (hf.trans (ff_n' hk19 (by unfold seaE; rw [ho]; rfl)))) ?_ rfl ?_ <;> try (first | rfl | (rw [nI_succ]; rfl))
          · have ho : s.off k = false := by simpa using ho
            repeat refine hP _ _ _ _ ?_
            refine c_seek (hsc.b hB2) hz hI.2.2.2.1 hb hk19 (fun cs4 r h4 he hr4 => ?_) (fun cs4 h4 he hz4 => ?_)
            · have hyes := hf.trans (ff_s' (r := (k, r)) hk19 (by unfold seaE; rw [ho, he]; rfl))
              have e : findP n w h s = (s.cb, s.vb, s.off, s.dn, some (k, r), s.hs) := by unfold findP fdP; rw [if_neg hb, hyes]
              repeat refine hP _ _ _ _ ?_
              refine b_ifeq (fun h6 => ?_) (fun h6 => ?_) (rfl)
              · cases h6
              · repeat refine hP _ _ _ _ ?_
                have hsF : scF cs4 (sF cs4 0 (nI k)) := ⟨fun k9 hk9 => by show upd cs4.1 0 _ k9 = _; rw [pk_un (by omega)], fun _ _ _ _ _ _ => rfl⟩
                refine x_q2 (x_q1 (hQ (sF cs4 0 (nI k)) (e ▸ rep_sc hR ((hs2.tr (hsc.tr h4).F).tr hsF) ⟨rfl, hr4.1, hr4.2.1, hr4.2.2⟩)) ?_) rfl
                unfold frI
                rw [if_neg hb, hyes]
            · repeat refine hP _ _ _ _ ?_
              refine b_ifeq (fun h6 => ?_) (fun h6 => ?_) (rfl)
              · iterate 2 refine hP _ _ _ _ ?_
                refine x_p4 (P := P) (ih cs4 (hsc.tr h4) hz4 (hf.trans (ff_n' hk19 (by unfold seaE; rw [ho, he]; rfl)))) ?_ rfl ?_ <;> try (first | rfl | (rw [nI_succ]; rfl))
              · cases h6
      iterate 2 refine hP _ _ _ _ ?_
      refine x_p4 (P := P) (loop 0 (by omega) cs2 (scC.rf cs2) hz2 rfl) ?_ rfl ?_ <;> try (first | rfl | (rw [nI_succ]; rfl))
    · cases h1
theorem k_performFound (hR : repC cs n w h s) (hI : inv n w h s) {k : Nat} {r : rS} (hfd : s.fd = some (k, r)) (hQ : ∀ cs', repC cs' n w h (actP s k r) → Q (.inl none) (w_C n cs' tl bb)) : x_run sc x_MM x_EX (d + 3) k_X7_performFound [.ref 0] (w_C n cs tl bb) Q := by
  obtain ⟨a1, a2, a3, a4, a5, a6, a7⟩ := hR
  rw [hfd] at a4
  obtain ⟨f0, f1⟩ := a4
  obtain ⟨hk19, hok⟩ := hI.2.2.2.2.2 k r hfd
  have hkd := hI.1
  obtain ⟨g1, g2, g3, g4, g5, g6, g7, g8⟩ := hkd.le
  obtain ⟨b1, b2, b3, b4, b5, b6, b7⟩ := hkd.b3
  have hlen := inv_len hI
  have hmu := mu_r hkd hI.2.1 hok
  have hsz := chn_sz s.hs hI.2.1 hI.2.2.2.2.1
  have hgl := gcN_left hok.1 (n * n)
  have n3 : n * (n * n) = n * n * n := (Nat.mul_assoc n n n).symm
  refine x_in (M := m_X7_performFound) rfl rfl (Nat.le_of_ble_eq_true rfl) ⟨rfl, trivial⟩ ?_
  intro P hP
  repeat refine hP _ _ _ _ ?_
  refine c_carryOut a1 f1 hok a6 (by omega) (fun cs2 hf2 hB2 e6 hlo hgn => ?_)
  repeat refine hP _ _ _ _ ?_
  have e7 : cs2.1 7 = nI s.hs.length := (hf2.1 7 (by decide)).trans a5
  refine c_close (z := 0) hkd e7 (by omega) ?_
  have f0' : cs.1 0 = nI k := f0
  generalize hc3 : sF (sA (sA (sA cs2 21 (upd (cs2.2 21) s.hs.length (cs.1 0))) 22 (upd (cs2.2 22) s.hs.length (cs2.1 1))) 23 (upd (cs2.2 23) s.hs.length (cs2.1 6))) 7 (nI (s.hs.length + 1)) = cs3
  have q25 : cs3.2 25 k = s.dn k := by rw [← hc3]; show cs2.2 25 k = _; rw [hf2.2 25 (by decide) (by decide) (by decide) (by decide)]; exact a3 k hk19
  repeat refine hP _ _ _ _ ?_
  refine And.intro (vpx f0' hk19 (by omega)) ?_
  rw [ldx (f := cs3.2 25) q25 f0' (by omega)]
  repeat refine hP _ _ _ _ ?_
  refine And.intro (vpx f0' hk19 (by omega)) ?_
  rw [upx (f := cs3.2 25) f0' (by omega)]
  repeat refine hP _ _ _ _ ?_
  refine c_clear (cs := sA cs3 25 (upd (cs3.2 25) k (s.dn k + Int32.ofInt 1))) hkd (fun g hg => ?_)
  repeat refine hP _ _ _ _ ?_
  refine hQ _ ?_
  subst hc3
  obtain ⟨hG2, hC2, hV2, hP2, hE2⟩ := hB2
  refine ⟨⟨hG2, hC2, hV2, hP2, hE2⟩, fun j hj => ?_, fun j hj => ?_, ⟨rfl, cl_z hg⟩, rfl, e6, ?_⟩
  · show cs2.2 24 j = _
    rw [hf2.2 24 (by decide) (by decide) (by decide) (by decide)]
    exact a2 j hj
  · show upd (cs2.2 25) k (s.dn k + Int32.ofInt 1) j = upd s.dn k (s.dn k + 1) j
    by_cases hjk : j = k
    · subst hjk; rw [pk_us, pk_us]; rfl
    · rw [pk_un hjk, pk_un hjk, hf2.2 25 (by decide) (by decide) (by decide) (by decide)]; exact a3 j hj
  · refine ⟨?_, ?_, ?_, hgn, ?_⟩
    · show upd (cs2.2 21) s.hs.length (cs.1 0) s.hs.length = _
      rw [pk_us]; exact f0
    · show upd (cs2.2 22) s.hs.length (cs2.1 1) s.hs.length = _
      rw [pk_us]; exact (hf2.1 1 (by decide)).trans f1.1.1
    · show upd (cs2.2 23) s.hs.length (cs2.1 6) s.hs.length = _
      rw [pk_us]; exact e6
    · refine hsC_eq (cs := cs) (D := s.hs.length) (z := szH n s.hs) (fun j hj => ?_) (fun j hj => ?_) (fun j hj => ?_) (fun j hj => ?_) g2 s.hs (Nat.le_refl _) (Nat.le_refl _) (chn_go s.hs hI.2.2.2.2.1) a7
      · exact hlo j hj
      · show upd (cs2.2 21) s.hs.length (cs.1 0) j = _
        rw [pk_un (by omega), hf2.2 21 (by decide) (by decide) (by decide) (by decide)]
      · show upd (cs2.2 22) s.hs.length (cs2.1 1) j = _
        rw [pk_un (by omega), hf2.2 22 (by decide) (by decide) (by decide) (by decide)]
      · show upd (cs2.2 23) s.hs.length (cs2.1 6) j = _
        rw [pk_un (by omega), hf2.2 23 (by decide) (by decide) (by decide) (by decide)]
theorem fdC_N (hR : repC cs n w h s) (hI : inv n w h s) : cs.1 0 = -1 ↔ s.fd = none := by
  have h4 := hR.2.2.2.1
  cases hf : s.fd with
  | none => rw [hf] at h4; exact ⟨fun _ => rfl, fun _ => h4.1⟩
  | some p =>
    rw [hf] at h4
    have := (hI.2.2.2.2.2 p.1 p.2 hf).1
    exact ⟨fun e => absurd (h4.1.symm.trans e) (nI_m1 (by omega)), fun e => by cases e⟩
theorem k_apply (hR : repC cs n w h s) (hI : inv n w h s) (hQ : ∀ cs', repC cs' n w h (apX s) → Q (.inl (some (.int (bI s.fd.isSome)))) (w_C n cs' tl bb)) : x_run sc x_MM x_EX (d + 4) k_X7_apply [.ref 0] (w_C n cs tl bb) Q := by
  have h0 := fdC_N hR hI
  refine x_in (M := m_X7_apply) rfl rfl (Nat.le_of_ble_eq_true rfl) ⟨rfl, trivial⟩ ?_
  intro P hP
  repeat refine hP _ _ _ _ ?_
  refine And.intro (fun h9 => ?_) (fun h9 => ?_)
  · have h9 : ¬ cs.1 0 = -1 := h9
    rw [h0] at h9
    cases hf : s.fd with
    | none => exact absurd hf h9
    | some p =>
      obtain ⟨k, r⟩ := p
      have e : apX s = actP s k r := by unfold apX; rw [hf]
      rw [hf, e] at hQ
      repeat refine hP _ _ _ _ ?_
      refine k_performFound hR hI hf (fun cs2 hr2 => ?_)
      repeat refine hP _ _ _ _ ?_
      exact And.intro rfl (hQ cs2 hr2)
  · have h9 : cs.1 0 = -1 := Decidable.of_not_not h9
    rw [h0] at h9
    have e : apX s = s := by unfold apX; rw [h9]
    rw [h9, e] at hQ
    repeat refine hP _ _ _ _ ?_
    exact And.intro rfl (hQ cs hR)
theorem solP_big {n w h : Nat} : ∀ (m B : Nat) {s : pS}, inv n w h s → gcN s.cb (n * n) + openN s.vb (n * n) ≤ B → solP n w h (min m B) s = solP n w h m s
  | 0, B, s, _, _ => by rw [Nat.zero_min]
  | m + 1, B, s, hI, hB => by
    cases he : fdP n w h s with
    | none =>
      cases B with
      | zero => rw [solP_n he, Nat.min_zero]; rfl
      | succ B => rw [Nat.succ_min_succ, solP_n he, solP_n he]
    | some p =>
      obtain ⟨k, r⟩ := p
      have hok := fdP_ok hI he
      have hmu := mu_r hI.1 hI.2.1 hok.2.2
      cases B with
      | zero => omega
      | succ B =>
        rw [Nat.succ_min_succ, solP_s he, solP_s he, solP_big m B (inv_act hI hok.2.1 hok.2.2) (by show gcN (leftN s.cb r.2.1) (n * n) + openN (setV s.vb r.1) (n * n) ≤ B; omega)]
theorem k_solve (hR : repC cs n w h s) (hI : inv n w h s) {x : Int32} (hQ : ∀ cs', repC cs' n w h (solX n w h s x) → Q (.inl (some (.int (solI n w h s x)))) (w_C n cs' tl bb)) : x_run sc x_MM x_EX (d + 8) k_X7_solve [.ref 0, .int x] (w_C n cs tl bb) Q := by
  have hkd := hI.1
  obtain ⟨b1, b2, b3, b4, b5, b6, b7⟩ := hkd.b3
  refine x_in (M := m_X7_solve) rfl rfl (Nat.le_of_ble_eq_true rfl) ⟨rfl, rfl, trivial⟩ ?_
  intro P hP
  repeat refine hP _ _ _ _ ?_
  refine And.intro (fun h9 => ?_) (fun h9 => ?_)
  · have h9 : ¬ x < 0 := Int32.not_lt.mpr h9
    have hQ : ∀ cs', repC cs' n w h (solP n w h x.toNatClampNeg s).2 → Q (.inl (some (.int (nI (solP n w h x.toNatClampNeg s).1)))) (w_C n cs' tl bb) := by
      intro cs' h5
      have := hQ cs'
      unfold solX solI at this
      rw [if_neg h9, if_neg h9] at this
      exact this h5
    obtain ⟨X, hX, rfl⟩ := i32_nn h9
    rw [nI_clamp hX] at hQ
    have hn3 : n * (n * n) + n * n = n * n * n + n * n := by rw [Nat.mul_assoc]
    have hlen := inv_len hI
    rw [← solP_big X (n * n * n + n * n) hI (by omega)] at hQ
    generalize hM : min X (n * n * n + n * n) = M at hQ
    have hmin : (if nI (n * n * n + n * n) < nI X then nI (n * n * n + n * n) else nI X) = nI M := by
      rw [← hM]
      by_cases h7 : nI (n * n * n + n * n) < nI X
      · rw [if_pos h7]
        rw [nI_ltI (by omega) hX] at h7
        rw [Nat.min_eq_right (by omega)]
      · rw [if_neg h7]
        rw [nI_ltI (by omega) hX] at h7
        rw [Nat.min_eq_left (by omega)]
    have hM9 : M ≤ 810 := by rw [← hM]; exact Nat.le_trans (Nat.min_le_right _ _) (by omega)
    repeat refine hP _ _ _ _ ?_
    refine k_clear hR (fun cs2 hs2 hz2 h02 hr2 => ?_)
    repeat refine hP _ _ _ _ ?_
    refine c_mostSteps ?_
    have fin : ∀ (cs3 : x_S) (i : Nat) (s2 : pS), repC cs3 n w h (noF s2) → (solP n w h M s).1 = i → (solP n w h M s).2 = noF s2 → P 49 [some (.ref 0), some (.int (nI X)), some (.int (nI M)), some (.int (nI i))] [] (w_C n cs3 tl bb) := by
      intro cs3 i s2 hr3 e1 e2
      repeat refine hP _ _ _ _ ?_
      refine x_q1 (hQ cs3 (e2 ▸ hr3)) ?_
      rw [e1]
    have loop : ∀ i, i ≤ M → ∀ (cs3 : x_S) (s2 : pS), repC cs3 n w h (noF s2) → inv n w h (noF s2) → (solP n w h M s).1 = i + (solP n w h (M - i) (noF s2)).1 → (solP n w h M s).2 = (solP n w h (M - i) (noF s2)).2 → P 27 [some (.ref 0), some (.int (nI X)), some (.int (nI M)), some (.int (nI i))] [] (w_C n cs3 tl bb) := by
      refine x_lp M (fun i hi ih cs3 s2 hr3 hi3 e1 e2 => ?_)
      repeat refine hP _ _ _ _ ?_
      refine b_ge (i) (M) (fun hi9 => ?_) (fun hi9 => ?_) (rfl) (rfl) (by omega) (by omega)
      · rw [show M - i = 0 by omega] at e1 e2
        exact fin cs3 i s2 hr3 e1 e2
      · have ih := ih hi9
        obtain ⟨j, hj⟩ : ∃ j, M - i = j + 1 := ⟨M - i - 1, by omega⟩
        rw [hj] at e1 e2
        rw [show M - (i + 1) = j by omega] at ih
        repeat refine hP _ _ _ _ ?_
        refine k_find hr3 hi3 (fun cs4 hr4 => ?_)
        cases he : fdP n w h (noF s2) with
        | none =>
          rw [solP_n he] at e1 e2
          have hneg : frI n w h (noF s2) < 0 := by
            unfold frI
            unfold fdP at he
            by_cases hb : brk (noF s2).cb n w h
            · rw [if_pos hb]; decide
            · rw [if_neg hb] at he ⊢
              rw [he]
              decide
          have e3 : findP n w h (noF s2) = noF s2 := by unfold findP; rw [he]; rfl
          repeat refine hP _ _ _ _ ?_
          refine And.intro (fun _ => fin cs4 i s2 (e3 ▸ hr4) e1 e2) (fun h7 => absurd hneg h7)
        | some p =>
          obtain ⟨k, r⟩ := p
          rw [solP_s he] at e1 e2
          have hok := fdP_ok hi3 he
          have hfr : frI n w h (noF s2) = nI k := by
            unfold frI
            unfold fdP at he
            rw [if_neg hok.1] at he ⊢
            rw [he]
          have e3 : (findP n w h (noF s2)).fd = some (k, r) := he
          have hap : actP (findP n w h (noF s2)) k r = actP (noF s2) k r := rfl
          repeat refine hP _ _ _ _ ?_
          refine And.intro (fun h7 => absurd (show frI n w h (noF s2) < 0 from h7) (by rw [hfr]; exact nI_pos (by have := hok.2.1; omega))) (fun _ => ?_)
          repeat refine hP _ _ _ _ ?_
          refine k_performFound hr4 (inv_find hi3) e3 (fun cs5 hr5 => ?_)
          rw [hap] at hr5
          iterate 2 refine hP _ _ _ _ ?_
          refine x_p4 (P := P) (ih cs5 (actP (noF s2) k r) hr5 (inv_act hi3 hok.2.1 hok.2.2) (by rw [e1]; show _ + (_ + 1) = _ + 1 + _; show i + ((solP n w h j (actP (noF s2) k r)).1 + 1) = i + 1 + (solP n w h j (actP (noF s2) k r)).1; omega) e2) ?_ rfl ?_ <;> try (first | rfl | (rw [nI_succ]; rfl))
    have es : solP n w h M (noF s) = solP n w h M s := by
      cases M with
      | zero => rfl
      | succ M =>
        cases he : fdP n w h s with
        | none => rw [solP_n he, solP_n (show fdP n w h (noF s) = none from he)]; rfl
        | some p => obtain ⟨k, r⟩ := p; rw [solP_s he, solP_s (show fdP n w h (noF s) = some (k, r) from he)]; rfl
    iterate 4 refine hP _ _ _ _ ?_
    refine x_p4 (P := P) (loop 0 (by omega) cs2 s hr2 (inv_noF hI) (by rw [Nat.sub_zero, es]; omega) (by rw [Nat.sub_zero, es])) ?_ rfl ?_
    · rw [← hmin]; rfl
    · rfl
  · have h9 : x < 0 := Int32.not_le.mp h9
    repeat refine hP _ _ _ _ ?_
    have := hQ cs
    unfold solX solI at this
    rw [if_pos h9, if_pos h9] at this
    exact this hR
theorem k_undo (hR : repC cs n w h s) (hI : inv n w h s) (hQ : ∀ cs', repC cs' n w h (undoP s) → Q (.inl (some (.int (undoI s)))) (w_C n cs' tl bb)) : x_run sc x_MM x_EX (d + 3) k_X7_undo [.ref 0] (w_C n cs tl bb) Q := by
  have hkd := hI.1
  obtain ⟨g1, g2, g3, g4, g5, g6, g7, g8⟩ := hkd.le
  obtain ⟨b1, b2, b3, b4, b5, b6, b7⟩ := hkd.b3
  have hlen := inv_len hI
  have hsz := chn_sz s.hs hI.2.1 hI.2.2.2.2.1
  have n3 : n * (n * n) = n * n * n := (Nat.mul_assoc n n n).symm
  obtain ⟨cb, vb, off, dn, fd, hs⟩ := s
  obtain ⟨a1, a2, a3, a4, a5, a6, a7⟩ := hR
  refine x_in (M := m_X7_undo) rfl rfl (Nat.le_of_ble_eq_true rfl) ⟨rfl, trivial⟩ ?_
  intro P hP
  cases hs with
  | nil =>
    have a5 : cs.1 7 = nI 0 := a5
    repeat refine hP _ _ _ _ ?_
    refine And.intro (fun h9 => absurd (show cs.1 7 = 0 from a5) h9) (fun _ => ?_)
    repeat refine hP _ _ _ _ ?_
    exact hQ cs ⟨a1, a2, a3, a4, a5, a6, a7⟩
  | cons a t =>
    obtain ⟨cb0, vb0, k, r⟩ := a
    obtain ⟨i1, i2, i3, i4, i5, i6⟩ := hI
    obtain ⟨c1, c2, c3, c4, c5, c6, c7, c8⟩ := i5
    have c6 : cb = leftN cb0 r.2.1 := c6
    have c7 : vb = setV vb0 r.1 := c7
    subst c6
    subst c7
    have a5 : cs.1 7 = nI (t.length + 1) := a5
    have hlen : t.length + 1 + gcN (leftN cb0 r.2.1) (n * n) + openN (setV vb0 r.1) (n * n) ≤ n * (n * n) + n * n := hlen
    have hsz : szH n t + gcN r.2.1 (n * n) + gcN (leftN cb0 r.2.1) (n * n) ≤ n * (n * n) := hsz
    repeat refine hP _ _ _ _ ?_
    refine And.intro (fun _ => ?_) (fun h9 => absurd (show cs.1 7 = 0 from Decidable.of_not_not h9) (by rw [a5]; exact nI_ne0 (by omega) (by omega)))
    repeat refine hP _ _ _ _ ?_
    refine c_takeBack a1 c1 c3 c4 a7 a5 a6 (by omega) (by omega) (fun cs2 hf2 hB2 e6 e7 => ?_)
    have q25 : cs2.2 25 k = dn k := by rw [hf2.2 25 (by decide) (by decide) (by decide)]; exact a3 k c2
    repeat refine hP _ _ _ _ ?_
    refine And.intro (vp_in_nI c2 (by omega)) ?_
    rw [ldv (f := cs2.2 25) q25 (by omega)]
    repeat refine hP _ _ _ _ ?_
    refine And.intro (vp_in_nI c2 (by omega)) ?_
    rw [upv (f := cs2.2 25) (by omega)]
    repeat refine hP _ _ _ _ ?_
    refine c_clear (cs := sA cs2 25 (upd (cs2.2 25) k (dn k - Int32.ofInt 1))) hkd (fun g hg => ?_)
    repeat refine hP _ _ _ _ ?_
    refine hQ _ ?_
    obtain ⟨hG2, hC2, hV2, hP2, hE2⟩ := hB2
    refine ⟨⟨hG2, hC2, hV2, hP2, hE2⟩, fun j hj => ?_, fun j hj => ?_, ⟨rfl, cl_z hg⟩, e7, e6, ?_⟩
    · show cs2.2 24 j = _
      rw [hf2.2 24 (by decide) (by decide) (by decide)]
      exact a2 j hj
    · show upd (cs2.2 25) k (dn k - Int32.ofInt 1) j = upd dn k (dn k - 1) j
      by_cases hjk : j = k
      · subst hjk; rw [pk_us, pk_us]; rfl
      · rw [pk_un hjk, pk_un hjk, hf2.2 25 (by decide) (by decide) (by decide)]; exact a3 j hj
    · exact hsC_sc (cs := cs) (cs' := clC (sA (sA cs2 25 (upd (cs2.2 25) k (dn k - Int32.ofInt 1))) 10 g)) (hf2.2 20 (by decide) (by decide) (by decide)) (hf2.2 21 (by decide) (by decide) (by decide)) (hf2.2 22 (by decide) (by decide) (by decide)) (hf2.2 23 (by decide) (by decide) (by decide)) t a7.2.2.2.2
end KG
