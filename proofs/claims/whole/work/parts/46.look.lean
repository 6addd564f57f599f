/-! ===== the model: look, search ===== -/
noncomputable def lookS (cb : Nat → Nat) (vb : Nat → Option Nat) (n w h k : Nat) : Option rS :=
  if k = 0 then lastS cb vb n w h else if k = 1 then onlyS cb vb n w h (2 * n) else if k = 2 then onlyS cb vb n w h 0 else if k = 3 then onlyS cb vb n w h n else if k = 4 then poS cb n w h else if k = 5 then claS cb n w h else if k = 6 then nakS cb vb n w h 2 else if k = 7 then nakS cb vb n w h 3 else if k = 8 then nakS cb vb n w h 4 else if k = 9 then hidS cb vb n w h 2 else if k = 10 then hidS cb vb n w h 3 else if k = 11 then fisS cb n w h 0 2 else if k = 12 then fisS cb n w h n 2 else if k = 13 then fisS cb n w h 0 3 else if k = 14 then fisS cb n w h n 3 else if k = 15 then wgS cb n w h false else if k = 16 then wgS cb n w h true else if k = 17 then clS cb n w h else reS cb vb n w h
noncomputable def seaE (off : Nat → Bool) (cb : Nat → Nat) (vb : Nat → Option Nat) (n w h k : Nat) : Option (Nat × rS) := if off k then none else (lookS cb vb n w h k).map fun r => (k, r)
noncomputable def seaS (off : Nat → Bool) (cb : Nat → Nat) (vb : Nat → Option Nat) (n w h : Nat) : Option (Nat × rS) := ff (seaE off cb vb n w h) (19 - 0) 0
theorem b_sw {Kf : Int → Prop} {D : Prop} {offs : Array Int} {x : Int32} {lo hi : Int} (k : Nat) (o : Int) (hx : x.toInt = lo + k) (hk : offs[k]? = some o) (hhi : ¬ hi < lo + k) (h : Kf o) : (∀ (j : Nat) (o : Int), offs[j]? = some o → x.toInt = lo + j → Kf o) ∧ ((x.toInt < lo ∨ hi < x.toInt) → D) := by
  refine ⟨fun j o' hj hxj => ?_, fun hd => ?_⟩
  · have e : j = k := by omega
    subst e
    rw [hk] at hj
    cases hj
    exact h
  · omega
theorem b_swd {Kf : Int → Prop} {D : Prop} {offs : Array Int} {x : Int32} {lo hi : Int} (hx : x.toInt < lo ∨ hi < x.toInt) (hs : (offs.size : Int) = hi - lo + 1) (h : D) : (∀ (j : Nat) (o : Int), offs[j]? = some o → x.toInt = lo + j → Kf o) ∧ ((x.toInt < lo ∨ hi < x.toInt) → D) := by
  refine ⟨fun j o' hj hxj => ?_, fun _ => h⟩
  have := (Array.getElem?_eq_some_iff.mp hj).1
  omega
section LK
variable {sc : Nat × (Nat → Int32)} {f : Nat → x_C} {ms : x_S} {tl : List x_C} {bb : Nat × Nat} {n w h d : Nat} {Q : x_O → x_H → Prop} {cb : Nat → Nat} {vb : Nat → Option Nat}
theorem r_look (hG : gM ms n w h) (hC : cM ms n cb) (hV : vM ms n vb) {k : Nat} (hk : k < 19) (hT : ∀ ms' r, scr ms ms' → lookS cb vb n w h k = some r → resM ms' n r → Q (.inl (some (.int (bI true)))) (w_M f ms' tl bb)) (hF : ∀ ms', scr ms ms' → lookS cb vb n w h k = none → Q (.inl (some (.int (bI false)))) (w_M f ms' tl bb)) : x_run sc x_MM x_EX (d + 6) k_X8_look [.ref 26, .int (nI k)] (w_M f ms tl bb) Q := by
  obtain ⟨g1, g2, g3, g4, g5, g6, g7, g8⟩ := hG.2.2.2.le
  have hs := noneM_scr ms
  have hG5 := hs.g hG
  have hC5 := hs.c hC
  have hV5 := hs.v hV
  have hcl := noneM_cl ms
  refine x_in (M := m_X8_look) rfl rfl (Nat.le_of_ble_eq_true rfl) ⟨rfl, rfl, trivial⟩ ?_
  intro P hP
  repeat refine hP _ _ _ _ ?_
  refine r_none ?_
  repeat refine hP _ _ _ _ ?_
  match k, hk with
  | 0, _ =>
    refine b_sw 0 _ (by rw [nI_toInt (by omega)]; rfl) rfl (by decide) ?_
    repeat refine hP _ _ _ _ ?_
    refine r_last hG5 hC5 hV5 hcl (fun m5 r hm5 he hres => ?_) (fun he => ?_)
    · repeat refine hP _ _ _ _ ?_
      exact And.intro (bI_nar _) (hT m5 r (hs.tr hm5) (by exact he) hres)
    · repeat refine hP _ _ _ _ ?_
      exact And.intro (bI_nar _) (hF (noneM ms) hs (by exact he))
  | 1, _ =>
    refine b_sw 1 _ (by rw [nI_toInt (by omega)]; rfl) rfl (by decide) ?_
    repeat refine hP _ _ _ _ ?_
    refine x_rX (r_only (f := f) (tl := tl) (bb := (0, 0)) (ms := noneM ms) (fr := 2 * n) hG5 hC5 hV5 hcl (by omega) (fun m5 r hm5 he hres => ?_) (fun he => ?_)) (by show [Value.ref 26, .int (nI (2 * n))] = [.ref 26, .int (Int32.ofInt 2 * (noneM ms).1 1)]; rw [oi2, hG5.1, pk_mul]) rfl
    · repeat refine hP _ _ _ _ ?_
      exact And.intro (bI_nar _) (hT m5 r (hs.tr hm5) (by exact he) hres)
    · repeat refine hP _ _ _ _ ?_
      exact And.intro (bI_nar _) (hF (noneM ms) hs (by exact he))
  | 2, _ =>
    refine b_sw 2 _ (by rw [nI_toInt (by omega)]; rfl) rfl (by decide) ?_
    repeat refine hP _ _ _ _ ?_
    refine r_only (fr := 0) hG5 hC5 hV5 hcl (by omega) (fun m5 r hm5 he hres => ?_) (fun he => ?_)
    · repeat refine hP _ _ _ _ ?_
      exact And.intro (bI_nar _) (hT m5 r (hs.tr hm5) (by exact he) hres)
    · repeat refine hP _ _ _ _ ?_
      exact And.intro (bI_nar _) (hF (noneM ms) hs (by exact he))
  | 3, _ =>
    refine b_sw 3 _ (by rw [nI_toInt (by omega)]; rfl) rfl (by decide) ?_
    repeat refine hP _ _ _ _ ?_
    refine x_rX (r_only (f := f) (tl := tl) (bb := (0, 0)) (ms := noneM ms) (fr := n) hG5 hC5 hV5 hcl (by omega) (fun m5 r hm5 he hres => ?_) (fun he => ?_)) (by show [Value.ref 26, .int (nI n)] = [.ref 26, .int ((noneM ms).1 1)]; rw [hG5.1]) rfl
    · repeat refine hP _ _ _ _ ?_
      exact And.intro (bI_nar _) (hT m5 r (hs.tr hm5) (by exact he) hres)
    · repeat refine hP _ _ _ _ ?_
      exact And.intro (bI_nar _) (hF (noneM ms) hs (by exact he))
  | 4, _ =>
    refine b_sw 4 _ (by rw [nI_toInt (by omega)]; rfl) rfl (by decide) ?_
    repeat refine hP _ _ _ _ ?_
    refine r_pointing hG5 hC5 (fun m5 r hm5 he hres => ?_) (fun m5 hm5 he => ?_)
    · repeat refine hP _ _ _ _ ?_
      exact And.intro (bI_nar _) (hT m5 r (hs.tr hm5) (by exact he) hres)
    · repeat refine hP _ _ _ _ ?_
      exact And.intro (bI_nar _) (hF m5 (hs.tr hm5) (by exact he))
  | 5, _ =>
    refine b_sw 5 _ (by rw [nI_toInt (by omega)]; rfl) rfl (by decide) ?_
    repeat refine hP _ _ _ _ ?_
    refine r_claiming hG5 hC5 (fun m5 r hm5 he hres => ?_) (fun m5 hm5 he => ?_)
    · repeat refine hP _ _ _ _ ?_
      exact And.intro (bI_nar _) (hT m5 r (hs.tr hm5) (by exact he) hres)
    · repeat refine hP _ _ _ _ ?_
      exact And.intro (bI_nar _) (hF m5 (hs.tr hm5) (by exact he))
  | 6, _ =>
    refine b_sw 6 _ (by rw [nI_toInt (by omega)]; rfl) rfl (by decide) ?_
    repeat refine hP _ _ _ _ ?_
    refine r_naked (k := 2) hG5 hC5 hV5 (by omega) (by omega) (fun m5 r hm5 he hres => ?_) (fun m5 hm5 he => ?_)
    · repeat refine hP _ _ _ _ ?_
      exact And.intro (bI_nar _) (hT m5 r (hs.tr hm5) (by exact he) hres)
    · repeat refine hP _ _ _ _ ?_
      exact And.intro (bI_nar _) (hF m5 (hs.tr hm5) (by exact he))
  | 7, _ =>
    refine b_sw 7 _ (by rw [nI_toInt (by omega)]; rfl) rfl (by decide) ?_
    repeat refine hP _ _ _ _ ?_
    refine r_naked (k := 3) hG5 hC5 hV5 (by omega) (by omega) (fun m5 r hm5 he hres => ?_) (fun m5 hm5 he => ?_)
    · repeat refine hP _ _ _ _ ?_
      exact And.intro (bI_nar _) (hT m5 r (hs.tr hm5) (by exact he) hres)
    · repeat refine hP _ _ _ _ ?_
      exact And.intro (bI_nar _) (hF m5 (hs.tr hm5) (by exact he))
  | 8, _ =>
    refine b_sw 8 _ (by rw [nI_toInt (by omega)]; rfl) rfl (by decide) ?_
    repeat refine hP _ _ _ _ ?_
    refine r_naked (k := 4) hG5 hC5 hV5 (by omega) (by omega) (fun m5 r hm5 he hres => ?_) (fun m5 hm5 he => ?_)
    · repeat refine hP _ _ _ _ ?_
      exact And.intro (bI_nar _) (hT m5 r (hs.tr hm5) (by exact he) hres)
    · repeat refine hP _ _ _ _ ?_
      exact And.intro (bI_nar _) (hF m5 (hs.tr hm5) (by exact he))
  | 9, _ =>
    refine b_sw 9 _ (by rw [nI_toInt (by omega)]; rfl) rfl (by decide) ?_
    repeat refine hP _ _ _ _ ?_
    refine r_hidden (k := 2) hG5 hC5 hV5 (by omega) (by omega) (fun m5 r hm5 he hres => ?_) (fun m5 hm5 he => ?_)
    · repeat refine hP _ _ _ _ ?_
      exact And.intro (bI_nar _) (hT m5 r (hs.tr hm5) (by exact he) hres)
    · repeat refine hP _ _ _ _ ?_
      exact And.intro (bI_nar _) (hF m5 (hs.tr hm5) (by exact he))
  | 10, _ =>
    refine b_sw 10 _ (by rw [nI_toInt (by omega)]; rfl) rfl (by decide) ?_
    repeat refine hP _ _ _ _ ?_
    refine r_hidden (k := 3) hG5 hC5 hV5 (by omega) (by omega) (fun m5 r hm5 he hres => ?_) (fun m5 hm5 he => ?_)
    · repeat refine hP _ _ _ _ ?_
      exact And.intro (bI_nar _) (hT m5 r (hs.tr hm5) (by exact he) hres)
    · repeat refine hP _ _ _ _ ?_
      exact And.intro (bI_nar _) (hF m5 (hs.tr hm5) (by exact he))
  | 11, _ =>
    refine b_sw 11 _ (by rw [nI_toInt (by omega)]; rfl) rfl (by decide) ?_
    repeat refine hP _ _ _ _ ?_
    refine r_fish (k := 2) (fr := 0) hG5 hC5 (by omega) (by omega) (by omega) (fun m5 r hm5 he hres => ?_) (fun m5 hm5 he => ?_)
    · repeat refine hP _ _ _ _ ?_
      exact And.intro (bI_nar _) (hT m5 r (hs.tr hm5) (by exact he) hres)
    · repeat refine hP _ _ _ _ ?_
      exact And.intro (bI_nar _) (hF m5 (hs.tr hm5) (by exact he))
  | 12, _ =>
    refine b_sw 12 _ (by rw [nI_toInt (by omega)]; rfl) rfl (by decide) ?_
    repeat refine hP _ _ _ _ ?_
    refine x_rX (r_fish (f := f) (tl := tl) (bb := (0, 0)) (ms := noneM ms) (k := 2) (fr := n) hG5 hC5 (by omega) (by omega) (by omega) (fun m5 r hm5 he hres => ?_) (fun m5 hm5 he => ?_)) (by show [Value.ref 26, .int (nI 2), .int (nI n)] = [.ref 26, .int (Int32.ofInt 2), .int ((noneM ms).1 1)]; rw [hG5.1, oi2]) rfl
    · repeat refine hP _ _ _ _ ?_
      exact And.intro (bI_nar _) (hT m5 r (hs.tr hm5) (by exact he) hres)
    · repeat refine hP _ _ _ _ ?_
      exact And.intro (bI_nar _) (hF m5 (hs.tr hm5) (by exact he))
  | 13, _ =>
    refine b_sw 13 _ (by rw [nI_toInt (by omega)]; rfl) rfl (by decide) ?_
    repeat refine hP _ _ _ _ ?_
    refine r_fish (k := 3) (fr := 0) hG5 hC5 (by omega) (by omega) (by omega) (fun m5 r hm5 he hres => ?_) (fun m5 hm5 he => ?_)
    · repeat refine hP _ _ _ _ ?_
      exact And.intro (bI_nar _) (hT m5 r (hs.tr hm5) (by exact he) hres)
    · repeat refine hP _ _ _ _ ?_
      exact And.intro (bI_nar _) (hF m5 (hs.tr hm5) (by exact he))
  | 14, _ =>
    refine b_sw 14 _ (by rw [nI_toInt (by omega)]; rfl) rfl (by decide) ?_
    repeat refine hP _ _ _ _ ?_
    refine x_rX (r_fish (f := f) (tl := tl) (bb := (0, 0)) (ms := noneM ms) (k := 3) (fr := n) hG5 hC5 (by omega) (by omega) (by omega) (fun m5 r hm5 he hres => ?_) (fun m5 hm5 he => ?_)) (by show [Value.ref 26, .int (nI 3), .int (nI n)] = [.ref 26, .int (Int32.ofInt 3), .int ((noneM ms).1 1)]; rw [hG5.1, oi3]) rfl
    · repeat refine hP _ _ _ _ ?_
      exact And.intro (bI_nar _) (hT m5 r (hs.tr hm5) (by exact he) hres)
    · repeat refine hP _ _ _ _ ?_
      exact And.intro (bI_nar _) (hF m5 (hs.tr hm5) (by exact he))
  | 15, _ =>
    refine b_sw 15 _ (by rw [nI_toInt (by omega)]; rfl) rfl (by decide) ?_
    repeat refine hP _ _ _ _ ?_
    refine r_wing (gr := false) hG5 hC5 (fun m5 r hm5 he hres => ?_) (fun m5 hm5 he => ?_)
    · repeat refine hP _ _ _ _ ?_
      exact And.intro (bI_nar _) (hT m5 r (hs.tr hm5) (by exact he) hres)
    · repeat refine hP _ _ _ _ ?_
      exact And.intro (bI_nar _) (hF m5 (hs.tr hm5) (by exact he))
  | 16, _ =>
    refine b_sw 16 _ (by rw [nI_toInt (by omega)]; rfl) rfl (by decide) ?_
    repeat refine hP _ _ _ _ ?_
    refine r_wing (gr := true) hG5 hC5 (fun m5 r hm5 he hres => ?_) (fun m5 hm5 he => ?_)
    · repeat refine hP _ _ _ _ ?_
      exact And.intro (bI_nar _) (hT m5 r (hs.tr hm5) (by exact he) hres)
    · repeat refine hP _ _ _ _ ?_
      exact And.intro (bI_nar _) (hF m5 (hs.tr hm5) (by exact he))
  | 17, _ =>
    refine b_sw 17 _ (by rw [nI_toInt (by omega)]; rfl) rfl (by decide) ?_
    repeat refine hP _ _ _ _ ?_
    refine r_colours hG5 hC5 (fun m5 r hm5 he hres => ?_) (fun m5 hm5 he => ?_)
    · repeat refine hP _ _ _ _ ?_
      exact And.intro (bI_nar _) (hT m5 r (hs.tr hm5) (by exact he) hres)
    · repeat refine hP _ _ _ _ ?_
      exact And.intro (bI_nar _) (hF m5 (hs.tr hm5) (by exact he))
  | 18, _ =>
    refine b_swd (by rw [nI_toInt (by omega)]; decide) rfl ?_
    repeat refine hP _ _ _ _ ?_
    refine r_rectangle hG5 hC5 hV5 (fun m5 r hm5 he hres => ?_) (fun he => ?_)
    · repeat refine hP _ _ _ _ ?_
      exact And.intro (bI_nar _) (hT m5 r (hs.tr hm5) (by exact he) hres)
    · repeat refine hP _ _ _ _ ?_
      exact And.intro (bI_nar _) (hF (noneM ms) hs (by exact he))
  | k9 + 19, hk9 => exact absurd hk9 (by omega)
theorem r_search (hG : gM ms n w h) (hC : cM ms n cb) (hV : vM ms n vb) {off : Nat → Bool} (hO : fM ms off) (hB : brk cb n w h → Q (.inl (some (.int (-2)))) (w_M f (sF ms 8 (-1)) tl bb)) (hT : ∀ m3 k r, ¬ brk cb n w h → scr (sF ms 8 (-1)) m3 → k < 19 → seaS off cb vb n w h = some (k, r) → resM m3 n r → Q (.inl (some (.int (nI k)))) (w_M f (sF m3 8 (nI k)) tl bb)) (hF : ∀ m3, ¬ brk cb n w h → scr (sF ms 8 (-1)) m3 → seaS off cb vb n w h = none → Q (.inl (some (.int (-1)))) (w_M f m3 tl bb)) : x_run sc x_MM x_EX (d + 7) k_X8_search [.ref 26] (w_M f ms tl bb) Q := by
  have hG5 : gM (sF ms 8 (-1)) n w h := hG
  have hC5 : cM (sF ms 8 (-1)) n cb := hC
  have hV5 : vM (sF ms 8 (-1)) n vb := hV
  refine x_in (M := m_X8_search) rfl rfl (Nat.le_of_ble_eq_true rfl) ⟨rfl, trivial⟩ ?_
  intro P hP
  repeat refine hP _ _ _ _ ?_
  refine r_isBroken (ms := sF ms 8 (-1)) hG5 hC5 (fun hb => ?_) (fun hb => ?_)
  · repeat refine hP _ _ _ _ ?_
    refine And.intro (fun h9 => absurd (show bI true = 0 from h9) (by decide)) (fun _ => ?_)
    repeat refine hP _ _ _ _ ?_
    exact hB hb
  · repeat refine hP _ _ _ _ ?_
    refine And.intro (fun _ => ?_) (fun h9 => absurd (show bI false = 0 by decide) h9)
    have loop : ∀ k, k ≤ 19 → ∀ m2, scr (sF ms 8 (-1)) m2 → seaS off cb vb n w h = ff (seaE off cb vb n w h) (19 - k) k → P 17 [some (.ref 26), some (.int (nI k))] [] (w_M f m2 tl bb) := by
      refine x_lp 19 (fun k hk ih m2 hm hf => ?_)
      have h8 : m2.1 8 = -1 := hm.1 8 (by decide) (by decide) (by decide)
      repeat refine hP _ _ _ _ ?_
      refine b_ge (k) (19) (fun hk9 => ?_) (fun hk9 => ?_) (rfl) (ob19) (by omega) (by omega)
      · repeat refine hP _ _ _ _ ?_
        exact x_q1 (hF m2 hb hm (hf.trans (ff_e hk9))) h8.symm
      · have ih := ih hk9
        have inn : vp_in (nI k) 19 := vp_in_nI (by omega) (by omega)
        have hoff : m2.2 29 k = bI (off k) := by rw [hm.2 29 (by decide) (by decide) (by decide) (by decide) (by decide) (by decide) (by decide)]; exact hO k hk9
        repeat refine hP _ _ _ _ ?_
        refine And.intro (fun h9 => absurd (show 0 ≤ m2.1 8 from h9) (by rw [h8]; decide)) (fun _ => ?_)
        repeat refine hP _ _ _ _ ?_
        refine And.intro inn ?_
        rw [ldv hoff (by omega)]
        repeat refine hP _ _ _ _ ?_
        refine b_ifne (fun h1 => ?_) (fun h1 => ?_) (rfl)
        · iterate 2 refine hP _ _ _ _ ?_
          refine x_p4 (P := P) (ih m2 hm (hf.trans (ff_n' hk9 (by unfold seaE; rw [h1]; rfl)))) ?_ rfl ?_ <;> try (first | rfl | (rw [nI_succ]; rfl))
        · repeat refine hP _ _ _ _ ?_
          refine r_look (hm.g hG5) (hm.c hC5) (hm.v hV5) hk9 (fun m5 r hm5 he hres => ?_) (fun m5 hm5 he => ?_)
          · repeat refine hP _ _ _ _ ?_
            refine And.intro (fun h9 => absurd (show bI true = 0 from h9) (by decide)) (fun _ => ?_)
            have hst : seaS off cb vb n w h = some (k, r) := hf.trans (ff_s' hk9 (by unfold seaE; rw [h1, he]; rfl))
            have end9 : ∀ x1 : Int32, P 17 [some (.ref 26), some (.int x1)] [] (w_M f (sF m5 8 (nI k)) tl bb) := by
              intro x1
              have fin : P 58 [some (.ref 26), some (.int x1)] [] (w_M f (sF m5 8 (nI k)) tl bb) := by
                repeat refine hP _ _ _ _ ?_
                exact hT m5 k r hb (hm.tr hm5) hk9 hst hres
              repeat refine hP _ _ _ _ ?_
              refine And.intro (fun _ => fin) (fun _ => ?_)
              repeat refine hP _ _ _ _ ?_
              refine And.intro (fun _ => fin) (fun h9 => absurd (show (0 : Int32) ≤ nI k from nI_pos' (by omega)) h9)
            iterate 5 refine hP _ _ _ _ ?_
            refine x_p4 (P := P) (end9 (nI k + Int32.ofInt 1)) ?_ rfl ?_ <;> try (first | rfl | (rw [nI_succ]; rfl))
          · repeat refine hP _ _ _ _ ?_
            refine And.intro (fun _ => ?_) (fun h9 => absurd (show bI false = 0 by decide) h9)
            iterate 2 refine hP _ _ _ _ ?_
            refine x_p4 (P := P) (ih m5 (hm.tr hm5) (hf.trans (ff_n' hk9 (by unfold seaE; rw [h1, he]; rfl)))) ?_ rfl ?_ <;> try (first | rfl | (rw [nI_succ]; rfl))
    iterate 2 refine hP _ _ _ _ ?_
    refine x_p4 (P := P) (loop 0 (by omega) (sF ms 8 (-1)) (scr.rf _) rfl) ?_ rfl ?_ <;> try (first | rfl | (rw [nI_succ]; rfl))
end LK
