/-! ===== the steps grow with what must hold behind them ===== -/
theorem x_if.mono {c : Prop} {hd : Decidable c} {K K' : Prop} (h : x_if c K) (hk : K → K') : x_if c K' := by
  unfold x_if at *; split at h
  · rename_i hc; rw [if_pos hc]; exact hk h
  · exact h.elim
theorem x_bok.mono {bc bs : Nat} {L : x_L} {st : List Value} {X : x_H} {K K' : Prop} (h : x_bok bc bs L st X K) (hk : K → K') : x_bok bc bs L st X K' := by
  refine x_if.mono h fun h => ?_
  cases bc with
  | zero => exact x_if.mono h hk
  | succ b => exact ⟨h.1, hk h.2⟩
theorem x_rcv.mono {v : Option Value} {X : x_H} {ci : Nat} {K K' : Prop} (h : x_rcv v X ci K) (hk : K → K') : x_rcv v X ci K' := by
  unfold x_rcv at *; split at h
  · unfold x_ob at *; split at h
    · exact x_if.mono h hk
    · exact h.elim
  · exact h.elim
theorem x_isr.mono {v : Option Value} {K K' : Prop} (h : x_isr v K) (hk : K → K') : x_isr v K' := by
  unfold x_isr at *; split at h
  · exact hk h
  · exact h.elim
theorem x_ret.mono {rt : Option FieldType} {x : Int32} {K K' : Prop} (h : x_ret rt x K) (hk : K → K') : x_ret rt x K' := by
  unfold x_ret at *; split at h
  · exact hk h
  · exact ⟨h.1, hk h.2⟩
  · exact h.elim
theorem x_ldi.mono {L : x_L} {k : Nat} {K K' : Int32 → Prop} (h : x_ldi L k K) (hk : ∀ x, K x → K' x) : x_ldi L k K' := by
  unfold x_ldi at *; split at h
  · exact hk _ h
  · exact h.elim
theorem x_lda.mono {L : x_L} {k : Nat} {K K' : Nat → Prop} (h : x_lda L k K) (hk : ∀ x, K x → K' x) : x_lda L k K' := by
  unfold x_lda at *; split at h
  · exact hk _ h
  · exact h.elim
theorem x_ai.mono {X : x_H} {a : Nat} {K K' : FieldType → Nat → (Nat → Int32) → Prop} (h : x_ai X a K) (hk : ∀ x y z, K x y z → K' x y z) : x_ai X a K' := by
  unfold x_ai at *; split at h
  · exact hk _ _ _ h
  · exact h.elim
theorem x_al.mono {X : x_H} {a : Nat} {K K' : Nat → (Nat → Int64) → Prop} (h : x_al X a K) (hk : ∀ y z, K y z → K' y z) : x_al X a K' := by
  unfold x_al at *; split at h
  · exact hk _ _ h
  · exact h.elim
theorem x_ob.mono {X : x_H} {a : Nat} {K K' : Nat → List Value → Prop} (h : x_ob X a K) (hk : ∀ y z, K y z → K' y z) : x_ob X a K' := by
  unfold x_ob at *; split at h
  · exact hk _ _ h
  · exact h.elim
theorem x_s1.mono {st : List Value} {K K' : Int32 → List Value → Prop} (h : x_s1 st K) (hk : ∀ x r, K x r → K' x r) : x_s1 st K' := by
  unfold x_s1 at *; split at h
  · exact hk _ _ h
  · exact h.elim
theorem x_s2.mono {st : List Value} {K K' : Int32 → Int32 → List Value → Prop} (h : x_s2 st K) (hk : ∀ x y r, K x y r → K' x y r) : x_s2 st K' := by
  unfold x_s2 at *; split at h
  · exact hk _ _ _ h
  · exact h.elim
theorem x_sr.mono {st : List Value} {K K' : Nat → List Value → Prop} (h : x_sr st K) (hk : ∀ x r, K x r → K' x r) : x_sr st K' := by
  unfold x_sr at *; split at h
  · exact hk _ _ h
  · exact h.elim
theorem x_sir.mono {st : List Value} {K K' : Nat → Int32 → List Value → Prop} (h : x_sir st K) (hk : ∀ x y r, K x y r → K' x y r) : x_sir st K' := by
  unfold x_sir at *; split at h
  · exact hk _ _ _ h
  · exact h.elim
theorem x_siir.mono {st : List Value} {K K' : Nat → Int32 → Int32 → List Value → Prop} (h : x_siir st K) (hk : ∀ x y z r, K x y z r → K' x y z r) : x_siir st K' := by
  unfold x_siir at *; split at h
  · exact hk _ _ _ _ h
  · exact h.elim
theorem x_slir.mono {st : List Value} {K K' : Nat → Int32 → Int64 → List Value → Prop} (h : x_slir st K) (hk : ∀ x y z r, K x y z r → K' x y z r) : x_slir st K' := by
  unfold x_slir at *; split at h
  · exact hk _ _ _ _ h
  · exact h.elim
theorem x_sl1.mono {st : List Value} {K K' : Int64 → List Value → Prop} (h : x_sl1 st K) (hk : ∀ x r, K x r → K' x r) : x_sl1 st K' := by
  unfold x_sl1 at *; split at h
  · exact hk _ _ h
  · exact h.elim
theorem x_sl2.mono {st : List Value} {K K' : Int64 → Int64 → List Value → Prop} (h : x_sl2 st K) (hk : ∀ x y r, K x y r → K' x y r) : x_sl2 st K' := by
  unfold x_sl2 at *; split at h
  · exact hk _ _ _ h
  · exact h.elim
theorem x_sil.mono {st : List Value} {K K' : Int64 → Int32 → List Value → Prop} (h : x_sil st K) (hk : ∀ x y r, K x y r → K' x y r) : x_sil st K' := by
  unfold x_sil at *; split at h
  · exact hk _ _ _ h
  · exact h.elim
theorem x_svr.mono {st : List Value} {K K' : Nat → Value → List Value → Prop} (h : x_svr st K) (hk : ∀ x y r, K x y r → K' x y r) : x_svr st K' := by
  unfold x_svr at *; split at h
  · exact hk _ _ _ h
  · exact h.elim
def x_Cm (C : Nat → List Value → x_H → (x_O → x_H → Prop) → Prop) : Prop := ∀ mj av X Q Q', (∀ o Y, Q o Y → Q' o Y) → C mj av X Q → C mj av X Q'
theorem x_go.mono {sc : Nat × (Nat → Int32)} {M : x_M} {C : Nat → List Value → x_H → (x_O → x_H → Prop) → Prop} (hC : x_Cm C) {Q Q' : x_O → x_H → Prop} {K K' : Nat → x_L → List Value → x_H → Prop} {i : Instr} {tg pc : Nat} {L : x_L} {st : List Value} {X : x_H}
    (hQ : ∀ o Y, Q o Y → Q' o Y) (hK : ∀ pc L st X, K pc L st X → K' pc L st X) (h : x_go sc M C Q K i tg pc L st X) : x_go sc M C Q' K' i tg pc L st X := by
  cases i
  case dup =>
    simp only [x_go] at h ⊢
    split at h
    · exact x_if.mono h fun h => hK _ _ _ _ h
    · exact h.elim
  case arraylength =>
    refine x_sr.mono h fun a r h => ?_
    split at h
    · rename_i ha; rw [if_pos ha]; exact hK _ _ _ _ h
    · rename_i ha; rw [if_neg ha]; exact x_ai.mono h fun _ _ _ h => x_if.mono h fun h => hK _ _ _ _ h
  case iaload =>
    refine x_sir.mono h fun a j r h => ?_
    split at h
    · rename_i ha; rw [if_pos ha]; exact ⟨h.1, hK _ _ _ _ h.2⟩
    · rename_i ha; rw [if_neg ha]; exact x_ai.mono h fun _ _ _ h => x_if.mono h fun h => ⟨h.1, hK _ _ _ _ h.2⟩
  case getfield ix =>
    simp only [x_go] at h ⊢
    split at h
    · refine x_sr.mono h fun _ _ h => x_ob.mono h fun _ _ h => x_if.mono h fun h => ?_
      split at h
      · exact hK _ _ _ _ h
      · exact h.elim
    · exact h.elim
  case putfield ix =>
    simp only [x_go] at h ⊢
    split at h
    · exact x_svr.mono h fun _ _ _ h => x_ob.mono h fun _ _ h => x_if.mono h fun h => hK _ _ _ _ h
    · exact h.elim
  case invokevirtual ix =>
    simp only [x_go] at h ⊢
    split at h
    · refine x_rcv.mono h fun h => x_bok.mono h fun h => hC _ _ _ _ _ (fun o Y h => ?_) h
      cases o with
      | inl v => exact hK _ _ _ _ h
      | inr E =>
        dsimp only at h ⊢
        split at h
        · exact hQ _ _ h
        · exact x_if.mono h fun h => hK _ _ _ _ h
        · exact h
    · exact h.elim
  case invokestatic ix =>
    simp only [x_go] at h ⊢
    split at h
    · exact x_s2.mono h fun _ _ _ h => x_if.mono h fun h => hK _ _ _ _ h
    · refine x_if.mono h fun h => x_bok.mono h fun h => hC _ _ _ _ _ (fun o Y h => ?_) h
      cases o with
      | inl v => exact hK _ _ _ _ h
      | inr E => exact h
    · exact h.elim
  case invokespecial ix =>
    simp only [x_go] at h ⊢
    split at h
    · exact x_sr.mono h fun _ _ h => x_if.mono h fun h => hK _ _ _ _ h
    · refine x_isr.mono h fun h => x_bok.mono h fun h => hC _ _ _ _ _ (fun o Y h => ?_) h
      split at h
      · exact hK _ _ _ _ h
      · exact h.elim
    · exact h.elim
  case new ix =>
    simp only [x_go] at h ⊢
    split at h
    · exact ⟨h.1, hK _ _ _ _ h.2⟩
    · split at h
      · exact x_if.mono h fun h => ⟨h.1, hQ _ _ h.2⟩
      · exact h
  case newarray a9 =>
    refine x_s1.mono h fun n r h => ⟨h.1, ?_⟩
    have h2 := h.2
    cases a9 <;> first | exact hK _ _ _ _ h2 | exact h2
  case tableswitch d lo hi offs => exact x_s1.mono h fun x r h => ⟨fun j o h1 h2 => hK _ _ _ _ (h.1 j o h1 h2), fun h1 => hK _ _ _ _ (h.2 h1)⟩
  case ireturn => exact x_s1.mono h fun _ _ h => x_if.mono h fun h => x_ret.mono h fun h => hQ _ _ h
  case lreturn => exact x_sl1.mono h fun _ _ h => x_if.mono h fun h => hQ _ _ h
  case return_ => exact x_if.mono h fun h => hQ _ _ h
  all_goals first
    | exact h.elim
    | exact hK _ _ _ _ h
    | exact x_ldi.mono h fun _ h => hK _ _ _ _ h
    | exact x_lda.mono h fun _ h => hK _ _ _ _ h
    | exact x_if.mono h fun h => x_s1.mono h fun _ _ h => hK _ _ _ _ h
    | exact x_if.mono h fun h => x_sr.mono h fun _ _ h => hK _ _ _ _ h
    | exact x_if.mono h fun h => x_ldi.mono h fun _ h => hK _ _ _ _ h
    | exact x_s2.mono h fun _ _ _ h => hK _ _ _ _ h
    | exact x_s2.mono h fun _ _ _ h => ⟨h.1, hK _ _ _ _ h.2⟩
    | exact x_s1.mono h fun _ _ h => hK _ _ _ _ h
    | exact x_sir.mono h fun _ _ _ h => hK _ _ _ _ h
    | exact x_sl1.mono h fun _ _ h => hK _ _ _ _ h
    | exact x_sil.mono h fun _ _ _ h => hK _ _ _ _ h
    | exact x_sl2.mono h fun _ _ _ h => hK _ _ _ _ h
    | exact x_s1.mono h fun _ _ h => ⟨fun c => hK _ _ _ _ (h.1 c), fun c => hK _ _ _ _ (h.2 c)⟩
    | exact x_s2.mono h fun _ _ _ h => ⟨fun c => hK _ _ _ _ (h.1 c), fun c => hK _ _ _ _ (h.2 c)⟩
    | exact x_sir.mono h fun _ _ _ h => x_ai.mono h fun _ _ _ h => x_if.mono h fun h => ⟨h.1, hK _ _ _ _ h.2⟩
    | exact x_sir.mono h fun _ _ _ h => x_al.mono h fun _ _ h => ⟨h.1, hK _ _ _ _ h.2⟩
    | exact x_siir.mono h fun _ _ _ _ h => x_ai.mono h fun _ _ _ h => x_if.mono h fun h => ⟨h.1, hK _ _ _ _ h.2⟩
    | exact x_slir.mono h fun _ _ _ _ h => x_al.mono h fun _ _ h => ⟨h.1, hK _ _ _ _ h.2⟩
    | (simp only [x_go] at h ⊢
       split at h
       · exact hK _ _ _ _ h
       · exact h.elim)
theorem x_st.mono {sc : Nat × (Nat → Int32)} {M : x_M} {C : Nat → List Value → x_H → (x_O → x_H → Prop) → Prop} (hC : x_Cm C) {Q Q' : x_O → x_H → Prop} {K K' : Nat → x_L → List Value → x_H → Prop} {pc : Nat} {L : x_L} {st : List Value} {X : x_H}
    (hQ : ∀ o Y, Q o Y → Q' o Y) (hK : ∀ pc L st X, K pc L st X → K' pc L st X) (h : x_st sc M C Q K pc L st X) : x_st sc M C Q' K' pc L st X := by
  unfold x_st at *
  split at h
  · exact x_go.mono hC hQ hK h
  · exact h.elim
/-- a step -/
theorem x_W.s {sc : Nat × (Nat → Int32)} {M : x_M} {C : Nat → List Value → x_H → (x_O → x_H → Prop) → Prop} (hC : x_Cm C) {Q : x_O → x_H → Prop} {pc : Nat} {L : x_L} {st : List Value} {X : x_H} (h : x_st sc M C Q (x_W sc M C Q) pc L st X) : x_W sc M C Q pc L st X :=
  fun P hP => hP pc L st X (x_st.mono hC (fun _ _ h => h) (fun _ _ _ _ h => h P hP) h)
theorem x_W.mono {sc : Nat × (Nat → Int32)} {M : x_M} {C : Nat → List Value → x_H → (x_O → x_H → Prop) → Prop} (hC : x_Cm C) {Q Q' : x_O → x_H → Prop} (hQ : ∀ o Y, Q o Y → Q' o Y) {pc : Nat} {L : x_L} {st : List Value} {X : x_H} (h : x_W sc M C Q pc L st X) : x_W sc M C Q' pc L st X :=
  fun P hP => h P fun pc L st X h => hP pc L st X (x_st.mono hC hQ (fun _ _ _ _ h => h) h)
