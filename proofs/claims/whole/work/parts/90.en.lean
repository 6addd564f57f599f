/-! ===== what the start gives beside the world, and keeps: the script, words of the tables, texts ===== -/
/-- a text: one byte a letter -/
def x_tx (a : Nat) (bs : List Nat) (A : Nat → Prop) (U : State) (H : Heap) : Prop := va_O "java/lang/String" a A U H ∧ va_OF "java/lang/String" "coder" "B" (.int 0) a A U H ∧ ∃ v : Nat, va_OF "java/lang/String" "value" "[B" (.ref v) a A U H ∧ va_T .byte v bs.length (fun j => .int (nI (bs.getD j 0))) A U H
theorem x_tx.moved {a : Nat} {bs : List Nat} {A : Nat → Prop} {u U : State} {H : Heap} (hvm : u.vm.Alike U.vm) (h : x_tx a bs A u H) : x_tx a bs A U H := by
  obtain ⟨h1, h2, v, h3, h4⟩ := h
  exact ⟨va_O.moved hvm h1, va_OF.moved hvm h2, v, va_OF.moved hvm h3, va_T.moved hvm h4⟩
theorem x_tx.kept {a : Nat} {bs : List Nat} {A : Nat → Prop} {U : State} {H H1 : Heap} (h : x_tx a bs A U H) (hq : ∀ a : Nat, a < H.size → ¬ A a → H1[a]? = H[a]?) : x_tx a bs A U H1 := by
  obtain ⟨h1, h2, v, h3, h4⟩ := h
  exact ⟨h1.kept hq, h2.kept hq, v, h3.kept hq, h4.kept hq⟩
theorem x_tx.narrow {a : Nat} {bs : List Nat} {A B : Nat → Prop} {U : State} {H : Heap} (h : x_tx a bs A U H) (hAB : ∀ q, B q → A q) : x_tx a bs B U H := by
  obtain ⟨h1, h2, v, h3, h4⟩ := h
  exact ⟨h1.narrow hAB, h2.narrow hAB, v, h3.narrow hAB, h4.narrow hAB⟩
/-- statics of the JDK that texts ask -/
def x_St (A : Nat → Prop) (U : State) (H : Heap) : Prop := va_Z RJ0 "COMPACT_STRINGS" "Z" (.int 1) A U H ∧ va_Zq RJ3 "SIOOBE_FORMATTER" "Ljava/util/function/BiFunction;" A U H
/-- the steps' names -/
def x_Nm (A : Nat → Prop) (U : State) (H : Heap) : Prop := ∃ (t : Nat) (aN : Nat → Nat), va_Z RX7 "NAMES" "[LHumanSteps$Name;" (.ref t) A U H ∧ va_T (.object "HumanSteps$Name") t 19 (fun j => .ref (aN j)) A U H ∧ ∀ g i : Nat, g < 2 → i < 19 → ∃ a : Nat, va_OF "HumanSteps$Name" (if g = 0 then "english" else "german") "Ljava/lang/String;" (.ref a) (aN i) A U H ∧ x_tx a ((x_nm g).getD i []) A U H
def x_Th (A : Nat → Prop) (U : State) (H : Heap) : Prop := vx_Zq Bundle.tN "UNASSIGNED_STACK" Bundle.steD A U H ∧ vx_Zq Bundle.tN "SUPPRESSED_SENTINEL" Bundle.listD A U H
def x_Rf (U : State) : Prop := (∃ a, vk_R RX7 197 "no such cell" a U) ∧ (∃ a, vk_R RX7 204 "no such symbol" a U) ∧ ∃ a, vk_R RX7 207 "no such step" a U
def x_En (sc : Nat × (Nat → Int32)) (b0 : Nat) (A : Nat → Prop) (U : State) (H : Heap) : Prop := (va_X b0 sc.1 sc.2 U H ∧ b0 < H.size ∧ ¬ A b0) ∧ (∀ w ∈ x_NwL, va_Nw w U) ∧ va_Nc "java/lang/IllegalArgumentException" "java/lang/ArrayIndexOutOfBoundsException" U ∧ x_Rf U ∧ x_Th A U H ∧ x_St A U H ∧ x_Nm A U H
theorem x_En_go {sc : Nat × (Nat → Int32)} {b0 : Nat} {A : Nat → Prop} {u U : State} {H : Heap} (hvm : u.vm.Alike U.vm) (hn : (∀ w ∈ x_NwL, va_Nw w u) → ∀ w ∈ x_NwL, va_Nw w U) (hr : ∀ k tx a, vk_R RX7 k tx a u → vk_R RX7 k tx a U) (h : x_En sc b0 A u H) : x_En sc b0 A U H := by
  obtain ⟨⟨h1, h2, h3⟩, h4, h5, ⟨⟨a1, r1⟩, ⟨a2, r2⟩, a3, r3⟩, ⟨t1, t2⟩, ⟨s1, s2⟩, t, aN, n1, n2, n3⟩ := h
  refine ⟨⟨va_X.moved hvm h1, h2, h3⟩, hn h4, va_Nc.moved hvm h5, ⟨⟨a1, hr _ _ _ r1⟩, ⟨a2, hr _ _ _ r2⟩, a3, hr _ _ _ r3⟩, ⟨vx_Zq.moved hvm t1, vx_Zq.moved hvm t2⟩, ⟨va_Z.moved hvm s1, va_Zq.moved hvm s2⟩, t, aN, va_Z.moved hvm n1, va_T.moved hvm n2, fun g i hg hi => ?_⟩
  obtain ⟨a, q1, q2⟩ := n3 g i hg hi
  exact ⟨a, va_OF.moved hvm q1, x_tx.moved hvm q2⟩
theorem x_En_ok (sc : Nat × (Nat → Int32)) (b0 : Nat) : x_EnOK (x_En sc b0) := by
  refine ⟨?_, ?_, ?_, ?_⟩
  · intro A u U H hv h
    exact x_En_go (by rw [hv]; exact Vm.Alike.refl _) (fun q w hw => va_Nw.same (x_NwL_on w hw) hv (q w hw)) (fun k tx a q => vk_R.same hv.symm q) h
  · intro A s U H hW h
    exact x_En_go hW.alike (fun q w hw => x_NwL_warm hW w hw (q w hw)) (fun k tx a q => vk_R.warm hW q) h
  · intro A U H H' hs hq h
    obtain ⟨⟨h1, h2, h3⟩, h4, h5, h6, ⟨t1, t2⟩, ⟨s1, s2⟩, t, aN, n1, n2, n3⟩ := h
    refine ⟨⟨va_X.kept h1 (hq b0 h2 h3), Nat.lt_of_lt_of_le h2 hs, h3⟩, h4, h5, h6, ⟨t1.kept hq, t2.kept hq⟩, ⟨s1.kept hq, s2.kept hq⟩, t, aN, n1.kept hq, n2.kept hq, fun g i hg hi => ?_⟩
    obtain ⟨a, q1, q2⟩ := n3 g i hg hi
    exact ⟨a, q1.kept hq, q2.kept hq⟩
  · intro A B U H hAB h
    obtain ⟨⟨h1, h2, h3⟩, h4, h5, h6, ⟨t1, t2⟩, ⟨s1, s2⟩, t, aN, n1, n2, n3⟩ := h
    refine ⟨⟨h1, h2, fun z => h3 (hAB _ z)⟩, h4, h5, h6, ⟨t1.narrow hAB, t2.narrow hAB⟩, ⟨s1.narrow hAB, s2.narrow hAB⟩, t, aN, n1.narrow hAB, n2.narrow hAB, fun g i hg hi => ?_⟩
    obtain ⟨a, q1, q2⟩ := n3 g i hg hi
    exact ⟨a, q1.narrow hAB, q2.narrow hAB⟩
theorem x_En_nw (sc : Nat × (Nat → Int32)) (b0 : Nat) : x_NW (x_En sc b0) := ⟨fun _ _ _ h => h.2.1 _ (List.mem_of_getElem? (i := 0) rfl), fun _ _ _ h => h.2.1 _ (List.mem_of_getElem? (i := 1) rfl), fun _ _ _ h => h.2.1 _ (List.mem_of_getElem? (i := 2) rfl)⟩
/-! ===== .. out of the Statement ===== -/
def x_tN : Term := .static "HumanSteps" "NAMES" "[LHumanSteps$Name;"
def x_nmN : List String := ["LAST", "IN_BOX", "IN_ROW", "IN_COLUMN", "POINTING", "CLAIMING", "PAIR", "TRIPLE", "QUAD", "HIDDEN_PAIR", "HIDDEN_TRIPLE", "TWO_ROWS", "TWO_COLUMNS", "THREE_ROWS", "THREE_COLUMNS", "WING", "GREAT_WING", "COLOURS", "ONLY_ONE_ANSWER"]
def x_kE : List Nat := [88, 96, 101, 106, 111, 116, 121, 126, 131, 136, 141, 146, 151, 156, 161, 166, 171, 176, 181]
def x_kG : List Nat := [90, 98, 103, 108, 113, 118, 123, 128, 133, 138, 143, 148, 153, 158, 163, 168, 173, 178, 183]
def x_tE (i : Nat) : Term := .static "HumanSteps$Name" (x_nmN.getD i "") "LHumanSteps$Name;"
def x_tS (g i : Nat) : Term := .string "HumanSteps$Name" ((if g = 0 then x_kE else x_kG).getD i 0)
def x_tV (t : Term) : Term := .field t "java/lang/String" "value" "[B"
def x_elS (t : Term) : Nat → List Nat → List Cond
  | _, [] => []
  | j, b :: r => .eq (.elem (x_tV t) (.int (Int32.ofNat j))) (.int (nI b)) :: x_elS t (j + 1) r
def x_nS (t : Term) (bs : List Nat) : List Cond := .exactly t "java/lang/String" :: .eq (.field t "java/lang/String" "coder" "B") (.int 0) :: .arrayOf (x_tV t) .byte :: .eq (.length (x_tV t)) (.int (Int32.ofNat bs.length)) :: x_elS t 0 bs
def x_n1 : List Cond := [.arrayOf x_tN (.object "HumanSteps$Name"), .eq (.length x_tN) (.int (Int32.ofNat 19))]
def x_n2 : List Cond := (List.range 19).map fun i => .eq (.elem x_tN (.int (Int32.ofNat i))) (x_tE i)
def x_n3 : List Cond := [.eq (.static "java/lang/String" "COMPACT_STRINGS" "Z") (.int 1), .isRef (.static "jdk/internal/util/Preconditions" "SIOOBE_FORMATTER" "Ljava/util/function/BiFunction;"), .isRef (.static "java/lang/Throwable" "UNASSIGNED_STACK" "[Ljava/lang/StackTraceElement;"), .isRef (.static "java/lang/Throwable" "SUPPRESSED_SENTINEL" "Ljava/util/List;")]
def x_n4 : List Cond := (List.range 19).flatMap fun i => [.exactly (x_tE i) "HumanSteps$Name", .eq (.field (x_tE i) "HumanSteps$Name" "english" "Ljava/lang/String;") (x_tS 0 i), .eq (.field (x_tE i) "HumanSteps$Name" "german" "Ljava/lang/String;") (x_tS 1 i)]
def x_n5 : List Cond := [.not (.castable "java/lang/IllegalArgumentException" "java/lang/ArrayIndexOutOfBoundsException"), .exactly (.string "HumanSteps" 197) "java/lang/String", .exactly (.string "HumanSteps" 204) "java/lang/String", .exactly (.string "HumanSteps" 207) "java/lang/String"]
def x_n6 : List Cond := (List.range 19).flatMap fun i => x_nS (x_tS 0 i) ((x_nm 0).getD i []) ++ x_nS (x_tS 1 i) ((x_nm 1).getD i [])
def x_need : List Cond := x_n1 ++ (x_n2 ++ (x_n3 ++ (x_n4 ++ (x_n5 ++ x_n6))))
def x_pick : List Nat → List Cond → List Cond
  | [], _ => []
  | g :: gs, l => match l.drop g with
    | [] => []
    | x :: r => x :: x_pick gs r
theorem x_pick_mem : ∀ (gs : List Nat) (l : List Cond) (w : Cond), w ∈ x_pick gs l → w ∈ l
  | [], l, w, h => by simp [x_pick] at h
  | g :: gs, l, w, h => by
    unfold x_pick at h
    split at h
    · cases h
    · rename_i x r he
      have hm : ∀ z ∈ x :: r, z ∈ l := fun z hz => List.mem_of_mem_drop (by rw [he]; exact hz)
      rcases List.mem_cons.mp h with rfl | h
      · exact hm _ List.mem_cons_self
      · exact hm _ (List.mem_cons_of_mem _ (x_pick_mem gs r w h))
def x_gaps : List Nat := [6, 0, 1, 0, 0, 0, 0, 0, 0, 0, 0, 0, 0, 0, 0, 0, 0, 0, 0, 0, 0, 0, 0, 3, 0, 0, 1, 0, 0, 1, 0, 1, 1, 0, 2, 1, 0, 3, 1, 0, 4, 1, 0, 5, 1, 0, 6, 1, 0, 7, 1, 0, 8, 1, 0, 9, 1, 0, 10, 1, 0, 11, 1, 0, 12, 1, 0, 13, 1, 0, 14, 1, 0, 15, 1, 0, 16, 1, 0, 17, 1, 0, 26, 11, 15, 17, 15, 0, 0, 0, 0, 0, 0, 0, 0, 0, 0, 0, 0, 0, 0, 0, 0, 0, 0, 0, 0, 0, 0, 0, 0, 0, 0, 0, 0, 0, 0, 0, 0, 0, 0, 0, 0, 0, 0, 0, 0, 0, 0, 0, 0, 0, 0, 0, 0, 0, 0, 0, 0, 0, 0, 0, 0, 0, 0, 0, 0, 0, 0, 0, 0, 0, 0, 0, 0, 0, 0, 0, 0, 0, 0, 0, 0, 0, 0, 0, 0, 0, 0, 0, 0, 0, 0, 0, 0, 0, 0, 0, 0, 0, 0, 0, 0, 0, 0, 0, 0, 0, 0, 0, 0, 0, 0, 0, 0, 0, 0, 0, 0, 0, 0, 0, 0, 0, 0, 0, 0, 0, 0, 0, 0, 0, 0, 0, 0, 0, 0, 0, 0, 0, 0, 0, 0, 0, 0, 0, 0, 0, 0, 0, 0, 0, 0, 0, 0, 0, 0, 0, 0, 0, 0, 0, 0, 0, 0, 0, 0, 0, 0, 0, 0, 0, 0, 0, 0, 0, 0, 0, 0, 0, 0, 0, 0, 0, 0, 0, 0, 0, 0, 0, 0, 0, 0, 0, 0, 0, 0, 0, 0, 0, 0, 0, 0, 0, 0, 0, 0, 0, 0, 0, 0, 0, 0, 0, 0, 0, 0, 0, 0, 0, 0, 0, 0, 0, 0, 0, 0, 0, 0, 0, 0, 0, 0, 0, 0, 0, 0, 0, 0, 0, 0, 0, 0, 0, 0, 0, 0, 0, 0, 0, 0, 0, 0, 0, 0, 0, 0, 0, 0, 0, 0, 0, 0, 0, 0, 0, 0, 0, 0, 0, 0, 0, 0, 0, 0, 0, 0, 0, 0, 0, 0, 0, 0, 0, 0, 0, 0, 0, 0, 0, 0, 0, 0, 0, 0, 0, 0, 0, 0, 0, 0, 0, 0, 0, 0, 0, 0, 0, 0, 0, 0, 0, 0, 0, 0, 0, 0, 0, 0, 0, 0, 0, 0, 0, 0, 0, 0, 0, 0, 0, 0, 0, 0, 0, 0, 0, 0, 0, 0, 0, 0, 0, 0, 0, 0, 0, 0, 0, 0, 0, 0, 0, 0, 0, 0, 0, 0, 0, 0, 0, 0, 0, 0, 0, 0, 0, 0, 0, 0, 0, 0, 0, 0, 0, 0, 0, 0, 0, 0, 0, 0, 0, 0, 0, 0, 0, 0, 0, 0, 0, 0, 0, 0, 0, 0, 0, 0, 0, 0, 0, 0, 0, 0, 0, 0, 0, 0, 0, 0, 0, 0, 0, 0, 0, 0, 0, 0, 0, 0, 0, 0, 0, 0, 0, 0, 0, 0, 0, 0, 0, 0, 0, 0, 0, 0, 0, 0, 0, 0, 0, 0, 0, 0, 0, 0, 0, 0, 0, 0, 0, 0, 0, 0, 0, 0, 0, 0, 0, 0, 0, 0, 0, 0, 0, 0, 0, 0, 0, 0, 0, 0, 0, 0, 0, 0, 0, 0, 0, 0, 0, 0, 0, 0, 0, 0, 0, 0, 0, 0, 0, 0, 0, 0, 0, 0, 0, 0, 0, 0, 0, 0, 0, 0, 0, 0, 0, 0, 0, 0, 0, 0, 0]
set_option maxRecDepth 100000 in
theorem x_need_ok : x_need = x_pick x_gaps (flatC (Jvm.Cond.and given_1 narrow_1)) := by decide +kernel
theorem x_elS_mem (t : Term) : ∀ (bs : List Nat) (k j : Nat), j < bs.length → Cond.eq (.elem (x_tV t) (.int (Int32.ofNat (k + j)))) (.int (nI (bs.getD j 0))) ∈ x_elS t k bs
  | [], _, _, h => by simp at h
  | b :: r, k, 0, _ => by simp [x_elS]
  | b :: r, k, j + 1, h => by
    have h1 := x_elS_mem t r (k + 1) j (by simpa using h)
    rw [show k + 1 + j = k + (j + 1) by omega] at h1
    exact List.mem_cons_of_mem _ (by simpa using h1)
theorem x_txof {args : Array Value} {s : State} {t : Term} {bs : List Nat} {A : Nat → Prop} (h : ∀ w ∈ x_nS t bs, w.before args s = true) (hl : bs.length < 2 ^ 31) (hA : ∀ a : Nat, a < s.heap.size → ¬ A a) : ∃ a : Nat, t.eval args s none [] s = some (.ref a) ∧ x_tx a bs A s s.heap := by
  have hex : (Cond.exactly t "java/lang/String").before args s = true := h _ (by simp [x_nS])
  have hco : (Cond.eq (.field t "java/lang/String" "coder" "B") (.int 0)).before args s = true := h _ (by simp [x_nS])
  have har : (Cond.arrayOf (x_tV t) .byte).before args s = true := h _ (by simp [x_nS])
  have hle : (Cond.eq (.length (x_tV t)) (.int (Int32.ofNat bs.length))).before args s = true := h _ (by simp [x_nS])
  have hel : ∀ w ∈ x_elS t 0 bs, w.before args s = true := fun w hw => h w (List.mem_cons_of_mem _ (List.mem_cons_of_mem _ (List.mem_cons_of_mem _ (List.mem_cons_of_mem _ hw))))
  obtain ⟨a, c, cA, kA, q1, q2, q3, q4, q5, q6, -⟩ := Cond.exactly_spec (args := args) (first := s) (o := none) (s := s) (idx := []) (t := t) (cls := "java/lang/String") hex
  obtain ⟨v, hv, hT⟩ := va_Tof (f := fun j => .int (nI (bs.getD j 0))) (A := A) hl har (va_eqt hle) (fun j hj => va_eqt (hel _ (by have := x_elS_mem t bs 0 j hj; rw [Nat.zero_add] at this; exact this))) hA
  exact ⟨a, q1, ⟨cA, q3, q5, by rw [q6]; exact q2, hA a (Array.getElem?_eq_some_iff.mp q3).1⟩, vk_OFof q1 (va_eqt hco) hA, v, vk_OFof q1 hv hA, hT⟩
theorem x_nm_len : ∀ i, i < 19 → ((x_nm 0).getD i []).length < 2 ^ 31 ∧ ((x_nm 1).getD i []).length < 2 ^ 31 := by decide +kernel
theorem x_En_start {s : State} {b : Nat} {sc : Nat × (Nat → Int32)} {A : Nat → Prop} (hts : ∀ w ∈ lw_tbl, w.before #[Value.ref b] s = true) (hn : (Jvm.Cond.and given_1 narrow_1).before #[Value.ref b] s = true) (hX : va_X b sc.1 sc.2 s s.heap) (hb : b < s.heap.size) (hA : ∀ a : Nat, a < s.heap.size → ¬ A a) : x_En sc b A s s.heap := by
  have hN : ∀ w ∈ x_need, w.before #[Value.ref b] s = true := fun w hw => flat_of_before _ hn w (x_pick_mem x_gaps _ _ (by rw [← x_need_ok]; exact hw))
  have k1 : ∀ w ∈ x_n1, w.before #[Value.ref b] s = true := fun w hw => hN w (List.mem_append_left _ hw)
  have hN2 := fun w hw => hN w (List.mem_append_right _ hw)
  have k2 : ∀ w ∈ x_n2, w.before #[Value.ref b] s = true := fun w hw => hN2 w (List.mem_append_left _ hw)
  have hN3 := fun w hw => hN2 w (List.mem_append_right _ hw)
  have k3 : ∀ w ∈ x_n3, w.before #[Value.ref b] s = true := fun w hw => hN3 w (List.mem_append_left _ hw)
  have hN4 := fun w hw => hN3 w (List.mem_append_right _ hw)
  have k4 : ∀ w ∈ x_n4, w.before #[Value.ref b] s = true := fun w hw => hN4 w (List.mem_append_left _ hw)
  have hN5 := fun w hw => hN4 w (List.mem_append_right _ hw)
  have k5 : ∀ w ∈ x_n5, w.before #[Value.ref b] s = true := fun w hw => hN5 w (List.mem_append_left _ hw)
  have k6 : ∀ w ∈ x_n6, w.before #[Value.ref b] s = true := fun w hw => hN5 w (List.mem_append_right _ hw)
  have hTt : ∀ w ∈ x_T, w.before #[Value.ref b] s = true := fun w hw => hts w (List.mem_filter.mp hw).1
  have hrf : ∀ k tx, Cond.stringRef RX7 k tx ∈ lw_tbl → (Cond.exactly (.string "HumanSteps" k) "java/lang/String").before #[Value.ref b] s = true → ∃ a, vk_R RX7 k tx a s := by
    intro k tx h1 h2
    obtain ⟨a, c, cA, kA, q1, -⟩ := Cond.exactly_spec (args := #[Value.ref b]) (first := s) (o := none) (s := s) (idx := []) (t := .string "HumanSteps" k) (cls := "java/lang/String") h2
    exact ⟨a, vk_R.of (A := #[Value.ref b]) (hts _ h1) q1⟩
  have m4 : ∀ i, i < 19 → (Cond.exactly (x_tE i) "HumanSteps$Name").before #[Value.ref b] s = true ∧ (Cond.eq (.field (x_tE i) "HumanSteps$Name" "english" "Ljava/lang/String;") (x_tS 0 i)).before #[Value.ref b] s = true ∧ (Cond.eq (.field (x_tE i) "HumanSteps$Name" "german" "Ljava/lang/String;") (x_tS 1 i)).before #[Value.ref b] s = true := by
    intro i hi
    have hm : ∀ w ∈ ([.exactly (x_tE i) "HumanSteps$Name", .eq (.field (x_tE i) "HumanSteps$Name" "english" "Ljava/lang/String;") (x_tS 0 i), .eq (.field (x_tE i) "HumanSteps$Name" "german" "Ljava/lang/String;") (x_tS 1 i)] : List Cond), w.before #[Value.ref b] s = true := fun w hw => k4 w (List.mem_flatMap.mpr ⟨i, List.mem_range.mpr hi, hw⟩)
    exact ⟨hm _ (List.mem_of_getElem? (i := 0) rfl), hm _ (List.mem_of_getElem? (i := 1) rfl), hm _ (List.mem_of_getElem? (i := 2) rfl)⟩
  have h0 : ∀ i : Nat, ∃ t : Nat, i < 19 → (x_tE i).eval #[Value.ref b] s none [] s = some (.ref t) := by
    intro i
    by_cases hi : i < 19
    · obtain ⟨a, c, cA, kA, q1, -⟩ := Cond.exactly_spec (args := #[Value.ref b]) (first := s) (o := none) (s := s) (idx := []) (t := x_tE i) (cls := "HumanSteps$Name") (m4 i hi).1
      exact ⟨a, fun _ => q1⟩
    · exact ⟨0, fun h => absurd h hi⟩
  obtain ⟨ad, had⟩ := Classical.axiomOfChoice h0
  obtain ⟨t, ht, hT⟩ := va_Tof (N := 19) (f := fun j => .ref (ad j)) (A := A) (by decide) (k1 _ (List.mem_of_getElem? (i := 0) rfl)) (va_eqt (k1 _ (List.mem_of_getElem? (i := 1) rfl))) (fun j hj => va_eqv (k2 _ (List.mem_map.mpr ⟨j, List.mem_range.mpr hj, rfl⟩)) (had j hj)) hA
  refine ⟨⟨hX, hb, hA b hb⟩, fun w hw => va_Nw.of (x_NwL_on w hw) (hts w (x_NwL_in w hw)), va_Nc.of (k5 _ (List.mem_of_getElem? (i := 0) rfl)), ⟨hrf 197 _ wx_r197 (k5 _ (List.mem_of_getElem? (i := 1) rfl)), hrf 204 _ wx_r204 (k5 _ (List.mem_of_getElem? (i := 2) rfl)), hrf 207 _ wx_r207 (k5 _ (List.mem_of_getElem? (i := 3) rfl))⟩, ⟨vx_Zqof (hts _ wx_lU) (hts _ wx_nT) (k3 _ (List.mem_of_getElem? (i := 2) rfl)) hA, vx_Zqof (hts _ wx_lP) (hts _ wx_nT) (k3 _ (List.mem_of_getElem? (i := 3) rfl)) hA⟩, ⟨va_Zof (hts _ wx_lC) (hTt _ wx_nJ0) (va_eqi (k3 _ (List.mem_of_getElem? (i := 0) rfl))) hA, va_Zqof (hts _ wx_lS) (hTt _ wx_nJ3) (k3 _ (List.mem_of_getElem? (i := 1) rfl)) hA⟩, t, ad, va_Zof (hts _ wx_lN) (hTt _ wx_nX7) ht hA, hT, fun g i hg hi => ?_⟩
  have m6 : ∀ w ∈ x_nS (x_tS 0 i) ((x_nm 0).getD i []) ++ x_nS (x_tS 1 i) ((x_nm 1).getD i []), w.before #[Value.ref b] s = true := fun w hw => k6 w (List.mem_flatMap.mpr ⟨i, List.mem_range.mpr hi, hw⟩)
  rcases (show g = 0 ∨ g = 1 by omega) with rfl | rfl
  · obtain ⟨a, q1, q2⟩ := x_txof (A := A) (fun w hw => m6 w (List.mem_append_left _ hw)) (x_nm_len i hi).1 hA
    exact ⟨a, vk_OFof (had i hi) (va_eqv (m4 i hi).2.1 q1) hA, q2⟩
  · obtain ⟨a, q1, q2⟩ := x_txof (A := A) (fun w hw => m6 w (List.mem_append_right _ hw)) (x_nm_len i hi).2 hA
    exact ⟨a, vk_OFof (had i hi) (va_eqv (m4 i hi).2.2 q1) hA, q2⟩
