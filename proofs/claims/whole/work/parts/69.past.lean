/-! what was ahead of the acts (Past): a ring at 19.., pictures at 51.. -/
def PAr (P : Nat → Nat) (xl : Nat → Nat) (L : List LY) (C : Nat → CE) (U I : List RO) : Prop :=
  ∃ top g h, top < 16 ∧ C 16 = O4 (some (P 17)) (nI top) (nI U.length) (some (P 18)) (nI I.length) ∧ (C 17 = rA 4 16 g ∧ ∀ i, i < 16 → g i = some (P (19 + 2 * i))) ∧ (C 18 = rA 4 3 h ∧ ∀ i, i < 3 → h i = some (P (51 + 2 * i))) ∧
  (∀ i, i < 16 → LDs P C (19 + 2 * i)) ∧ (∀ i, i < 3 → LDs P C (51 + 2 * i)) ∧ (∀ j u, U[j]? = some u → LDr P xl L C (19 + 2 * ((top + 15 - j) % 16)) u) ∧ (∀ j u, I[j]? = some u → LDr P xl L C (51 + 2 * j) u) ∧ U.length ≤ 16 ∧ I.length ≤ 3
section PAST
variable {l : Launch} {G : GG} {d : Nat} {P : Nat → Nat} {C : Nat → CE} {τ : Hp} {xl : Nat → Nat} {L : List LY} {r : RO} {U I : List RO}
theorem PAr.cg (h : PAr P xl L C U I) {C' : Nat → CE} (hc : ∀ j, 16 ≤ j → j < 57 → C' j = C j) : PAr P xl L C' U I := by
  obtain ⟨top, g, g', a1, a2, ⟨a3, a3'⟩, ⟨a4, a4'⟩, a5, a6, a7, a8, a9, a10⟩ := h
  refine ⟨top, g, g', a1, (hc _ (by omega) (by omega)).trans a2, ⟨(hc _ (by omega) (by omega)).trans a3, a3'⟩, ⟨(hc _ (by omega) (by omega)).trans a4, a4'⟩, fun i hi => (a5 i hi).cg (hc _ (by omega) (by omega)) (hc _ (by omega) (by omega)), fun i hi => (a6 i hi).cg (hc _ (by omega) (by omega)) (hc _ (by omega) (by omega)), fun j u hu => (a7 j u hu).cg (hc _ (by omega) (by omega)) (hc _ (by omega) (by omega)), fun j u hu => ?_, a9, a10⟩
  have := (List.getElem?_eq_some_iff.mp hu).1
  exact (a8 j u hu).cg (hc _ (by omega) (by omega)) (hc _ (by omega) (by omega))
theorem PAr.none (h : PAr P xl L C [] []) (xl' : Nat → Nat) (L' : List LY) : PAr P xl' L' C [] [] := by
  obtain ⟨top, g, g', a1, a2, a3, a4, a5, a6, a7, a8, a9, a10⟩ := h
  exact ⟨top, g, g', a1, a2, a3, a4, a5, a6, fun j u hu => by simp at hu, fun j u hu => by simp at hu, a9, a10⟩
theorem s_X4_clear (hB : okB 75 P) (h : PAr P xl L C U I) {K : Hp → Prop} (hK : ∀ C', Ck 16 56 C C' → (∀ xl L, PAr P xl L C' [] []) → K (ch 75 P C' τ)) : C_X4_clear l G (d + 1) (P 16) (ch 75 P C τ) K := by
  obtain ⟨top, g, g', a1, a2, ⟨a3, a3'⟩, ⟨a4, a4'⟩, a5, a6, a7, a8, a9, a10⟩ := h
  refine m_X4_clear (rv_c hB (by decide) (by rw [a2]; exact ⟨_, rfl⟩)) ?_
  simp only [F_X4_clear, fI_c hB, fZ_c hB, fJ_c hB, fR_c hB, fN_c hB, pF_c hB, gI_c hB, gZ_c hB, gJ_c hB, gN_c hB, sI_c hB, sZ_c hB, sJ_c hB, sN_c hB, aL_c hB, Nat.reduceLT, a2, rR4_0, rN4_0, rP4_0, rI4_1, rP4_1, rI4_2, rP4_2, rR4_3, rN4_3, rP4_3, rI4_4, rP4_4, up_a, ↓reduceIte]
  refine hK _ ((Ck.rf.up (by omega) _).up (by omega) _) fun xl L => ⟨top, g, g', a1, ?_, ⟨?_, a3'⟩, ⟨?_, a4'⟩, fun i hi => (a5 i hi).cg ?_ ?_, fun i hi => (a6 i hi).cg ?_ ?_, fun j u hu => by simp at hu, fun j u hu => by simp at hu, by simp, by simp⟩
  · rw [up_a, if_pos rfl]; rfl
  all_goals simp only [up_a]; repeat rw [if_neg (by omega)]
  · exact a3
  · exact a4
theorem s_X4_keep (hB : okB 75 P) (h : PAr P xl L C U I) (hr : LDr P xl L C 12 r) (hl : LYS P τ xl r.1) {K : Hp → Prop} (hK : ∀ C', Ck 16 56 C C' → PAr P xl L C' ((r :: U).take 16) I → K (ch 75 P C' τ)) : C_X4_keep l G (d + 2) (P 16) (P 12) (ch 75 P C τ) K := by
  obtain ⟨top, g, g', a1, a2, ⟨a3, a3'⟩, ⟨a4, a4'⟩, a5, a6, a7, a8, a9, a10⟩ := h
  refine m_X4_keep (rv_c hB (by decide) (by rw [a2]; exact ⟨_, rfl⟩)) ?_
  simp only [F_X4_keep, fI_c hB, fZ_c hB, fJ_c hB, fR_c hB, fN_c hB, pF_c hB, gI_c hB, gZ_c hB, gJ_c hB, gN_c hB, sI_c hB, sZ_c hB, sJ_c hB, sN_c hB, aL_c hB, Nat.reduceLT, a2, a3, a4, rR4_0, rN4_0, rP4_0, rI4_1, rP4_1, rI4_2, rP4_2, rR4_3, rN4_3, rP4_3, rI4_4, rP4_4, xI_r, xZ_r, xJ_r, xN_r, yI_r, yZ_r, yJ_r, yN_r, cL_i, cL_z, cL_j, cL_r]
  rw [nt_le (by omega) (by omega)]
  refine ⟨fun hc => absurd hc (nt_neg (by omega)), fun _ => ⟨fun hc => by omega, fun _ => ⟨_, (nt_in (by omega)).mpr a1, by rw [nI_clamp (by omega)]; exact a3' _ a1, ?_⟩⟩⟩
  refine s_X1_copy (d := d) (k := 19 + 2 * top) hB (by omega) (by decide) (by omega) hr (a5 _ a1) hl fun C' h1 h2 => ?_
  have b2 := (h1 16 (by omega)).trans a2
  have b3 := (h1 17 (by omega)).trans a3
  have b4 := (h1 18 (by omega)).trans a4
  have hlen : ((r :: U).take 16).length = if 16 < U.length + 1 then 16 else U.length + 1 := by
    rw [List.length_take, List.length_cons]; split <;> omega
  have e57 : ∀ t, t = (top + 1) % 16 → F_X4_keep_57 l G (d + 1) (P 16) (P 16) (nI t) (ch 75 P C' τ) K := by
    intro t ht
    simp only [F_X4_keep_57, F_X4_keep_78, fI_c hB, fZ_c hB, fJ_c hB, fR_c hB, fN_c hB, pF_c hB, gI_c hB, gZ_c hB, gJ_c hB, gN_c hB, sI_c hB, sZ_c hB, sJ_c hB, sN_c hB, aL_c hB, Nat.reduceLT, b2, b3, b4, rR4_0, rN4_0, rP4_0, rI4_1, rP4_1, rI4_2, rP4_2, rR4_3, rN4_3, rP4_3, rI4_4, rP4_4, xI_r, xZ_r, xJ_r, xN_r, yI_r, yZ_r, yJ_r, yN_r, cL_i, cL_z, cL_j, cL_r, up_a, ↓reduceIte, Nat.reduceEqDiff]
    rw [show nI U.length + 1 = nI (U.length + 1) from nt_add _ 1, show (if nI 16 < nI (U.length + 1) then nI 16 else nI (U.length + 1)) = nI ((r :: U).take 16).length by rw [hlen]; by_cases e1 : 16 < U.length + 1 <;> simp only [nt_lt (show 16 < 2 ^ 31 by decide) (show U.length + 1 < 2 ^ 31 by omega), e1, if_true, if_false]]
    refine hK _ (((h1.mo (by omega) (by omega)).up (by omega) _).up (by omega) _) ⟨t, g, g', by omega, by rw [up_a, if_pos rfl], ⟨?_, a3'⟩, ⟨?_, a4'⟩, fun i hi => ?_, fun i hi => ?_, fun j u hu => ?_, fun j u hu => ?_, by rw [hlen]; split <;> omega, a10⟩
    · rw [up_a, if_neg (by decide), up_a, if_neg (by decide)]; exact b3
    · rw [up_a, if_neg (by decide), up_a, if_neg (by decide)]; exact b4
    · by_cases e1 : i = top
      · subst e1
        exact h2.s.cg (by simp only [up_a]; repeat rw [if_neg (by omega)]) (by simp only [up_a]; repeat rw [if_neg (by omega)])
      · exact (a5 i hi).cg (by simp only [up_a]; repeat rw [if_neg (by omega)]
                               exact h1 _ (by omega)) (by simp only [up_a]; repeat rw [if_neg (by omega)]
                                                          exact h1 _ (by omega))
    · exact (a6 i hi).cg (by simp only [up_a]; repeat rw [if_neg (by omega)]
                             exact h1 _ (by omega)) (by simp only [up_a]; repeat rw [if_neg (by omega)]
                                                        exact h1 _ (by omega))
    · have hj : j < 16 := by
        have := (List.getElem?_eq_some_iff.mp hu).1
        rw [hlen] at this
        split at this <;> omega
      rw [List.getElem?_take_of_lt hj] at hu
      cases j with
      | zero =>
        cases hu
        rw [show (t + 15 - 0) % 16 = top by omega]
        exact h2.cg (by simp only [up_a]; repeat rw [if_neg (by omega)]) (by simp only [up_a]; repeat rw [if_neg (by omega)])
      | succ j =>
        rw [show (t + 15 - (j + 1)) % 16 = (top + 15 - j) % 16 by omega]
        exact (a7 j u hu).cg (by simp only [up_a]; repeat rw [if_neg (by omega)]
                                 exact h1 _ (by omega)) (by simp only [up_a]; repeat rw [if_neg (by omega)]
                                                            exact h1 _ (by omega))
    · have := (List.getElem?_eq_some_iff.mp hu).1
      exact (a8 j u hu).cg (by simp only [up_a]; repeat rw [if_neg (by omega)]
                               exact h1 _ (by omega)) (by simp only [up_a]; repeat rw [if_neg (by omega)]
                                                          exact h1 _ (by omega))
  simp only [fI_c hB, fZ_c hB, fJ_c hB, fR_c hB, fN_c hB, pF_c hB, gI_c hB, gZ_c hB, gJ_c hB, gN_c hB, sI_c hB, sZ_c hB, sJ_c hB, sN_c hB, aL_c hB, Nat.reduceLT, b2, b3, b4, rR4_0, rN4_0, rP4_0, rI4_1, rP4_1, rI4_2, rP4_2, rR4_3, rN4_3, rP4_3, rI4_4, rP4_4, xI_r, xZ_r, xJ_r, xN_r, yI_r, yZ_r, yJ_r, yN_r, cL_i, cL_z, cL_j, cL_r]
  rw [show nI top + 1 = nI (top + 1) from nt_add _ 1, nt_le (by omega) (by omega)]
  exact ⟨fun hc => e57 0 (by omega), fun hc => e57 (top + 1) (by omega)⟩
theorem s_X4_undo0 (hB : okB 75 P) (h : PAr P xl L C [] I) {K : Bool → Hp → Prop} (hK : K false (ch 75 P C τ)) : C_X4_undoTo l G (d + 2) (P 16) (P 12) (ch 75 P C τ) K := by
  obtain ⟨top, g, g', a1, a2, ⟨a3, a3'⟩, ⟨a4, a4'⟩, a5, a6, a7, a8, a9, a10⟩ := h
  refine m_X4_undoTo (rv_c hB (by decide) (by rw [a2]; exact ⟨_, rfl⟩)) ?_
  simp only [F_X4_undoTo_44, F_X4_undoTo_23, F_X4_undoTo, fI_c hB, fZ_c hB, fJ_c hB, fR_c hB, fN_c hB, pF_c hB, gI_c hB, gZ_c hB, gJ_c hB, gN_c hB, sI_c hB, sZ_c hB, sJ_c hB, sN_c hB, aL_c hB, Nat.reduceLT, a2, a3, a4, rR4_0, rN4_0, rP4_0, rI4_1, rP4_1, rI4_2, rP4_2, rR4_3, rN4_3, rP4_3, rI4_4, rP4_4, xI_r, xZ_r, xJ_r, xN_r, yI_r, yZ_r, yJ_r, yN_r, cL_i, cL_z, cL_j, cL_r, List.length_nil]
  exact ⟨fun _ => ⟨fun _ => hK, fun hc => absurd (by decide) hc⟩, fun _ => ⟨fun _ => hK, fun hc => absurd (by decide) hc⟩⟩
theorem s_X4_undoTo (hB : okB 75 P) {u : RO} (h : PAr P xl L C (u :: U) I) (hs : LDs P C 12) (hl : LYS P τ xl u.1) {K : Bool → Hp → Prop} (hK : ∀ C', Ck 12 56 C C' → C' 14 = C 14 → C' 15 = C 15 → PAr P xl L C' U I → LDr P xl L C' 12 u → K true (ch 75 P C' τ)) : C_X4_undoTo l G (d + 2) (P 16) (P 12) (ch 75 P C τ) K := by
  obtain ⟨top, g, g', a1, a2, ⟨a3, a3'⟩, ⟨a4, a4'⟩, a5, a6, a7, a8, a9, a10⟩ := h
  refine m_X4_undoTo (rv_c hB (by decide) (by rw [a2]; exact ⟨_, rfl⟩)) ?_
  have e23 : ∀ t, t = (top + 15) % 16 → F_X4_undoTo_23 l G (d + 1) (P 16) (P 12) (nI t) (ch 75 P C τ) K := by
    intro t ht
    simp only [F_X4_undoTo_23, fI_c hB, fZ_c hB, fJ_c hB, fR_c hB, fN_c hB, pF_c hB, gI_c hB, gZ_c hB, gJ_c hB, gN_c hB, sI_c hB, sZ_c hB, sJ_c hB, sN_c hB, aL_c hB, Nat.reduceLT, a2, a3, a4, rR4_0, rN4_0, rP4_0, rI4_1, rP4_1, rI4_2, rP4_2, rR4_3, rN4_3, rP4_3, rI4_4, rP4_4, xI_r, xZ_r, xJ_r, xN_r, yI_r, yZ_r, yJ_r, yN_r, cL_i, cL_z, cL_j, cL_r]
    rw [show (0 : Int32) = nI 0 from rfl, nt_le (by omega) (by omega), nt_lt (show t < 2 ^ 31 by omega) (show 16 < 2 ^ 31 by decide), nt_lt (show t < 2 ^ 31 by omega) (show 0 < 2 ^ 31 by decide), List.length_cons]
    refine ⟨fun hc => by omega, fun _ => ⟨fun hc => by omega, fun _ => ⟨fun _ => ⟨_, (nt_in (by omega)).mpr (by omega), by rw [nI_clamp (by omega)]; exact a3' _ (by omega), ?_⟩, fun hc => by omega⟩⟩⟩
    have h0 := a7 0 u rfl
    rw [show (top + 15 - 0) % 16 = t by omega] at h0
    refine s_X1_copy (d := d) (k := 12) hB (by decide) (by omega) (by omega) h0 hs hl fun C' h1 h2 => ?_
    have b2 := (h1 16 (by omega)).trans a2
    have b3 := (h1 17 (by omega)).trans a3
    have b4 := (h1 18 (by omega)).trans a4
    simp only [fI_c hB, fZ_c hB, fJ_c hB, fR_c hB, fN_c hB, pF_c hB, gI_c hB, gZ_c hB, gJ_c hB, gN_c hB, sI_c hB, sZ_c hB, sJ_c hB, sN_c hB, aL_c hB, Nat.reduceLT, b2, b3, b4, rR4_0, rN4_0, rP4_0, rI4_1, rP4_1, rI4_2, rP4_2, rR4_3, rN4_3, rP4_3, rI4_4, rP4_4, xI_r, xZ_r, xJ_r, xN_r, yI_r, yZ_r, yJ_r, yN_r, cL_i, cL_z, cL_j, cL_r, up_a, ↓reduceIte]
    rw [List.length_cons, show (1 : Int32) = nI 1 from rfl, nt_sub (by omega) (by simp only [List.length_cons] at a9; omega), Nat.add_sub_cancel]
    refine hK _ (((h1.mo (by omega) (by omega)).up (by omega) _).up (by omega) _) ?_ ?_ ⟨t, g, g', by omega, by rw [up_a, if_pos rfl], ⟨?_, a3'⟩, ⟨?_, a4'⟩, fun i hi => ?_, fun i hi => ?_, fun j v hu => ?_, fun j v hu => ?_, by simp only [List.length_cons] at a9; omega, a10⟩ ?_
    · simp only [up_a]; repeat rw [if_neg (by omega)]
      exact h1 _ (by omega)
    · simp only [up_a]; repeat rw [if_neg (by omega)]
      exact h1 _ (by omega)
    · rw [up_a, if_neg (by decide), up_a, if_neg (by decide)]; exact b3
    · rw [up_a, if_neg (by decide), up_a, if_neg (by decide)]; exact b4
    · exact (a5 i hi).cg (by simp only [up_a]; repeat rw [if_neg (by omega)]
                             exact h1 _ (by omega)) (by simp only [up_a]; repeat rw [if_neg (by omega)]
                                                        exact h1 _ (by omega))
    · exact (a6 i hi).cg (by simp only [up_a]; repeat rw [if_neg (by omega)]
                             exact h1 _ (by omega)) (by simp only [up_a]; repeat rw [if_neg (by omega)]
                                                        exact h1 _ (by omega))
    · have h5 := a7 (j + 1) v hu
      have := (List.getElem?_eq_some_iff.mp hu).1
      simp only [List.length_cons] at a9
      rw [show (top + 15 - (j + 1)) % 16 = (t + 15 - j) % 16 by omega] at h5
      exact h5.cg (by simp only [up_a]; repeat rw [if_neg (by omega)]
                      exact h1 _ (by omega)) (by simp only [up_a]; repeat rw [if_neg (by omega)]
                                                 exact h1 _ (by omega))
    · have := (List.getElem?_eq_some_iff.mp hu).1
      exact (a8 j v hu).cg (by simp only [up_a]; repeat rw [if_neg (by omega)]
                               exact h1 _ (by omega)) (by simp only [up_a]; repeat rw [if_neg (by omega)]
                                                          exact h1 _ (by omega))
    · exact h2.cg (by simp only [up_a]; repeat rw [if_neg (by omega)]) (by simp only [up_a]; repeat rw [if_neg (by omega)])
  simp only [F_X4_undoTo, fI_c hB, fZ_c hB, fJ_c hB, fR_c hB, fN_c hB, pF_c hB, gI_c hB, gZ_c hB, gJ_c hB, gN_c hB, sI_c hB, sZ_c hB, sJ_c hB, sN_c hB, aL_c hB, Nat.reduceLT, a2, a3, a4, rR4_0, rN4_0, rP4_0, rI4_1, rP4_1, rI4_2, rP4_2, rR4_3, rN4_3, rP4_3, rI4_4, rP4_4, xI_r, xZ_r, xJ_r, xN_r, yI_r, yZ_r, yJ_r, yN_r, cL_i, cL_z, cL_j, cL_r]
  rw [show (0 : Int32) = nI 0 from rfl, nt_le (by omega) (by omega), show (1 : Int32) = nI 1 from rfl]
  refine ⟨fun hc => by rw [nt_sub (by decide) (by decide)]; exact e23 15 (by omega), fun hc => by rw [nt_sub (by omega) (by omega)]; exact e23 (top - 1) (by omega)⟩
theorem s_X4_addImage (hB : okB 75 P) (h : PAr P xl L C U I) (hr : LDr P xl L C 12 r) (hl : LYS P τ xl r.1) {K : Int32 → Hp → Prop} (hK1 : 3 ≤ I.length → K (-1) (ch 75 P C τ)) (hK : I.length < 3 → ∀ C', Ck 16 56 C C' → PAr P xl L C' U (I ++ [r]) → K (nI I.length) (ch 75 P C' τ)) : C_X4_addImage l G (d + 2) (P 16) (P 12) (ch 75 P C τ) K := by
  obtain ⟨top, g, g', a1, a2, ⟨a3, a3'⟩, ⟨a4, a4'⟩, a5, a6, a7, a8, a9, a10⟩ := h
  refine m_X4_addImage (rv_c hB (by decide) (by rw [a2]; exact ⟨_, rfl⟩)) ?_
  simp only [F_X4_addImage_19, F_X4_addImage, fI_c hB, fZ_c hB, fJ_c hB, fR_c hB, fN_c hB, pF_c hB, gI_c hB, gZ_c hB, gJ_c hB, gN_c hB, sI_c hB, sZ_c hB, sJ_c hB, sN_c hB, aL_c hB, Nat.reduceLT, a2, a3, a4, rR4_0, rN4_0, rP4_0, rI4_1, rP4_1, rI4_2, rP4_2, rR4_3, rN4_3, rP4_3, rI4_4, rP4_4, xI_r, xZ_r, xJ_r, xN_r, yI_r, yZ_r, yJ_r, yN_r, cL_i, cL_z, cL_j, cL_r]
  rw [nt_lt (by omega) (by omega)]
  refine ⟨fun hc => absurd hc (nt_neg (by omega)), fun _ => ⟨fun hc => ⟨_, (nt_in (by omega)).mpr hc, by rw [nI_clamp (by omega)]; exact a4' _ hc, ?_⟩, fun hc => hK1 (by omega)⟩⟩
  refine s_X1_copy (d := d) (k := 51 + 2 * I.length) hB (by omega) (by decide) (by omega) hr (a6 _ hc) hl fun C' h1 h2 => ?_
  have b2 := (h1 16 (by omega)).trans a2
  have b3 := (h1 17 (by omega)).trans a3
  have b4 := (h1 18 (by omega)).trans a4
  simp only [fI_c hB, fZ_c hB, fJ_c hB, fR_c hB, fN_c hB, pF_c hB, gI_c hB, gZ_c hB, gJ_c hB, gN_c hB, sI_c hB, sZ_c hB, sJ_c hB, sN_c hB, aL_c hB, Nat.reduceLT, b2, b3, b4, rR4_0, rN4_0, rP4_0, rI4_1, rP4_1, rI4_2, rP4_2, rR4_3, rN4_3, rP4_3, rI4_4, rP4_4, xI_r, xZ_r, xJ_r, xN_r, yI_r, yZ_r, yJ_r, yN_r, cL_i, cL_z, cL_j, cL_r, up_a, ↓reduceIte]
  rw [show nI I.length + 1 = nI (I.length + 1) from nt_add _ 1, show (1 : Int32) = nI 1 from rfl, nt_sub (by omega) (by omega), Nat.add_sub_cancel]
  refine hK hc _ ((h1.mo (by omega) (by omega)).up (by omega) _) ⟨top, g, g', a1, by rw [up_a, if_pos rfl, List.length_append]; rfl, ⟨?_, a3'⟩, ⟨?_, a4'⟩, fun i hi => ?_, fun i hi => ?_, fun j u hu => ?_, fun j u hu => ?_, a9, by rw [List.length_append, List.length_singleton]; omega⟩
  · rw [up_a, if_neg (by decide)]; exact b3
  · rw [up_a, if_neg (by decide)]; exact b4
  · exact (a5 i hi).cg (by simp only [up_a]; repeat rw [if_neg (by omega)]
                           exact h1 _ (by omega)) (by simp only [up_a]; repeat rw [if_neg (by omega)]
                                                      exact h1 _ (by omega))
  · by_cases e1 : i = I.length
    · subst e1
      exact h2.s.cg (by simp only [up_a]; repeat rw [if_neg (by omega)]) (by simp only [up_a]; repeat rw [if_neg (by omega)])
    · exact (a6 i hi).cg (by simp only [up_a]; repeat rw [if_neg (by omega)]
                             exact h1 _ (by omega)) (by simp only [up_a]; repeat rw [if_neg (by omega)]
                                                        exact h1 _ (by omega))
  · exact (a7 j u hu).cg (by simp only [up_a]; repeat rw [if_neg (by omega)]
                             exact h1 _ (by omega)) (by simp only [up_a]; repeat rw [if_neg (by omega)]
                                                        exact h1 _ (by omega))
  · by_cases e1 : j = I.length
    · subst e1
      rw [List.getElem?_append_right (Nat.le_refl _), Nat.sub_self] at hu
      cases hu
      exact h2.cg (by simp only [up_a]; repeat rw [if_neg (by omega)]) (by simp only [up_a]; repeat rw [if_neg (by omega)])
    · have := (List.getElem?_eq_some_iff.mp hu).1
      rw [List.length_append, List.length_singleton] at this
      rw [List.getElem?_append_left (by omega)] at hu
      exact (a8 j u hu).cg (by simp only [up_a]; repeat rw [if_neg (by omega)]
                               exact h1 _ (by omega)) (by simp only [up_a]; repeat rw [if_neg (by omega)]
                                                          exact h1 _ (by omega))
theorem s_X4_backTo (hB : okB 75 P) (h : PAr P xl L C U I) (hs : LDs P C 12) (hl : ∀ u ∈ I, LYS P τ xl u.1) {v : Int32} {K : Bool → Hp → Prop} (hK1 : ix v I.length = none → K false (ch 75 P C τ)) (hK : ∀ j u, ix v I.length = some j → I[j]? = some u → ∀ C', Ck 12 56 C C' → C' 14 = C 14 → C' 15 = C 15 → PAr P xl L C' [] I → LDr P xl L C' 12 u → K true (ch 75 P C' τ)) : C_X4_backTo l G (d + 2) (P 16) v (P 12) (ch 75 P C τ) K := by
  obtain ⟨top, g, g', a1, a2, ⟨a3, a3'⟩, ⟨a4, a4'⟩, a5, a6, a7, a8, a9, a10⟩ := h
  refine m_X4_backTo (rv_c hB (by decide) (by rw [a2]; exact ⟨_, rfl⟩)) ?_
  simp only [F_X4_backTo_21, F_X4_backTo, fI_c hB, fZ_c hB, fJ_c hB, fR_c hB, fN_c hB, pF_c hB, gI_c hB, gZ_c hB, gJ_c hB, gN_c hB, sI_c hB, sZ_c hB, sJ_c hB, sN_c hB, aL_c hB, Nat.reduceLT, a2, a3, a4, rR4_0, rN4_0, rP4_0, rI4_1, rP4_1, rI4_2, rP4_2, rR4_3, rN4_3, rP4_3, rI4_4, rP4_4, xI_r, xZ_r, xJ_r, xN_r, yI_r, yZ_r, yJ_r, yN_r, cL_i, cL_z, cL_j, cL_r]
  refine ⟨fun hc => hK1 (by rw [ix, if_neg fun c => c.1 hc]), fun c1 => ?_⟩
  obtain ⟨i, hi, rfl⟩ := nt_of c1
  rw [nt_le (by omega) hi, nt_lt hi (by omega)]
  rw [ix_nI hi (by omega)] at hK1 hK
  refine ⟨fun hc => hK1 (if_neg (by omega)), fun hc => ⟨fun _ => ⟨_, (nt_in (by omega)).mpr (by omega), by rw [nI_clamp (by omega)]; exact a4' _ (by omega), ?_⟩, fun hc => by omega⟩⟩
  obtain ⟨u, hu⟩ : ∃ u, I[i]? = some u := ⟨_, List.getElem?_eq_getElem (by omega)⟩
  refine s_X1_copy (d := d) (k := 12) hB (by decide) (by omega) (by omega) (a8 i u hu) hs (hl u (List.mem_of_getElem? hu)) fun C' h1 h2 => ?_
  have b2 := (h1 16 (by omega)).trans a2
  have b3 := (h1 17 (by omega)).trans a3
  have b4 := (h1 18 (by omega)).trans a4
  simp only [fI_c hB, fZ_c hB, fJ_c hB, fR_c hB, fN_c hB, pF_c hB, gI_c hB, gZ_c hB, gJ_c hB, gN_c hB, sI_c hB, sZ_c hB, sJ_c hB, sN_c hB, aL_c hB, Nat.reduceLT, b2, b3, b4, rR4_0, rN4_0, rP4_0, rI4_1, rP4_1, rI4_2, rP4_2, rR4_3, rN4_3, rP4_3, rI4_4, rP4_4, xI_r, xZ_r, xJ_r, xN_r, yI_r, yZ_r, yJ_r, yN_r, cL_i, cL_z, cL_j, cL_r, up_a, ↓reduceIte]
  refine hK i u (if_pos (by omega)) hu _ ((h1.mo (by omega) (by omega)).up (by omega) _) ?_ ?_ ⟨top, g, g', a1, by rw [up_a, if_pos rfl]; rfl, ⟨?_, a3'⟩, ⟨?_, a4'⟩, fun i hi => ?_, fun i hi => ?_, fun j u hu => by simp at hu, fun j v hu => ?_, by simp, a10⟩ ?_
  · simp only [up_a]; repeat rw [if_neg (by omega)]
    exact h1 _ (by omega)
  · simp only [up_a]; repeat rw [if_neg (by omega)]
    exact h1 _ (by omega)
  · rw [up_a, if_neg (by decide)]; exact b3
  · rw [up_a, if_neg (by decide)]; exact b4
  · exact (a5 i hi).cg (by simp only [up_a]; repeat rw [if_neg (by omega)]
                           exact h1 _ (by omega)) (by simp only [up_a]; repeat rw [if_neg (by omega)]
                                                      exact h1 _ (by omega))
  · exact (a6 i hi).cg (by simp only [up_a]; repeat rw [if_neg (by omega)]
                           exact h1 _ (by omega)) (by simp only [up_a]; repeat rw [if_neg (by omega)]
                                                      exact h1 _ (by omega))
  · have := (List.getElem?_eq_some_iff.mp hu).1
    exact (a8 j v hu).cg (by simp only [up_a]; repeat rw [if_neg (by omega)]
                             exact h1 _ (by omega)) (by simp only [up_a]; repeat rw [if_neg (by omega)]
                                                        exact h1 _ (by omega))
  · exact h2.cg (by simp only [up_a]; repeat rw [if_neg (by omega)]) (by simp only [up_a]; repeat rw [if_neg (by omega)])
end PAST
