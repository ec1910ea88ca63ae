/-! the model's lines: table, board, jug -/
section PRL
variable {l : Launch} {G : GG} {d m : Nat} {A : Nat → Nat} {S : MS} {ρ : Hp} {B : Nat → Nat} {N : Nat} {T : TB} {ls : List Nat}
theorem s_X12_tableLine_f (hf : S.2.1 13 = true) {K : Hp → Prop} (h : K (mh m A S ρ)) : C_X12_tableLine l G (d + 1) m (mh m A S ρ) K := by
  refine m_X12_tableLine rv_m ?_
  simp only [F_X12_tableLine, mfI_0, mpI_0, mfN_1, mfI_2, mpI_2, mfI_3, mpI_3, mfI_4, mpI_4, mfI_5, mpI_5, mfI_6, mpI_6, mfI_7, mpI_7, mfI_8, mpI_8, mfI_9, mpI_9, mfI_10, mpI_10, mfI_11, mpI_11, mfN_12, mfZ_13, mpZ_13, mfZ_14, mpZ_14, mfN_15, mfN_16, mfN_17, mfN_18, mfN_19, mfN_20, mfI_21, mpI_21, mfI_22, mpI_22, mfN_23, mfN_24, mfN_25, mfN_26, mfN_27, mfN_28, mfN_29, mfI_30, mpI_30, mfN_31, mfN_32, mfN_33, mfN_34, mfN_35, mfN_36, mfN_37, mfI_38, mpI_38, mfN_39, mfI_40, mpI_40, mfI_41, mpI_41, hf, reduceCtorEq, false_implies, true_implies, forall_const, true_and, and_true, eq_self]
  exact h
theorem s_X12_boardLine_f (hf : S.2.1 13 = true) {K : Hp → Prop} (h : K (mh m A S ρ)) : C_X12_boardLine l G (d + 1) m (mh m A S ρ) K := by
  refine m_X12_boardLine rv_m ?_
  simp only [F_X12_boardLine, mfI_0, mpI_0, mfN_1, mfI_2, mpI_2, mfI_3, mpI_3, mfI_4, mpI_4, mfI_5, mpI_5, mfI_6, mpI_6, mfI_7, mpI_7, mfI_8, mpI_8, mfI_9, mpI_9, mfI_10, mpI_10, mfI_11, mpI_11, mfN_12, mfZ_13, mpZ_13, mfZ_14, mpZ_14, mfN_15, mfN_16, mfN_17, mfN_18, mfN_19, mfN_20, mfI_21, mpI_21, mfI_22, mpI_22, mfN_23, mfN_24, mfN_25, mfN_26, mfN_27, mfN_28, mfN_29, mfI_30, mpI_30, mfN_31, mfN_32, mfN_33, mfN_34, mfN_35, mfN_36, mfN_37, mfI_38, mpI_38, mfN_39, mfI_40, mpI_40, mfI_41, mpI_41, hf, reduceCtorEq, false_implies, true_implies, forall_const, true_and, and_true, eq_self]
  exact h
theorem s_X12_jugLine_f (hf : S.2.1 13 = true) {K : Hp → Prop} (h : K (mh m A S ρ)) : C_X12_jugLine l G (d + 1) m (mh m A S ρ) K := by
  refine m_X12_jugLine rv_m ?_
  simp only [F_X12_jugLine, mfI_0, mpI_0, mfN_1, mfI_2, mpI_2, mfI_3, mpI_3, mfI_4, mpI_4, mfI_5, mpI_5, mfI_6, mpI_6, mfI_7, mpI_7, mfI_8, mpI_8, mfI_9, mpI_9, mfI_10, mpI_10, mfI_11, mpI_11, mfN_12, mfZ_13, mpZ_13, mfZ_14, mpZ_14, mfN_15, mfN_16, mfN_17, mfN_18, mfN_19, mfN_20, mfI_21, mpI_21, mfI_22, mpI_22, mfN_23, mfN_24, mfN_25, mfN_26, mfN_27, mfN_28, mfN_29, mfI_30, mpI_30, mfN_31, mfN_32, mfN_33, mfN_34, mfN_35, mfN_36, mfN_37, mfI_38, mpI_38, mfN_39, mfI_40, mpI_40, mfI_41, mpI_41, hf, reduceCtorEq, false_implies, true_implies, forall_const, true_and, and_true, eq_self]
  exact h
theorem s_X12_pieceLine_f (hf : S.2.1 13 = true) {K : Hp → Prop} (h : K (mh m A S ρ)) : C_X12_pieceLine l G (d + 1) m (mh m A S ρ) K := by
  refine m_X12_pieceLine rv_m ?_
  simp only [F_X12_pieceLine, mfI_0, mpI_0, mfN_1, mfI_2, mpI_2, mfI_3, mpI_3, mfI_4, mpI_4, mfI_5, mpI_5, mfI_6, mpI_6, mfI_7, mpI_7, mfI_8, mpI_8, mfI_9, mpI_9, mfI_10, mpI_10, mfI_11, mpI_11, mfN_12, mfZ_13, mpZ_13, mfZ_14, mpZ_14, mfN_15, mfN_16, mfN_17, mfN_18, mfN_19, mfN_20, mfI_21, mpI_21, mfI_22, mpI_22, mfN_23, mfN_24, mfN_25, mfN_26, mfN_27, mfN_28, mfN_29, mfI_30, mpI_30, mfN_31, mfN_32, mfN_33, mfN_34, mfN_35, mfN_36, mfN_37, mfI_38, mpI_38, mfN_39, mfI_40, mpI_40, mfI_41, mpI_41, hf, reduceCtorEq, false_implies, true_implies, forall_const, true_and, and_true, eq_self]
  exact h
theorem s_X12_layLine_f (hf : S.2.1 13 = true) {K : Hp → Prop} (h : K (mh m A S ρ)) : C_X12_layLine l G (d + 1) m (mh m A S ρ) K := by
  refine m_X12_layLine rv_m ?_
  simp only [F_X12_layLine, mfI_0, mpI_0, mfN_1, mfI_2, mpI_2, mfI_3, mpI_3, mfI_4, mpI_4, mfI_5, mpI_5, mfI_6, mpI_6, mfI_7, mpI_7, mfI_8, mpI_8, mfI_9, mpI_9, mfI_10, mpI_10, mfI_11, mpI_11, mfN_12, mfZ_13, mpZ_13, mfZ_14, mpZ_14, mfN_15, mfN_16, mfN_17, mfN_18, mfN_19, mfN_20, mfI_21, mpI_21, mfI_22, mpI_22, mfN_23, mfN_24, mfN_25, mfN_26, mfN_27, mfN_28, mfN_29, mfI_30, mpI_30, mfN_31, mfN_32, mfN_33, mfN_34, mfN_35, mfN_36, mfN_37, mfI_38, mpI_38, mfN_39, mfI_40, mpI_40, mfI_41, mpI_41, hf, reduceCtorEq, false_implies, true_implies, forall_const, true_and, and_true, eq_self]
  exact h
theorem s_X12_tableLine (hA : okA m A) {a : Nat} (ha : a ≤ N) (hS : PSt B N a T ls S) (h0 : T.1 = (false, false, false)) {K : Hp → Prop} (hK : ∀ S', Pm S S' → PO B N (tabL B N a T ls) S' → K (mh m A S' ρ)) : C_X12_tableLine l G (d + 20) m (mh m A S ρ) K := by
  obtain ⟨ht, hT, hf, hR, hw⟩ := hS
  have f2 : S.2.2.1 16 2 = 0 := by
    have := hR.1.2.2
    rw [h0] at this
    exact this
  have tail : ∀ (w : Bool) a' S1, a' ≤ N → Pm S S1 → TXT B N S1 → TkA B N a' S1 → S1.2.1 13 = false → S1.2.2.1 18 = S.2.2.1 18 → (∀ i, i ≠ 1 → S1.2.2.1 16 i = S.2.2.1 16 i) → S1.2.2.1 16 1 = bi w → tabL B N a T ls = tabE B N a' w T ls → F_X12_tableLine_33 l G (d + 19) m (mh m A S1 ρ) K := by
    intro w a' S1 ha' hP ht1 hT1 hf1 h18 h16 h16b hE
    rw [hE] at hK
    unfold tabE at hK
    simp only [F_X12_tableLine_33, F_X12_tableLine_49, F_X12_tableLine_63]
    refine s_X12_takesWord hA (j := 24) rfl ha' ht1 hT1 hf1 (fun h1 S2 g1 g2 => ?_) (fun h1 => ?_)
    · have h1' : isW B N a' kwAp = true := h1
      rw [if_pos h1'] at hK
      have g13 : S2.2.1 13 = false := (g1.2.1 13 (by simp)).trans hf1
      have g16 : S2.2.2.1 16 = S1.2.2.1 16 := g1.2.2.1 16 (by decide)
      simp only [reduceCtorEq, false_implies, true_implies, forall_const, true_and, and_true, eq_self, mfI_0, mpI_0, mfN_1, mfI_2, mpI_2, mfI_3, mpI_3, mfI_4, mpI_4, mfI_5, mpI_5, mfI_6, mpI_6, mfI_7, mpI_7, mfI_8, mpI_8, mfI_9, mpI_9, mfI_10, mpI_10, mfI_11, mpI_11, mfN_12, mfZ_13, mpZ_13, mfZ_14, mpZ_14, mfN_15, mfN_16, mfN_17, mfN_18, mfN_19, mfN_20, mfI_21, mpI_21, mfI_22, mpI_22, mfN_23, mfN_24, mfN_25, mfN_26, mfN_27, mfN_28, mfN_29, mfI_30, mpI_30, mfN_31, mfN_32, mfN_33, mfN_34, mfN_35, mfN_36, mfN_37, mfI_38, mpI_38, mfN_39, mfI_40, mpI_40, mfI_41, mpI_41, mgI_1 hA, msI_1 hA, mgI_12 hA, msI_12 hA, mgI_15 hA, msI_15 hA, mgI_16 hA, msI_16 hA, mgI_17 hA, msI_17 hA, mgI_18 hA, msI_18 hA, mgI_19 hA, msI_19 hA, mgI_20 hA, msI_20 hA, mgI_23 hA, msI_23 hA, mgI_24 hA, msI_24 hA, mgI_25 hA, msI_25 hA, mgI_26 hA, msI_26 hA, mgI_27 hA, msI_27 hA, mgI_28 hA, msI_28 hA, mgI_29 hA, msI_29 hA, mgI_31 hA, msI_31 hA, mgI_32 hA, msI_32 hA, mgI_33 hA, msI_33 hA, mgI_34 hA, msI_34 hA, mgI_35 hA, msI_35 hA, mgI_36 hA, msI_36 hA, mgI_39 hA, msI_39 hA, mgJ hA, msJ hA, ms_i, ms_i2, ms_b1, ms_b, ms_b2, ms_a1, ms_a2, ms_a, ms_a3, ms_j1, ms_j2, ms_j3, ms_j, ↓reduceIte, Nat.reduceEqDiff, g13, show (2 : Int32).toNatClampNeg = 2 from rfl, show (0 : Int32).toNatClampNeg = 0 from rfl, g16]
      refine ⟨(vin 2 (by decide) (by decide)), (vin 0 (by decide) (by decide)), hK _ (((hP.nx g1).a (by decide)).a (by decide)) ⟨(((ht1.nx g1).sm (Sm.a (ar := [16]) (is := []) (bs := []) Sm.rf (by decide)) (by simp) (by decide)).sm (Sm.a (ar := [16]) (is := []) (bs := []) Sm.rf (by decide)) (by simp) (by decide)), g2, g13, ?_, ?_⟩⟩
      · simp only [ms_i, ms_i2, ms_b1, ms_b, ms_b2, ms_a1, ms_a2, ms_a, ms_a3, ms_j1, ms_j2, ms_j3, ms_j, ↓reduceIte, Nat.reduceEqDiff]
        refine hR.law (by rw [up_eq]) ?_ ?_ fun i hi => ?_
        · rw [up_ne (by decide), up_ne (by decide), h16b]
        · rw [up_ne (by decide), up_eq]; rfl
        · rw [up_ne (by omega), up_ne (by omega), h16 i (by omega)]
      · simp only [ms_i, ms_i2, ms_b1, ms_b, ms_b2, ms_a1, ms_a2, ms_a, ms_a3, ms_j1, ms_j2, ms_j3, ms_j, ↓reduceIte, Nat.reduceEqDiff]
        rw [g1.2.2.1 18 (by decide), h18]
        exact hw
    · have h1' : isW B N a' kwAp = false := h1
      rw [if_neg (by rw [h1']; decide)] at hK
      simp only [reduceCtorEq, false_implies, true_implies, forall_const, true_and, and_true, eq_self, mfI_0, mpI_0, mfN_1, mfI_2, mpI_2, mfI_3, mpI_3, mfI_4, mpI_4, mfI_5, mpI_5, mfI_6, mpI_6, mfI_7, mpI_7, mfI_8, mpI_8, mfI_9, mpI_9, mfI_10, mpI_10, mfI_11, mpI_11, mfN_12, mfZ_13, mpZ_13, mfZ_14, mpZ_14, mfN_15, mfN_16, mfN_17, mfN_18, mfN_19, mfN_20, mfI_21, mpI_21, mfI_22, mpI_22, mfN_23, mfN_24, mfN_25, mfN_26, mfN_27, mfN_28, mfN_29, mfI_30, mpI_30, mfN_31, mfN_32, mfN_33, mfN_34, mfN_35, mfN_36, mfN_37, mfI_38, mpI_38, mfN_39, mfI_40, mpI_40, mfI_41, mpI_41, mgI_1 hA, msI_1 hA, mgI_12 hA, msI_12 hA, mgI_15 hA, msI_15 hA, mgI_16 hA, msI_16 hA, mgI_17 hA, msI_17 hA, mgI_18 hA, msI_18 hA, mgI_19 hA, msI_19 hA, mgI_20 hA, msI_20 hA, mgI_23 hA, msI_23 hA, mgI_24 hA, msI_24 hA, mgI_25 hA, msI_25 hA, mgI_26 hA, msI_26 hA, mgI_27 hA, msI_27 hA, mgI_28 hA, msI_28 hA, mgI_29 hA, msI_29 hA, mgI_31 hA, msI_31 hA, mgI_32 hA, msI_32 hA, mgI_33 hA, msI_33 hA, mgI_34 hA, msI_34 hA, mgI_35 hA, msI_35 hA, mgI_36 hA, msI_36 hA, mgI_39 hA, msI_39 hA, mgJ hA, msJ hA, hf1, show (0 : Int32).toNatClampNeg = 0 from rfl]
      refine ⟨(vin 0 (by decide) (by decide)), hK _ (hP.a (by decide)) ⟨ht1.sm (Sm.a (ar := [16]) (is := []) (bs := []) Sm.rf (by decide)) (by simp) (by decide), hT1, hf1, ?_, ?_⟩⟩
      · simp only [ms_i, ms_i2, ms_b1, ms_b, ms_b2, ms_a1, ms_a2, ms_a, ms_a3, ms_j1, ms_j2, ms_j3, ms_j, ↓reduceIte, Nat.reduceEqDiff]
        refine hR.law (by rw [up_eq]) ?_ ?_ fun i hi => ?_
        · rw [up_ne (by decide), h16b]
        · rw [up_ne (by decide), h16 2 (by decide), f2]; rfl
        · rw [up_ne (by omega), h16 i (by omega)]
      · simp only [ms_i, ms_i2, ms_b1, ms_b, ms_b2, ms_a1, ms_a2, ms_a, ms_a3, ms_j1, ms_j2, ms_j3, ms_j, ↓reduceIte, Nat.reduceEqDiff]
        rw [h18]
        exact hw
  refine m_X12_tableLine rv_m ?_
  simp only [F_X12_tableLine, mfI_0, mpI_0, mfN_1, mfI_2, mpI_2, mfI_3, mpI_3, mfI_4, mpI_4, mfI_5, mpI_5, mfI_6, mpI_6, mfI_7, mpI_7, mfI_8, mpI_8, mfI_9, mpI_9, mfI_10, mpI_10, mfI_11, mpI_11, mfN_12, mfZ_13, mpZ_13, mfZ_14, mpZ_14, mfN_15, mfN_16, mfN_17, mfN_18, mfN_19, mfN_20, mfI_21, mpI_21, mfI_22, mpI_22, mfN_23, mfN_24, mfN_25, mfN_26, mfN_27, mfN_28, mfN_29, mfI_30, mpI_30, mfN_31, mfN_32, mfN_33, mfN_34, mfN_35, mfN_36, mfN_37, mfI_38, mpI_38, mfN_39, mfI_40, mpI_40, mfI_41, mpI_41, hf, reduceCtorEq, false_implies, true_implies, forall_const, true_and, and_true, eq_self]
  refine s_X12_takesWord hA (j := 22) rfl ha ht hT hf (fun h1 S2 g1 g2 => ?_) (fun h1 => ?_)
  · have h1' : isW B N a kwWi = true := h1
    simp only [reduceCtorEq, false_implies, true_implies, forall_const, true_and, and_true, eq_self, mfI_0, mpI_0, mfN_1, mfI_2, mpI_2, mfI_3, mpI_3, mfI_4, mpI_4, mfI_5, mpI_5, mfI_6, mpI_6, mfI_7, mpI_7, mfI_8, mpI_8, mfI_9, mpI_9, mfI_10, mpI_10, mfI_11, mpI_11, mfN_12, mfZ_13, mpZ_13, mfZ_14, mpZ_14, mfN_15, mfN_16, mfN_17, mfN_18, mfN_19, mfN_20, mfI_21, mpI_21, mfI_22, mpI_22, mfN_23, mfN_24, mfN_25, mfN_26, mfN_27, mfN_28, mfN_29, mfI_30, mpI_30, mfN_31, mfN_32, mfN_33, mfN_34, mfN_35, mfN_36, mfN_37, mfI_38, mpI_38, mfN_39, mfI_40, mpI_40, mfI_41, mpI_41, mgI_1 hA, msI_1 hA, mgI_12 hA, msI_12 hA, mgI_15 hA, msI_15 hA, mgI_16 hA, msI_16 hA, mgI_17 hA, msI_17 hA, mgI_18 hA, msI_18 hA, mgI_19 hA, msI_19 hA, mgI_20 hA, msI_20 hA, mgI_23 hA, msI_23 hA, mgI_24 hA, msI_24 hA, mgI_25 hA, msI_25 hA, mgI_26 hA, msI_26 hA, mgI_27 hA, msI_27 hA, mgI_28 hA, msI_28 hA, mgI_29 hA, msI_29 hA, mgI_31 hA, msI_31 hA, mgI_32 hA, msI_32 hA, mgI_33 hA, msI_33 hA, mgI_34 hA, msI_34 hA, mgI_35 hA, msI_35 hA, mgI_36 hA, msI_36 hA, mgI_39 hA, msI_39 hA, mgJ hA, msJ hA, show (1 : Int32).toNatClampNeg = 1 from rfl]
    have g16 : S2.2.2.1 16 = S.2.2.1 16 := g1.2.2.1 16 (by decide)
    refine ⟨(vin 1 (by decide) (by decide)), tail true (nx B N a) _ (nx_le ha) ((Pm.nx Pm.rf g1).a (by decide)) ((ht.nx g1).sm (Sm.a (ar := [16]) (is := []) (bs := []) Sm.rf (by decide)) (by simp) (by decide)) g2 ((g1.2.1 13 (by simp)).trans hf) ?_ (fun i hi => ?_) ?_ ?_⟩
    · simp only [ms_i, ms_i2, ms_b1, ms_b, ms_b2, ms_a1, ms_a2, ms_a, ms_a3, ms_j1, ms_j2, ms_j3, ms_j, ↓reduceIte, Nat.reduceEqDiff]; exact g1.2.2.1 18 (by decide)
    · simp only [ms_i, ms_i2, ms_b1, ms_b, ms_b2, ms_a1, ms_a2, ms_a, ms_a3, ms_j1, ms_j2, ms_j3, ms_j, ↓reduceIte, Nat.reduceEqDiff]; rw [up_ne hi, g16]
    · simp only [ms_i, ms_i2, ms_b1, ms_b, ms_b2, ms_a1, ms_a2, ms_a, ms_a3, ms_j1, ms_j2, ms_j3, ms_j, ↓reduceIte, Nat.reduceEqDiff]; rw [up_eq]; rfl
    · unfold tabL; rw [if_pos h1']
  · have h1' : isW B N a kwWi = false := h1
    simp only [reduceCtorEq, false_implies, true_implies, forall_const, true_and, and_true, eq_self]
    refine s_X12_must hA (j := 23) rfl ha ht hT hf (fun h2 S2 g1 g2 => ?_) (fun h2 => ?_)
    · have h2' : isW B N a kwLo = true := h2
      have f1 : S.2.2.1 16 1 = 0 := by
        have := hR.1.2.1
        rw [h0] at this
        exact this
      refine tail false (nx B N a) S2 (nx_le ha) (Pm.nx Pm.rf g1) (ht.nx g1) g2 ((g1.2.1 13 (by simp)).trans hf) (g1.2.2.1 18 (by decide)) (fun i _ => by rw [g1.2.2.1 16 (by decide)]) ?_ ?_
      · rw [g1.2.2.1 16 (by decide), f1]; rfl
      · unfold tabL ckW; rw [if_neg (by rw [h1']; decide), h2', ck_t]
    · have h2' : isW B N a kwLo = false := h2
      have hE : tabL B N a T ls = .inl (1, a) := by unfold tabL ckW; rw [if_neg (by rw [h1']; decide), h2', ck_f]
      simp only [F_X12_tableLine_33, F_X12_tableLine_49, F_X12_tableLine_63]
      refine s_X12_takesWord_f rfl ?_
      simp only [reduceCtorEq, false_implies, true_implies, forall_const, true_and, and_true, eq_self, mfI_0, mpI_0, mfN_1, mfI_2, mpI_2, mfI_3, mpI_3, mfI_4, mpI_4, mfI_5, mpI_5, mfI_6, mpI_6, mfI_7, mpI_7, mfI_8, mpI_8, mfI_9, mpI_9, mfI_10, mpI_10, mfI_11, mpI_11, mfN_12, mfZ_13, mpZ_13, mfZ_14, mpZ_14, mfN_15, mfN_16, mfN_17, mfN_18, mfN_19, mfN_20, mfI_21, mpI_21, mfI_22, mpI_22, mfN_23, mfN_24, mfN_25, mfN_26, mfN_27, mfN_28, mfN_29, mfI_30, mpI_30, mfN_31, mfN_32, mfN_33, mfN_34, mfN_35, mfN_36, mfN_37, mfI_38, mpI_38, mfN_39, mfI_40, mpI_40, mfI_41, mpI_41, wr_f]
      exact hK _ (Pm.wr (f := 1) Pm.rf) (by rw [hE]; exact FL.wr)
theorem s_X12_boardLine (hA : okA m A) {a : Nat} (ha : a ≤ N) (hW : WFT T) (hb : T.2.1.length < 3) (hS : PSt B N a T ls S) {K : Hp → Prop} (hK : ∀ S', Pm S S' → PO B N (boaL B N a T ls) S' → K (mh m A S' ρ)) : C_X12_boardLine l G (d + 20) m (mh m A S ρ) K := by
  obtain ⟨ht, hT, hf, hR, hw⟩ := hS
  have hn14 := hW.1.2.1
  have hhb := ht.2.2.1
  have fl78 : ∀ f p (S1 : MS) v1 v2 v3, Pm S S1 → FL f p S1 → boaL B N a T ls = .inl (f, p) → F_X12_boardLine_78 l G (d + 19) m v1 v2 v3 (mh m A S1 ρ) K := by
    intro f p S1 v1 v2 v3 hP h1 hE
    simp only [F_X12_boardLine_78, mfI_0, mpI_0, mfN_1, mfI_2, mpI_2, mfI_3, mpI_3, mfI_4, mpI_4, mfI_5, mpI_5, mfI_6, mpI_6, mfI_7, mpI_7, mfI_8, mpI_8, mfI_9, mpI_9, mfI_10, mpI_10, mfI_11, mpI_11, mfN_12, mfZ_13, mpZ_13, mfZ_14, mpZ_14, mfN_15, mfN_16, mfN_17, mfN_18, mfN_19, mfN_20, mfI_21, mpI_21, mfI_22, mpI_22, mfN_23, mfN_24, mfN_25, mfN_26, mfN_27, mfN_28, mfN_29, mfI_30, mpI_30, mfN_31, mfN_32, mfN_33, mfN_34, mfN_35, mfN_36, mfN_37, mfI_38, mpI_38, mfN_39, mfI_40, mpI_40, mfI_41, mpI_41, h1.1, reduceCtorEq, false_implies, true_implies, forall_const, true_and, and_true, eq_self]
    exact hK S1 hP (by rw [hE]; exact h1)
  have fl4 : ∀ f p (S1 : MS) v1 v2, Pm S S1 → FL f p S1 → boaL B N a T ls = .inl (f, p) → C_X12_numberHere l G (d + 19) m 1 4 (mh m A S1 ρ) fun r35 σ34 => fZ σ34 m 12 13 fun x36 => (x36 = true → F_X12_boardLine_78 l G (d + 19) m v1 v2 r35 σ34 K) ∧ (x36 = false → fN σ34 m 12 16 fun x37 => gI σ34 x37 5 fun x38 => (((x38 + (v2 * r35)) : Int32) ≤ (14 : Int32) → F_X12_boardLine_78 l G (d + 19) m v1 v2 r35 σ34 K) ∧ (¬ ((x38 + (v2 * r35)) : Int32) ≤ (14 : Int32) → fI σ34 m 12 4 fun x39 => C_X12_wrong l G (d + 19) m 4 x39 σ34 fun σ40 => F_X12_boardLine_78 l G (d + 19) m v1 v2 r35 σ40 K)) := by
    intro f p S1 v1 v2 hP h1 hE
    refine s_X12_numberHere_f h1.1 ?_
    simp only [mfI_0, mpI_0, mfN_1, mfI_2, mpI_2, mfI_3, mpI_3, mfI_4, mpI_4, mfI_5, mpI_5, mfI_6, mpI_6, mfI_7, mpI_7, mfI_8, mpI_8, mfI_9, mpI_9, mfI_10, mpI_10, mfI_11, mpI_11, mfN_12, mfZ_13, mpZ_13, mfZ_14, mpZ_14, mfN_15, mfN_16, mfN_17, mfN_18, mfN_19, mfN_20, mfI_21, mpI_21, mfI_22, mpI_22, mfN_23, mfN_24, mfN_25, mfN_26, mfN_27, mfN_28, mfN_29, mfI_30, mpI_30, mfN_31, mfN_32, mfN_33, mfN_34, mfN_35, mfN_36, mfN_37, mfI_38, mpI_38, mfN_39, mfI_40, mpI_40, mfI_41, mpI_41, h1.1, reduceCtorEq, false_implies, true_implies, forall_const, true_and, and_true, eq_self]
    exact fl78 f p S1 _ _ _ hP h1 hE
  refine m_X12_boardLine rv_m ?_
  simp only [F_X12_boardLine, mfI_0, mpI_0, mfN_1, mfI_2, mpI_2, mfI_3, mpI_3, mfI_4, mpI_4, mfI_5, mpI_5, mfI_6, mpI_6, mfI_7, mpI_7, mfI_8, mpI_8, mfI_9, mpI_9, mfI_10, mpI_10, mfI_11, mpI_11, mfN_12, mfZ_13, mpZ_13, mfZ_14, mpZ_14, mfN_15, mfN_16, mfN_17, mfN_18, mfN_19, mfN_20, mfI_21, mpI_21, mfI_22, mpI_22, mfN_23, mfN_24, mfN_25, mfN_26, mfN_27, mfN_28, mfN_29, mfI_30, mpI_30, mfN_31, mfN_32, mfN_33, mfN_34, mfN_35, mfN_36, mfN_37, mfI_38, mpI_38, mfN_39, mfI_40, mpI_40, mfI_41, mpI_41, mgI_1 hA, msI_1 hA, mgI_12 hA, msI_12 hA, mgI_15 hA, msI_15 hA, mgI_16 hA, msI_16 hA, mgI_17 hA, msI_17 hA, mgI_18 hA, msI_18 hA, mgI_19 hA, msI_19 hA, mgI_20 hA, msI_20 hA, mgI_23 hA, msI_23 hA, mgI_24 hA, msI_24 hA, mgI_25 hA, msI_25 hA, mgI_26 hA, msI_26 hA, mgI_27 hA, msI_27 hA, mgI_28 hA, msI_28 hA, mgI_29 hA, msI_29 hA, mgI_31 hA, msI_31 hA, mgI_32 hA, msI_32 hA, mgI_33 hA, msI_33 hA, mgI_34 hA, msI_34 hA, mgI_35 hA, msI_35 hA, mgI_36 hA, msI_36 hA, mgI_39 hA, msI_39 hA, mgJ hA, msJ hA, hf, reduceCtorEq, false_implies, true_implies, forall_const, true_and, and_true, eq_self, show (3 : Int32).toNatClampNeg = 3 from rfl, hR.2.1.1]
  refine ⟨(vin 3 (by decide) (by decide)), ?_⟩
  have flW : ∀ f p (S1 : MS), Pm S S1 → FL f p S1 → boaL B N a T ls = .inl (f, p) → C_X12_must l G (d + 19) m (gK G 29) (mh m A S1 ρ) fun σ28 => C_X12_number l G (d + 19) m 1 8 σ28 fun r31 σ30 => C_X12_must l G (d + 19) m (gK G 30) σ30 fun σ32 => C_X12_numberHere l G (d + 19) m 1 4 σ32 fun r35 σ34 => fZ σ34 m 12 13 fun x36 => (x36 = true → F_X12_boardLine_78 l G (d + 19) m (nI T.2.1.length) r31 r35 σ34 K) ∧ (x36 = false → fN σ34 m 12 16 fun x37 => gI σ34 x37 5 fun x38 => (((x38 + (r31 * r35)) : Int32) ≤ (14 : Int32) → F_X12_boardLine_78 l G (d + 19) m (nI T.2.1.length) r31 r35 σ34 K) ∧ (¬ ((x38 + (r31 * r35)) : Int32) ≤ (14 : Int32) → fI σ34 m 12 4 fun x39 => C_X12_wrong l G (d + 19) m 4 x39 σ34 fun σ40 => F_X12_boardLine_78 l G (d + 19) m (nI T.2.1.length) r31 r35 σ40 K)) := by
    intro f p S1 hP h1 hE
    exact s_X12_must_f h1.1 (s_X12_number_f h1.1 (s_X12_must_f h1.1 (fl4 f p S1 _ _ hP h1 hE)))
  refine s_X12_newName (d := d + 12) hA ha ht hT hf hR hW (n := T.2.1.length) (by omega) (fun n1 n2 S1 n3 n4 n5 => ?_) (fun n1 => ?_) (fun n1 k n2 => ?_)
  · have P1 : Pm S S1 := Pm.of n3 (by decide) (by simp) (by decide)
    have a1 := nx_le (B := B) ha
    have f1 : S1.2.1 13 = false := (n3.2.1 13 (by simp)).trans hf
    have t1 := ht.pm P1
    have hk := nmOK_k n1
    have e1 : ∀ k, ckNm B N a T k = k := fun k => by unfold ckNm; rw [n1, ck_t, n2]; rfl
    refine s_X12_must (d := d + 12) hA (j := 29) rfl a1 t1 n4 f1 (fun m1 S2 m2 m3 => ?_) (fun m1 => ?_)
    · have m1' : isW B N (nx B N a) kwWd = true := m1
      have P2 := P1.nx m2
      have a2 := nx_le (B := B) a1
      have t2 := t1.nx m2
      have f2 : S2.2.1 13 = false := (m2.2.1 13 (by simp)).trans f1
      have e2 : ∀ k, ckW B N (nx B N a) kwWd k = k := fun k => by unfold ckW; rw [m1', ck_t]
      refine s_X12_number (d := d + 16) (lo := 1) (hi := 8) hA t2 m3 a2 f2 (by decide) (by decide) (fun k1 k2 k3 S3 k4 k5 => ?_) (fun k1 => ?_) (fun k1 k2 => ?_)
      · have P3 := P2.nx k4
        have a3 := nx_le (B := B) a2
        have t3 := t2.nx k4
        have f3 : S3.2.1 13 = false := (k4.2.1 13 (by simp)).trans f2
        have e3 : ∀ k, ckN B N (nx B N (nx B N a)) 1 8 k = k := fun k => by unfold ckN; rw [decide_eq_true k1, ck_t, decide_eq_true ⟨k2, k3⟩, ck_t]
        refine s_X12_must (d := d + 12) hA (j := 30) rfl a3 t3 k5 f3 (fun q1 S4 q2 q3 => ?_) (fun q1 => ?_)
        · have q1' : isW B N (nx B N (nx B N (nx B N a))) kwHi = true := q1
          have P4 := P3.nx q2
          have a4 := nx_le (B := B) a3
          have t4 := t3.nx q2
          have f4 : S4.2.1 13 = false := (q2.2.1 13 (by simp)).trans f3
          have e4 : ∀ k, ckW B N (nx B N (nx B N (nx B N a))) kwHi k = k := fun k => by unfold ckW; rw [q1', ck_t]
          refine s_X12_numberHere (d := d + 17) (lo := 1) (hi := 4) q3 hhb a4 f4 (by decide) (by decide) (fun r1 r2 r3 => ?_) (fun r1 => ?_) (fun r1 r2 => ?_)
          · have e5 : ∀ k, ckN B N (nx B N (nx B N (nx B N (nx B N a)))) 1 4 k = k := fun k => by unfold ckN; rw [decide_eq_true r1, ck_t, decide_eq_true ⟨r2, r3⟩, ck_t]
            have h16 : S4.2.2.1 16 = S1.2.2.1 16 := ((q2.2.2.1 16 (by decide)).trans (k4.2.2.1 16 (by decide))).trans (m2.2.2.1 16 (by decide))
            have h18 : S4.2.2.1 18 = S.2.2.1 18 := (((q2.2.2.1 18 (by decide)).trans (k4.2.2.1 18 (by decide))).trans (m2.2.2.1 18 (by decide))).trans (n3.2.2.1 18 (by decide))
            have g5 : S4.2.2.1 16 5 = nI (nsq T.2.1) := by rw [h16]; exact (n5.2.2 5 (by omega) (by omega)).trans hR.2.1.2.2
            have g3 : S4.2.2.1 16 3 = nI T.2.1.length := by rw [h16]; exact (n5.2.2 3 (by omega) (by omega)).trans hR.2.1.1
            have hm : tV B N (nx B N (nx B N a)) * tV B N (nx B N (nx B N (nx B N (nx B N a)))) ≤ 8 * 4 := Nat.mul_le_mul k3 r3
            have hE : boaL B N a T ls = ck (decide (nsq T.2.1 + tV B N (nx B N (nx B N a)) * tV B N (nx B N (nx B N (nx B N (nx B N a)))) ≤ 14)) 4 (nx B N (nx B N (nx B N (nx B N a)))) (.inr (nx B N (nx B N (nx B N (nx B N (nx B N a)))), addB T (tV B N (nx B N (nx B N a))) (tV B N (nx B N (nx B N (nx B N (nx B N a))))) (tw B N a), ls)) := by
              unfold boaL boaW boaH; rw [e1, e2, e3, e4, e5]
            simp only [mfI_0, mpI_0, mfN_1, mfI_2, mpI_2, mfI_3, mpI_3, mfI_4, mpI_4, mfI_5, mpI_5, mfI_6, mpI_6, mfI_7, mpI_7, mfI_8, mpI_8, mfI_9, mpI_9, mfI_10, mpI_10, mfI_11, mpI_11, mfN_12, mfZ_13, mpZ_13, mfZ_14, mpZ_14, mfN_15, mfN_16, mfN_17, mfN_18, mfN_19, mfN_20, mfI_21, mpI_21, mfI_22, mpI_22, mfN_23, mfN_24, mfN_25, mfN_26, mfN_27, mfN_28, mfN_29, mfI_30, mpI_30, mfN_31, mfN_32, mfN_33, mfN_34, mfN_35, mfN_36, mfN_37, mfI_38, mpI_38, mfN_39, mfI_40, mpI_40, mfI_41, mpI_41, mgI_1 hA, msI_1 hA, mgI_12 hA, msI_12 hA, mgI_15 hA, msI_15 hA, mgI_16 hA, msI_16 hA, mgI_17 hA, msI_17 hA, mgI_18 hA, msI_18 hA, mgI_19 hA, msI_19 hA, mgI_20 hA, msI_20 hA, mgI_23 hA, msI_23 hA, mgI_24 hA, msI_24 hA, mgI_25 hA, msI_25 hA, mgI_26 hA, msI_26 hA, mgI_27 hA, msI_27 hA, mgI_28 hA, msI_28 hA, mgI_29 hA, msI_29 hA, mgI_31 hA, msI_31 hA, mgI_32 hA, msI_32 hA, mgI_33 hA, msI_33 hA, mgI_34 hA, msI_34 hA, mgI_35 hA, msI_35 hA, mgI_36 hA, msI_36 hA, mgI_39 hA, msI_39 hA, mgJ hA, msJ hA, f4, reduceCtorEq, false_implies, true_implies, forall_const, true_and, and_true, eq_self, show (5 : Int32).toNatClampNeg = 5 from rfl, g5, nt_mul, nt_add]
            rw [show (14 : Int32) = nI 14 from rfl, nt_le (by omega) (by decide)]
            refine ⟨(vin 5 (by decide) (by decide)), fun h14 => ?_, fun h14 => ?_⟩
            · simp only [F_X12_boardLine_78, mfI_0, mpI_0, mfN_1, mfI_2, mpI_2, mfI_3, mpI_3, mfI_4, mpI_4, mfI_5, mpI_5, mfI_6, mpI_6, mfI_7, mpI_7, mfI_8, mpI_8, mfI_9, mpI_9, mfI_10, mpI_10, mfI_11, mpI_11, mfN_12, mfZ_13, mpZ_13, mfZ_14, mpZ_14, mfN_15, mfN_16, mfN_17, mfN_18, mfN_19, mfN_20, mfI_21, mpI_21, mfI_22, mpI_22, mfN_23, mfN_24, mfN_25, mfN_26, mfN_27, mfN_28, mfN_29, mfI_30, mpI_30, mfN_31, mfN_32, mfN_33, mfN_34, mfN_35, mfN_36, mfN_37, mfI_38, mpI_38, mfN_39, mfI_40, mpI_40, mfI_41, mpI_41, f4, reduceCtorEq, false_implies, true_implies, forall_const, true_and, and_true, eq_self]
              refine s_X12_nx (d := d + 17) hA a4 t4 q3 fun S5 s1 s2 => ?_
              have P5 := P4.nx s1
              have h16' : S5.2.2.1 16 = S1.2.2.1 16 := (s1.2.2.1 16 (by decide)).trans h16
              have g5' : S5.2.2.1 16 5 = nI (nsq T.2.1) := by rw [h16', ← h16]; exact g5
              have g3' : S5.2.2.1 16 3 = nI T.2.1.length := by rw [h16', ← h16]; exact g3
              have c7 : (nI (7 + T.2.1.length)).toNatClampNeg = 7 + T.2.1.length := nI_clamp (by omega)
              have c10 : (nI (10 + T.2.1.length)).toNatClampNeg = 10 + T.2.1.length := nI_clamp (by omega)
              have c13 : (nI (13 + T.2.1.length)).toNatClampNeg = 13 + T.2.1.length := nI_clamp (by omega)
              simp only [mfI_0, mpI_0, mfN_1, mfI_2, mpI_2, mfI_3, mpI_3, mfI_4, mpI_4, mfI_5, mpI_5, mfI_6, mpI_6, mfI_7, mpI_7, mfI_8, mpI_8, mfI_9, mpI_9, mfI_10, mpI_10, mfI_11, mpI_11, mfN_12, mfZ_13, mpZ_13, mfZ_14, mpZ_14, mfN_15, mfN_16, mfN_17, mfN_18, mfN_19, mfN_20, mfI_21, mpI_21, mfI_22, mpI_22, mfN_23, mfN_24, mfN_25, mfN_26, mfN_27, mfN_28, mfN_29, mfI_30, mpI_30, mfN_31, mfN_32, mfN_33, mfN_34, mfN_35, mfN_36, mfN_37, mfI_38, mpI_38, mfN_39, mfI_40, mpI_40, mfI_41, mpI_41, mgI_1 hA, msI_1 hA, mgI_12 hA, msI_12 hA, mgI_15 hA, msI_15 hA, mgI_16 hA, msI_16 hA, mgI_17 hA, msI_17 hA, mgI_18 hA, msI_18 hA, mgI_19 hA, msI_19 hA, mgI_20 hA, msI_20 hA, mgI_23 hA, msI_23 hA, mgI_24 hA, msI_24 hA, mgI_25 hA, msI_25 hA, mgI_26 hA, msI_26 hA, mgI_27 hA, msI_27 hA, mgI_28 hA, msI_28 hA, mgI_29 hA, msI_29 hA, mgI_31 hA, msI_31 hA, mgI_32 hA, msI_32 hA, mgI_33 hA, msI_33 hA, mgI_34 hA, msI_34 hA, mgI_35 hA, msI_35 hA, mgI_36 hA, msI_36 hA, mgI_39 hA, msI_39 hA, mgJ hA, msJ hA, ms_i, ms_i2, ms_b1, ms_b, ms_b2, ms_a1, ms_a2, ms_a, ms_a3, ms_j1, ms_j2, ms_j3, ms_j, ↓reduceIte, Nat.reduceEqDiff, show (7 : Int32) + nI T.2.1.length = nI (7 + T.2.1.length) from nt_add 7 _, show (10 : Int32) + nI T.2.1.length = nI (10 + T.2.1.length) from nt_add 10 _, show (13 : Int32) + nI T.2.1.length = nI (13 + T.2.1.length) from nt_add 13 _, c7, c10, c13, show (5 : Int32).toNatClampNeg = 5 from rfl, show (3 : Int32).toNatClampNeg = 3 from rfl]
              refine ⟨(nt_in (by omega)).mpr (by omega), (nt_in (by omega)).mpr (by omega), (vin 5 (by decide) (by decide)), (nt_in (by omega)).mpr (by omega), (vin 5 (by decide) (by decide)), (vin 5 (by decide) (by decide)), (vin 3 (by decide) (by decide)), (vin 3 (by decide) (by decide)), hK _ ((((((P5.a (by decide)).a (by decide)).a (by decide)).a (by decide)).a (by decide))) ?_⟩
              rw [hE, decide_eq_true h14, ck_t]
              refine ⟨?_, s2, (s1.2.1 13 (by simp)).trans f4, ?_, ?_⟩
              · exact (t4.nx s1).sm (is := []) (bs := []) (ar := [16]) (((((Sm.rf.a (by decide)).a (by decide)).a (by decide)).a (by decide)).a (by decide)) (by simp) (by decide)
              · simp only [ms_i, ms_i2, ms_b1, ms_b, ms_b2, ms_a1, ms_a2, ms_a, ms_a3, ms_j1, ms_j2, ms_j3, ms_j, ↓reduceIte, Nat.reduceEqDiff]
                refine TR.addB hW hR hb n5 (tw_NM ha hk).2.1 ?_ ?_ ?_ ?_ ?_ fun i i1 i2 i3 i4 i5 => ?_
                · rw [up_eq, up_ne (by omega), up_ne (by omega), up_ne (by omega), up_ne (by omega), g3']; exact nt_add _ 1
                · rw [up_ne (by omega), up_eq, up_ne (by omega), up_ne (by omega), up_ne (by omega), g5', nt_mul, nt_add]
                · rw [up_ne (by omega), up_ne (by omega), up_ne (by omega), up_ne (by omega), up_eq]
                · rw [up_ne (by omega), up_ne (by omega), up_ne (by omega), up_eq]
                · rw [up_ne (by omega), up_ne (by omega), up_eq, up_ne (by omega), up_ne (by omega), g5']
                · rw [up_ne i1, up_ne i2, up_ne i5, up_ne i4, up_ne i3, h16']
              · simp only [ms_i, ms_i2, ms_b1, ms_b, ms_b2, ms_a1, ms_a2, ms_a, ms_a3, ms_j1, ms_j2, ms_j3, ms_j, ↓reduceIte, Nat.reduceEqDiff]
                rw [s1.2.2.1 18 (by decide), h18]
                exact hw
            · simp only [mfI_0, mpI_0, mfN_1, mfI_2, mpI_2, mfI_3, mpI_3, mfI_4, mpI_4, mfI_5, mpI_5, mfI_6, mpI_6, mfI_7, mpI_7, mfI_8, mpI_8, mfI_9, mpI_9, mfI_10, mpI_10, mfI_11, mpI_11, mfN_12, mfZ_13, mpZ_13, mfZ_14, mpZ_14, mfN_15, mfN_16, mfN_17, mfN_18, mfN_19, mfN_20, mfI_21, mpI_21, mfI_22, mpI_22, mfN_23, mfN_24, mfN_25, mfN_26, mfN_27, mfN_28, mfN_29, mfI_30, mpI_30, mfN_31, mfN_32, mfN_33, mfN_34, mfN_35, mfN_36, mfN_37, mfI_38, mpI_38, mfN_39, mfI_40, mpI_40, mfI_41, mpI_41, q3.1]
              refine s_X12_wrong (d := d + 18) (a := nx B N (nx B N (nx B N (nx B N a)))) f4 ?_
              refine fl78 4 _ _ _ _ _ (P4.wr (f := 4)) FL.wr ?_
              rw [hE, decide_eq_false h14, ck_f]
          · simp only [mfI_0, mpI_0, mfN_1, mfI_2, mpI_2, mfI_3, mpI_3, mfI_4, mpI_4, mfI_5, mpI_5, mfI_6, mpI_6, mfI_7, mpI_7, mfI_8, mpI_8, mfI_9, mpI_9, mfI_10, mpI_10, mfI_11, mpI_11, mfN_12, mfZ_13, mpZ_13, mfZ_14, mpZ_14, mfN_15, mfN_16, mfN_17, mfN_18, mfN_19, mfN_20, mfI_21, mpI_21, mfI_22, mpI_22, mfN_23, mfN_24, mfN_25, mfN_26, mfN_27, mfN_28, mfN_29, mfI_30, mpI_30, mfN_31, mfN_32, mfN_33, mfN_34, mfN_35, mfN_36, mfN_37, mfI_38, mpI_38, mfN_39, mfI_40, mpI_40, mfI_41, mpI_41, wr_f, reduceCtorEq, false_implies, true_implies, forall_const, true_and, and_true, eq_self]
            refine fl78 1 _ _ _ _ _ (P4.wr (f := 1)) FL.wr ?_
            unfold boaL boaW boaH ckN; rw [e1, e2]; unfold ckN at e3; rw [e3, e4, decide_eq_false r1, ck_f]
          · simp only [mfI_0, mpI_0, mfN_1, mfI_2, mpI_2, mfI_3, mpI_3, mfI_4, mpI_4, mfI_5, mpI_5, mfI_6, mpI_6, mfI_7, mpI_7, mfI_8, mpI_8, mfI_9, mpI_9, mfI_10, mpI_10, mfI_11, mpI_11, mfN_12, mfZ_13, mpZ_13, mfZ_14, mpZ_14, mfN_15, mfN_16, mfN_17, mfN_18, mfN_19, mfN_20, mfI_21, mpI_21, mfI_22, mpI_22, mfN_23, mfN_24, mfN_25, mfN_26, mfN_27, mfN_28, mfN_29, mfI_30, mpI_30, mfN_31, mfN_32, mfN_33, mfN_34, mfN_35, mfN_36, mfN_37, mfI_38, mpI_38, mfN_39, mfI_40, mpI_40, mfI_41, mpI_41, wr_f, reduceCtorEq, false_implies, true_implies, forall_const, true_and, and_true, eq_self]
            refine fl78 4 _ _ _ _ _ (P4.wr (f := 4)) FL.wr ?_
            unfold boaL boaW boaH ckN; rw [e1, e2]; unfold ckN at e3; rw [e3, e4, decide_eq_true r1, ck_t, decide_eq_false r2, ck_f]
        · have q1' : isW B N (nx B N (nx B N (nx B N a))) kwHi = false := q1
          refine fl4 1 _ _ _ _ (P3.wr (f := 1)) FL.wr ?_
          unfold boaL boaW; rw [e1, e2, e3]; unfold ckW; rw [q1', ck_f]
      · refine s_X12_must_f wr_f (fl4 1 _ _ _ _ (P2.wr (f := 1)) FL.wr ?_)
        unfold boaL boaW ckN; rw [e1, e2, decide_eq_false k1, ck_f]
      · refine s_X12_must_f wr_f (fl4 4 _ _ _ _ (P2.wr (f := 4)) FL.wr ?_)
        unfold boaL boaW ckN; rw [e1, e2, decide_eq_true k1, ck_t, decide_eq_false k2, ck_f]
    · have m1' : isW B N (nx B N a) kwWd = false := m1
      refine s_X12_number_f wr_f (s_X12_must_f wr_f (fl4 1 _ _ _ _ (P1.wr (f := 1)) FL.wr ?_))
      unfold boaL; rw [e1]; unfold ckW; rw [m1', ck_f]
  · refine flW 1 _ _ (Pm.wr (f := 1) Pm.rf) FL.wr ?_
    unfold boaL ckNm; rw [n1, ck_f]
  · refine flW 3 _ _ (Pm.wr (f := 3) Pm.rf) FL.wr ?_
    unfold boaL ckNm; rw [n1, ck_t, n2]; rfl
theorem s_X12_jugLine (hA : okA m A) {a : Nat} (ha : a ≤ N) (hW : WFT T) (hS : PSt B N a T ls S) {K : Hp → Prop} (hK : ∀ S', Pm S S' → PO B N (jugL B N a T ls) S' → K (mh m A S' ρ)) : C_X12_jugLine l G (d + 20) m (mh m A S ρ) K := by
  obtain ⟨ht, hT, hf, hR, hw⟩ := hS
  have hn14 := hW.1.2.1
  have hhb := ht.2.2.1
  have fl159 : ∀ f p (S1 : MS) v4, Pm S S1 → FL f p S1 → jugL B N a T ls = .inl (f, p) → F_X12_jugLine_159 l G (d + 19) m v4 (mh m A S1 ρ) K := by
    intro f p S1 v4 hP h1 hE
    simp only [F_X12_jugLine_159, mfI_0, mpI_0, mfN_1, mfI_2, mpI_2, mfI_3, mpI_3, mfI_4, mpI_4, mfI_5, mpI_5, mfI_6, mpI_6, mfI_7, mpI_7, mfI_8, mpI_8, mfI_9, mpI_9, mfI_10, mpI_10, mfI_11, mpI_11, mfN_12, mfZ_13, mpZ_13, mfZ_14, mpZ_14, mfN_15, mfN_16, mfN_17, mfN_18, mfN_19, mfN_20, mfI_21, mpI_21, mfI_22, mpI_22, mfN_23, mfN_24, mfN_25, mfN_26, mfN_27, mfN_28, mfN_29, mfI_30, mpI_30, mfN_31, mfN_32, mfN_33, mfN_34, mfN_35, mfN_36, mfN_37, mfI_38, mpI_38, mfN_39, mfI_40, mpI_40, mfI_41, mpI_41, h1.1, reduceCtorEq, false_implies, true_implies, forall_const, true_and, and_true, eq_self]
    exact hK S1 hP (by rw [hE]; exact h1)
  have fl53 : ∀ f p (S1 : MS) v1, Pm S S1 → FL f p S1 → jugL B N a T ls = .inl (f, p) → F_X12_jugLine_53 l G (d + 19) m v1 (mh m A S1 ρ) K := by
    intro f p S1 v4 hP h1 hE
    simp only [F_X12_jugLine_53, mfI_0, mpI_0, mfN_1, mfI_2, mpI_2, mfI_3, mpI_3, mfI_4, mpI_4, mfI_5, mpI_5, mfI_6, mpI_6, mfI_7, mpI_7, mfI_8, mpI_8, mfI_9, mpI_9, mfI_10, mpI_10, mfI_11, mpI_11, mfN_12, mfZ_13, mpZ_13, mfZ_14, mpZ_14, mfN_15, mfN_16, mfN_17, mfN_18, mfN_19, mfN_20, mfI_21, mpI_21, mfI_22, mpI_22, mfN_23, mfN_24, mfN_25, mfN_26, mfN_27, mfN_28, mfN_29, mfI_30, mpI_30, mfN_31, mfN_32, mfN_33, mfN_34, mfN_35, mfN_36, mfN_37, mfI_38, mpI_38, mfN_39, mfI_40, mpI_40, mfI_41, mpI_41, h1.1, reduceCtorEq, false_implies, true_implies, forall_const, true_and, and_true, eq_self]
    exact hK S1 hP (by rw [hE]; exact h1)
  refine m_X12_jugLine rv_m ?_
  simp only [F_X12_jugLine, mfI_0, mpI_0, mfN_1, mfI_2, mpI_2, mfI_3, mpI_3, mfI_4, mpI_4, mfI_5, mpI_5, mfI_6, mpI_6, mfI_7, mpI_7, mfI_8, mpI_8, mfI_9, mpI_9, mfI_10, mpI_10, mfI_11, mpI_11, mfN_12, mfZ_13, mpZ_13, mfZ_14, mpZ_14, mfN_15, mfN_16, mfN_17, mfN_18, mfN_19, mfN_20, mfI_21, mpI_21, mfI_22, mpI_22, mfN_23, mfN_24, mfN_25, mfN_26, mfN_27, mfN_28, mfN_29, mfI_30, mpI_30, mfN_31, mfN_32, mfN_33, mfN_34, mfN_35, mfN_36, mfN_37, mfI_38, mpI_38, mfN_39, mfI_40, mpI_40, mfI_41, mpI_41, hf, reduceCtorEq, false_implies, true_implies, forall_const, true_and, and_true, eq_self]
  refine s_X12_mustName (d := d + 13) hA ha ht hT hf (fun n1 => ?_) (fun n1 => ?_)
  · have e1 : ∀ k, ck (nmOK B N a) 1 a k = k := fun k => by rw [n1, ck_t]
    have hk := nmOK_k n1
    simp only [mfI_0, mpI_0, mfN_1, mfI_2, mpI_2, mfI_3, mpI_3, mfI_4, mpI_4, mfI_5, mpI_5, mfI_6, mpI_6, mfI_7, mpI_7, mfI_8, mpI_8, mfI_9, mpI_9, mfI_10, mpI_10, mfI_11, mpI_11, mfN_12, mfZ_13, mpZ_13, mfZ_14, mpZ_14, mfN_15, mfN_16, mfN_17, mfN_18, mfN_19, mfN_20, mfI_21, mpI_21, mfI_22, mpI_22, mfN_23, mfN_24, mfN_25, mfN_26, mfN_27, mfN_28, mfN_29, mfI_30, mpI_30, mfN_31, mfN_32, mfN_33, mfN_34, mfN_35, mfN_36, mfN_37, mfI_38, mpI_38, mfN_39, mfI_40, mpI_40, mfI_41, mpI_41, hf, reduceCtorEq, false_implies, true_implies, forall_const, true_and, and_true, eq_self]
    refine s_X12_find (d := d + 18) hA hhb hR hW hk hT ?_
    have bad : ((findN T (tw B N a) 7 0).bind fun k => if k < 3 then T.2.1[k]? else none) = none → ∀ v, F_X12_jugLine_53 l G (d + 19) m v (mh m A (wr S 2 a) ρ) K := by
      intro h v
      refine fl53 2 _ _ _ (Pm.wr (f := 2) Pm.rf) FL.wr ?_
      unfold jugL; rw [e1, h]
    cases hfd : findN T (tw B N a) 7 0 with
    | none =>
      simp only [F_X12_jugLine_27, mfI_0, mpI_0, mfN_1, mfI_2, mpI_2, mfI_3, mpI_3, mfI_4, mpI_4, mfI_5, mpI_5, mfI_6, mpI_6, mfI_7, mpI_7, mfI_8, mpI_8, mfI_9, mpI_9, mfI_10, mpI_10, mfI_11, mpI_11, mfN_12, mfZ_13, mpZ_13, mfZ_14, mpZ_14, mfN_15, mfN_16, mfN_17, mfN_18, mfN_19, mfN_20, mfI_21, mpI_21, mfI_22, mpI_22, mfN_23, mfN_24, mfN_25, mfN_26, mfN_27, mfN_28, mfN_29, mfI_30, mpI_30, mfN_31, mfN_32, mfN_33, mfN_34, mfN_35, mfN_36, mfN_37, mfI_38, mpI_38, mfN_39, mfI_40, mpI_40, mfI_41, mpI_41, hf, reduceCtorEq, false_implies, true_implies, forall_const, true_and, and_true, eq_self]
      refine s_X12_inR 0 2 ?_
      rw [show inR (optI none) 0 2 = false by decide]
      simp only [reduceCtorEq, false_implies, true_implies, forall_const, true_and, and_true, eq_self, mfI_0, mpI_0, mfN_1, mfI_2, mpI_2, mfI_3, mpI_3, mfI_4, mpI_4, mfI_5, mpI_5, mfI_6, mpI_6, mfI_7, mpI_7, mfI_8, mpI_8, mfI_9, mpI_9, mfI_10, mpI_10, mfI_11, mpI_11, mfN_12, mfZ_13, mpZ_13, mfZ_14, mpZ_14, mfN_15, mfN_16, mfN_17, mfN_18, mfN_19, mfN_20, mfI_21, mpI_21, mfI_22, mpI_22, mfN_23, mfN_24, mfN_25, mfN_26, mfN_27, mfN_28, mfN_29, mfI_30, mpI_30, mfN_31, mfN_32, mfN_33, mfN_34, mfN_35, mfN_36, mfN_37, mfI_38, mpI_38, mfN_39, mfI_40, mpI_40, mfI_41, mpI_41, hT.1]
      exact s_X12_wrong (d := d + 18) hf (bad (by rw [hfd]; rfl) _)
    | some k =>
      obtain ⟨-, k7, hnk⟩ := findN_lt _ _ _ hfd
      simp only [F_X12_jugLine_27, mfI_0, mpI_0, mfN_1, mfI_2, mpI_2, mfI_3, mpI_3, mfI_4, mpI_4, mfI_5, mpI_5, mfI_6, mpI_6, mfI_7, mpI_7, mfI_8, mpI_8, mfI_9, mpI_9, mfI_10, mpI_10, mfI_11, mpI_11, mfN_12, mfZ_13, mpZ_13, mfZ_14, mpZ_14, mfN_15, mfN_16, mfN_17, mfN_18, mfN_19, mfN_20, mfI_21, mpI_21, mfI_22, mpI_22, mfN_23, mfN_24, mfN_25, mfN_26, mfN_27, mfN_28, mfN_29, mfI_30, mpI_30, mfN_31, mfN_32, mfN_33, mfN_34, mfN_35, mfN_36, mfN_37, mfI_38, mpI_38, mfN_39, mfI_40, mpI_40, mfI_41, mpI_41, hf, reduceCtorEq, false_implies, true_implies, forall_const, true_and, and_true, eq_self]
      refine s_X12_inR 0 2 ?_
      have hin : inR (optI (some k)) 0 2 = decide (k ≤ 2) := by
        show inR (nI k) 0 2 = decide (k ≤ 2)
        unfold inR
        rw [decide_eq_decide, nt_lt (by omega) (by decide), nt_lt (by decide) (by omega)]
        omega
      rw [hin]
      by_cases hk2 : k ≤ 2
      · rw [decide_eq_true hk2]
        simp only [reduceCtorEq, false_implies, true_implies, forall_const, true_and, and_true, eq_self]
        obtain ⟨b, hb⟩ : ∃ b, T.2.1[k]? = some b := by
          unfold nms at hnk
          rw [if_pos (by omega), Option.map_eq_some_iff] at hnk
          exact ⟨_, hnk.choose_spec.1⟩
        have hbnd : ((findN T (tw B N a) 7 0).bind fun k => if k < 3 then T.2.1[k]? else none) = some b := by
          rw [hfd, Option.bind_some, if_pos (by omega), hb]
        have hE0 : jugL B N a T ls = jugX B N (nx B N a) b T ls := by unfold jugL; rw [e1, hbnd]
        obtain ⟨k3, w1, w2, w3, w4⟩ := WFB.bd hW hb
        obtain ⟨q1, q2⟩ := WFB.sq hW hb
        obtain ⟨r0, r1, r2⟩ := hR.2.2.2.1 k b hb
        have c7 : (nI (7 + k)).toNatClampNeg = 7 + k := nI_clamp (by omega)
        have c10 : (nI (10 + k)).toNatClampNeg = 10 + k := nI_clamp (by omega)
        have c13 : (nI (13 + k)).toNatClampNeg = 13 + k := nI_clamp (by omega)
        simp only [F_X12_jugLine_53, mfI_0, mpI_0, mfN_1, mfI_2, mpI_2, mfI_3, mpI_3, mfI_4, mpI_4, mfI_5, mpI_5, mfI_6, mpI_6, mfI_7, mpI_7, mfI_8, mpI_8, mfI_9, mpI_9, mfI_10, mpI_10, mfI_11, mpI_11, mfN_12, mfZ_13, mpZ_13, mfZ_14, mpZ_14, mfN_15, mfN_16, mfN_17, mfN_18, mfN_19, mfN_20, mfI_21, mpI_21, mfI_22, mpI_22, mfN_23, mfN_24, mfN_25, mfN_26, mfN_27, mfN_28, mfN_29, mfI_30, mpI_30, mfN_31, mfN_32, mfN_33, mfN_34, mfN_35, mfN_36, mfN_37, mfI_38, mpI_38, mfN_39, mfI_40, mpI_40, mfI_41, mpI_41, hf, reduceCtorEq, false_implies, true_implies, forall_const, true_and, and_true, eq_self]
        refine s_X12_nx (d := d + 17) hA ha ht hT fun S1 m2 m3 => ?_
        have P1 := Pm.nx Pm.rf m2
        have a1 := nx_le (B := B) ha
        have t1 := ht.nx m2
        have f1 : S1.2.1 13 = false := (m2.2.1 13 (by simp)).trans hf
        have h16 : S1.2.2.1 16 = S.2.2.1 16 := m2.2.2.1 16 (by decide)
        simp only [mfI_0, mpI_0, mfN_1, mfI_2, mpI_2, mfI_3, mpI_3, mfI_4, mpI_4, mfI_5, mpI_5, mfI_6, mpI_6, mfI_7, mpI_7, mfI_8, mpI_8, mfI_9, mpI_9, mfI_10, mpI_10, mfI_11, mpI_11, mfN_12, mfZ_13, mpZ_13, mfZ_14, mpZ_14, mfN_15, mfN_16, mfN_17, mfN_18, mfN_19, mfN_20, mfI_21, mpI_21, mfI_22, mpI_22, mfN_23, mfN_24, mfN_25, mfN_26, mfN_27, mfN_28, mfN_29, mfI_30, mpI_30, mfN_31, mfN_32, mfN_33, mfN_34, mfN_35, mfN_36, mfN_37, mfI_38, mpI_38, mfN_39, mfI_40, mpI_40, mfI_41, mpI_41, mgI_1 hA, msI_1 hA, mgI_12 hA, msI_12 hA, mgI_15 hA, msI_15 hA, mgI_16 hA, msI_16 hA, mgI_17 hA, msI_17 hA, mgI_18 hA, msI_18 hA, mgI_19 hA, msI_19 hA, mgI_20 hA, msI_20 hA, mgI_23 hA, msI_23 hA, mgI_24 hA, msI_24 hA, mgI_25 hA, msI_25 hA, mgI_26 hA, msI_26 hA, mgI_27 hA, msI_27 hA, mgI_28 hA, msI_28 hA, mgI_29 hA, msI_29 hA, mgI_31 hA, msI_31 hA, mgI_32 hA, msI_32 hA, mgI_33 hA, msI_33 hA, mgI_34 hA, msI_34 hA, mgI_35 hA, msI_35 hA, mgI_36 hA, msI_36 hA, mgI_39 hA, msI_39 hA, mgJ hA, msJ hA, show (7 : Int32) + nI k = nI (7 + k) from nt_add 7 k, show (10 : Int32) + nI k = nI (10 + k) from nt_add 10 k, show (13 : Int32) + nI k = nI (13 + k) from nt_add 13 k, optI, c7, c10, c13, h16, r0]
        refine ⟨(nt_in (by omega)).mpr (by omega), ?_⟩
        rw [show (nI b.1 - 1 : Int32) = nI (b.1 - 1) from nt_sub (b := 1) (by omega) (by omega)]
        have flY : ∀ f p (S2 : MS) (v : Int32), Pm S S2 → FL f p S2 → jugL B N a T ls = .inl (f, p) → (vp_in (nI (10 + k)) 100 ∧ C_X12_numberHere l G (d + 19) m 0 (S2.2.2.1 16 (10 + k) - 1) (mh m A S2 ρ) fun r24 σ23 => fN σ23 m 12 16 fun x25 => gI σ23 x25 (nI (13 + k)) fun x26 => fN σ23 m 12 16 fun x27 => gI σ23 x27 (nI (7 + k)) fun x28 => fZ σ23 m 12 13 fun x29 => (x29 = true → F_X12_jugLine_159 l G (d + 19) m ((x26 + (x28 * r24)) + v) σ23 K) ∧ (x29 = false → fN σ23 m 12 16 fun x30 => gI σ23 x30 16 fun x31 => C_X12_hasBit l G (d + 19) x31 ((x26 + (x28 * r24)) + v) σ23 fun r33 σ32 => (r33 = false → F_X12_jugLine_159 l G (d + 19) m ((x26 + (x28 * r24)) + v) σ32 K) ∧ (r33 = true → fI σ32 m 12 4 fun x34 => C_X12_wrong l G (d + 19) m 3 x34 σ32 fun σ35 => F_X12_jugLine_159 l G (d + 19) m ((x26 + (x28 * r24)) + v) σ35 K))) := by
          intro f p S2 v hP h1 hE
          refine ⟨(nt_in (by omega)).mpr (by omega), s_X12_numberHere_f h1.1 ?_⟩
          simp only [mfI_0, mpI_0, mfN_1, mfI_2, mpI_2, mfI_3, mpI_3, mfI_4, mpI_4, mfI_5, mpI_5, mfI_6, mpI_6, mfI_7, mpI_7, mfI_8, mpI_8, mfI_9, mpI_9, mfI_10, mpI_10, mfI_11, mpI_11, mfN_12, mfZ_13, mpZ_13, mfZ_14, mpZ_14, mfN_15, mfN_16, mfN_17, mfN_18, mfN_19, mfN_20, mfI_21, mpI_21, mfI_22, mpI_22, mfN_23, mfN_24, mfN_25, mfN_26, mfN_27, mfN_28, mfN_29, mfI_30, mpI_30, mfN_31, mfN_32, mfN_33, mfN_34, mfN_35, mfN_36, mfN_37, mfI_38, mpI_38, mfN_39, mfI_40, mpI_40, mfI_41, mpI_41, mgI_1 hA, msI_1 hA, mgI_12 hA, msI_12 hA, mgI_15 hA, msI_15 hA, mgI_16 hA, msI_16 hA, mgI_17 hA, msI_17 hA, mgI_18 hA, msI_18 hA, mgI_19 hA, msI_19 hA, mgI_20 hA, msI_20 hA, mgI_23 hA, msI_23 hA, mgI_24 hA, msI_24 hA, mgI_25 hA, msI_25 hA, mgI_26 hA, msI_26 hA, mgI_27 hA, msI_27 hA, mgI_28 hA, msI_28 hA, mgI_29 hA, msI_29 hA, mgI_31 hA, msI_31 hA, mgI_32 hA, msI_32 hA, mgI_33 hA, msI_33 hA, mgI_34 hA, msI_34 hA, mgI_35 hA, msI_35 hA, mgI_36 hA, msI_36 hA, mgI_39 hA, msI_39 hA, mgJ hA, msJ hA, h1.1, reduceCtorEq, false_implies, true_implies, forall_const, true_and, and_true, eq_self]
          exact ⟨(nt_in (by omega)).mpr (by omega), (nt_in (by omega)).mpr (by omega), fl159 f p S2 _ hP h1 hE⟩
        refine s_X12_number (d := d + 16) (lo := 0) (hi := b.1 - 1) hA t1 m3 a1 f1 (by decide) (by omega) (fun x1 x2 x3 S2 x4 x5 => ?_) (fun x1 => ?_) (fun x1 x2 => ?_)
        · have P2 := P1.nx x4
          have a2 := nx_le (B := B) a1
          have t2 := t1.nx x4
          have f2 : S2.2.1 13 = false := (x4.2.1 13 (by simp)).trans f1
          have e2 : ∀ k, ckN B N (nx B N a) 0 (b.1 - 1) k = k := fun k => by unfold ckN; rw [decide_eq_true x1, ck_t, decide_eq_true ⟨x2, x3⟩, ck_t]
          refine s_X12_mustComma (d := d + 16) hA a2 t2 x5 f2 (fun y1 S3 y2 y3 => ?_) (fun y1 => ?_)
          · have P3 := P2.nx y2
            have a3 := nx_le (B := B) a2
            have t3 := t2.nx y2
            have f3 : S3.2.1 13 = false := (y2.2.1 13 (by simp)).trans f2
            have h163 : S3.2.2.1 16 = S.2.2.1 16 := ((y2.2.2.1 16 (by decide)).trans (x4.2.2.1 16 (by decide))).trans h16
            have h183 : S3.2.2.1 18 = S.2.2.1 18 := ((y2.2.2.1 18 (by decide)).trans (x4.2.2.1 18 (by decide))).trans (m2.2.2.1 18 (by decide))
            simp only [mfI_0, mpI_0, mfN_1, mfI_2, mpI_2, mfI_3, mpI_3, mfI_4, mpI_4, mfI_5, mpI_5, mfI_6, mpI_6, mfI_7, mpI_7, mfI_8, mpI_8, mfI_9, mpI_9, mfI_10, mpI_10, mfI_11, mpI_11, mfN_12, mfZ_13, mpZ_13, mfZ_14, mpZ_14, mfN_15, mfN_16, mfN_17, mfN_18, mfN_19, mfN_20, mfI_21, mpI_21, mfI_22, mpI_22, mfN_23, mfN_24, mfN_25, mfN_26, mfN_27, mfN_28, mfN_29, mfI_30, mpI_30, mfN_31, mfN_32, mfN_33, mfN_34, mfN_35, mfN_36, mfN_37, mfI_38, mpI_38, mfN_39, mfI_40, mpI_40, mfI_41, mpI_41, mgI_1 hA, msI_1 hA, mgI_12 hA, msI_12 hA, mgI_15 hA, msI_15 hA, mgI_16 hA, msI_16 hA, mgI_17 hA, msI_17 hA, mgI_18 hA, msI_18 hA, mgI_19 hA, msI_19 hA, mgI_20 hA, msI_20 hA, mgI_23 hA, msI_23 hA, mgI_24 hA, msI_24 hA, mgI_25 hA, msI_25 hA, mgI_26 hA, msI_26 hA, mgI_27 hA, msI_27 hA, mgI_28 hA, msI_28 hA, mgI_29 hA, msI_29 hA, mgI_31 hA, msI_31 hA, mgI_32 hA, msI_32 hA, mgI_33 hA, msI_33 hA, mgI_34 hA, msI_34 hA, mgI_35 hA, msI_35 hA, mgI_36 hA, msI_36 hA, mgI_39 hA, msI_39 hA, mgJ hA, msJ hA, c10, h163, r1]
            refine ⟨(nt_in (by omega)).mpr (by omega), ?_⟩
            rw [show (nI b.2.1 - 1 : Int32) = nI (b.2.1 - 1) from nt_sub (b := 1) (by omega) (by omega)]
            have e3 : jugL B N a T ls = jugY B N (nx B N (nx B N (nx B N a))) (tV B N (nx B N a)) b T ls := by
              rw [hE0]; unfold jugX; rw [e2, decide_eq_true y1, ck_t]
            refine s_X12_numberHere (d := d + 17) (lo := 0) (hi := b.2.1 - 1) y3 hhb a3 f3 (by decide) (by omega) (fun z1 z2 z3 => ?_) (fun z1 => ?_) (fun z1 z2 => ?_)
            · have m1 : b.1 * (tV B N (nx B N (nx B N (nx B N a))) + 1) ≤ b.1 * b.2.1 := Nat.mul_le_mul_left _ (by omega)
              rw [Nat.mul_add, Nat.mul_one] at m1
              have hj := hW.2.2
              have hj14 := tb_j hW
              have hE : jugL B N a T ls = ck (!T.2.2.2.testBit (b.2.2.1 + b.1 * tV B N (nx B N (nx B N (nx B N a))) + tV B N (nx B N a))) 3 (nx B N (nx B N (nx B N a))) (.inr (nx B N (nx B N (nx B N (nx B N a))), addJ T (b.2.2.1 + b.1 * tV B N (nx B N (nx B N (nx B N a))) + tV B N (nx B N a)), ls)) := by
                rw [e3]; unfold jugY ckN; rw [decide_eq_true z1, ck_t, decide_eq_true ⟨z2, z3⟩, ck_t]
              simp only [mfI_0, mpI_0, mfN_1, mfI_2, mpI_2, mfI_3, mpI_3, mfI_4, mpI_4, mfI_5, mpI_5, mfI_6, mpI_6, mfI_7, mpI_7, mfI_8, mpI_8, mfI_9, mpI_9, mfI_10, mpI_10, mfI_11, mpI_11, mfN_12, mfZ_13, mpZ_13, mfZ_14, mpZ_14, mfN_15, mfN_16, mfN_17, mfN_18, mfN_19, mfN_20, mfI_21, mpI_21, mfI_22, mpI_22, mfN_23, mfN_24, mfN_25, mfN_26, mfN_27, mfN_28, mfN_29, mfI_30, mpI_30, mfN_31, mfN_32, mfN_33, mfN_34, mfN_35, mfN_36, mfN_37, mfI_38, mpI_38, mfN_39, mfI_40, mpI_40, mfI_41, mpI_41, mgI_1 hA, msI_1 hA, mgI_12 hA, msI_12 hA, mgI_15 hA, msI_15 hA, mgI_16 hA, msI_16 hA, mgI_17 hA, msI_17 hA, mgI_18 hA, msI_18 hA, mgI_19 hA, msI_19 hA, mgI_20 hA, msI_20 hA, mgI_23 hA, msI_23 hA, mgI_24 hA, msI_24 hA, mgI_25 hA, msI_25 hA, mgI_26 hA, msI_26 hA, mgI_27 hA, msI_27 hA, mgI_28 hA, msI_28 hA, mgI_29 hA, msI_29 hA, mgI_31 hA, msI_31 hA, mgI_32 hA, msI_32 hA, mgI_33 hA, msI_33 hA, mgI_34 hA, msI_34 hA, mgI_35 hA, msI_35 hA, mgI_36 hA, msI_36 hA, mgI_39 hA, msI_39 hA, mgJ hA, msJ hA, f3, reduceCtorEq, false_implies, true_implies, forall_const, true_and, and_true, eq_self, c7, c13, h163, r0, r2, show (16 : Int32).toNatClampNeg = 16 from rfl, hR.2.2.1.2, nt_mul, nt_add]
              refine ⟨(nt_in (by omega)).mpr (by omega), (nt_in (by omega)).mpr (by omega), (vin 16 (by decide) (by decide)), ?_⟩
              refine s_X12_hasBit (d := d + 18) (by omega) (by omega) ⟨fun h5 => ?_, fun h5 => ?_⟩
              · simp only [F_X12_jugLine_159, mfI_0, mpI_0, mfN_1, mfI_2, mpI_2, mfI_3, mpI_3, mfI_4, mpI_4, mfI_5, mpI_5, mfI_6, mpI_6, mfI_7, mpI_7, mfI_8, mpI_8, mfI_9, mpI_9, mfI_10, mpI_10, mfI_11, mpI_11, mfN_12, mfZ_13, mpZ_13, mfZ_14, mpZ_14, mfN_15, mfN_16, mfN_17, mfN_18, mfN_19, mfN_20, mfI_21, mpI_21, mfI_22, mpI_22, mfN_23, mfN_24, mfN_25, mfN_26, mfN_27, mfN_28, mfN_29, mfI_30, mpI_30, mfN_31, mfN_32, mfN_33, mfN_34, mfN_35, mfN_36, mfN_37, mfI_38, mpI_38, mfN_39, mfI_40, mpI_40, mfI_41, mpI_41, f3, reduceCtorEq, false_implies, true_implies, forall_const, true_and, and_true, eq_self]
                refine s_X12_nx (d := d + 17) hA a3 t3 y3 fun S5 s1 s2 => ?_
                have P5 := P3.nx s1
                have h165 : S5.2.2.1 16 = S.2.2.1 16 := (s1.2.2.1 16 (by decide)).trans h163
                simp only [mfI_0, mpI_0, mfN_1, mfI_2, mpI_2, mfI_3, mpI_3, mfI_4, mpI_4, mfI_5, mpI_5, mfI_6, mpI_6, mfI_7, mpI_7, mfI_8, mpI_8, mfI_9, mpI_9, mfI_10, mpI_10, mfI_11, mpI_11, mfN_12, mfZ_13, mpZ_13, mfZ_14, mpZ_14, mfN_15, mfN_16, mfN_17, mfN_18, mfN_19, mfN_20, mfI_21, mpI_21, mfI_22, mpI_22, mfN_23, mfN_24, mfN_25, mfN_26, mfN_27, mfN_28, mfN_29, mfI_30, mpI_30, mfN_31, mfN_32, mfN_33, mfN_34, mfN_35, mfN_36, mfN_37, mfI_38, mpI_38, mfN_39, mfI_40, mpI_40, mfI_41, mpI_41, mgI_1 hA, msI_1 hA, mgI_12 hA, msI_12 hA, mgI_15 hA, msI_15 hA, mgI_16 hA, msI_16 hA, mgI_17 hA, msI_17 hA, mgI_18 hA, msI_18 hA, mgI_19 hA, msI_19 hA, mgI_20 hA, msI_20 hA, mgI_23 hA, msI_23 hA, mgI_24 hA, msI_24 hA, mgI_25 hA, msI_25 hA, mgI_26 hA, msI_26 hA, mgI_27 hA, msI_27 hA, mgI_28 hA, msI_28 hA, mgI_29 hA, msI_29 hA, mgI_31 hA, msI_31 hA, mgI_32 hA, msI_32 hA, mgI_33 hA, msI_33 hA, mgI_34 hA, msI_34 hA, mgI_35 hA, msI_35 hA, mgI_36 hA, msI_36 hA, mgI_39 hA, msI_39 hA, mgJ hA, msJ hA, ms_i, ms_i2, ms_b1, ms_b, ms_b2, ms_a1, ms_a2, ms_a, ms_a3, ms_j1, ms_j2, ms_j3, ms_j, ↓reduceIte, Nat.reduceEqDiff, show (16 : Int32).toNatClampNeg = 16 from rfl, show (6 : Int32).toNatClampNeg = 6 from rfl, h165, hR.2.2.1.2]
                rw [nt_one (by omega), nt_or, up_ne (show (6 : Nat) ≠ 16 by decide), hR.2.2.1.1, show nI (cnt T.2.2.2) + 1 = nI (cnt T.2.2.2 + 1) from nt_add _ 1]
                refine ⟨(vin 16 (by decide) (by decide)), (vin 16 (by decide) (by decide)), (vin 6 (by decide) (by decide)), (vin 6 (by decide) (by decide)), hK _ ((P5.a (by decide)).a (by decide)) ?_⟩
                rw [hE, h5, Bool.not_false, ck_t]
                refine ⟨?_, s2, (s1.2.1 13 (by simp)).trans f3, ?_, ?_⟩
                · exact (t3.nx s1).sm (is := []) (bs := []) (ar := [16]) ((Sm.rf.a (by decide)).a (by decide)) (by simp) (by decide)
                · simp only [ms_i, ms_i2, ms_b1, ms_b, ms_b2, ms_a1, ms_a2, ms_a, ms_a3, ms_j1, ms_j2, ms_j3, ms_j, ↓reduceIte, Nat.reduceEqDiff]
                  refine TR.addJ hW hR (by omega) h5 ?_ ?_ fun i i1 i2 => ?_
                  · rw [up_ne (by decide), up_eq]
                  · rw [up_eq]
                  · rw [up_ne i2, up_ne i1]
                · simp only [ms_i, ms_i2, ms_b1, ms_b, ms_b2, ms_a1, ms_a2, ms_a, ms_a3, ms_j1, ms_j2, ms_j3, ms_j, ↓reduceIte, Nat.reduceEqDiff]
                  rw [s1.2.2.1 18 (by decide), h183]
                  exact hw
              · simp only [mfI_0, mpI_0, mfN_1, mfI_2, mpI_2, mfI_3, mpI_3, mfI_4, mpI_4, mfI_5, mpI_5, mfI_6, mpI_6, mfI_7, mpI_7, mfI_8, mpI_8, mfI_9, mpI_9, mfI_10, mpI_10, mfI_11, mpI_11, mfN_12, mfZ_13, mpZ_13, mfZ_14, mpZ_14, mfN_15, mfN_16, mfN_17, mfN_18, mfN_19, mfN_20, mfI_21, mpI_21, mfI_22, mpI_22, mfN_23, mfN_24, mfN_25, mfN_26, mfN_27, mfN_28, mfN_29, mfI_30, mpI_30, mfN_31, mfN_32, mfN_33, mfN_34, mfN_35, mfN_36, mfN_37, mfI_38, mpI_38, mfN_39, mfI_40, mpI_40, mfI_41, mpI_41, y3.1]
                refine s_X12_wrong (d := d + 18) f3 (fl159 3 _ _ _ (P3.wr (f := 3)) FL.wr ?_)
                rw [hE, h5, Bool.not_true, ck_f]
            · simp only [mfI_0, mpI_0, mfN_1, mfI_2, mpI_2, mfI_3, mpI_3, mfI_4, mpI_4, mfI_5, mpI_5, mfI_6, mpI_6, mfI_7, mpI_7, mfI_8, mpI_8, mfI_9, mpI_9, mfI_10, mpI_10, mfI_11, mpI_11, mfN_12, mfZ_13, mpZ_13, mfZ_14, mpZ_14, mfN_15, mfN_16, mfN_17, mfN_18, mfN_19, mfN_20, mfI_21, mpI_21, mfI_22, mpI_22, mfN_23, mfN_24, mfN_25, mfN_26, mfN_27, mfN_28, mfN_29, mfI_30, mpI_30, mfN_31, mfN_32, mfN_33, mfN_34, mfN_35, mfN_36, mfN_37, mfI_38, mpI_38, mfN_39, mfI_40, mpI_40, mfI_41, mpI_41, mgI_1 hA, msI_1 hA, mgI_12 hA, msI_12 hA, mgI_15 hA, msI_15 hA, mgI_16 hA, msI_16 hA, mgI_17 hA, msI_17 hA, mgI_18 hA, msI_18 hA, mgI_19 hA, msI_19 hA, mgI_20 hA, msI_20 hA, mgI_23 hA, msI_23 hA, mgI_24 hA, msI_24 hA, mgI_25 hA, msI_25 hA, mgI_26 hA, msI_26 hA, mgI_27 hA, msI_27 hA, mgI_28 hA, msI_28 hA, mgI_29 hA, msI_29 hA, mgI_31 hA, msI_31 hA, mgI_32 hA, msI_32 hA, mgI_33 hA, msI_33 hA, mgI_34 hA, msI_34 hA, mgI_35 hA, msI_35 hA, mgI_36 hA, msI_36 hA, mgI_39 hA, msI_39 hA, mgJ hA, msJ hA, wr_f, reduceCtorEq, false_implies, true_implies, forall_const, true_and, and_true, eq_self]
              refine ⟨(nt_in (by omega)).mpr (by omega), (nt_in (by omega)).mpr (by omega), fl159 1 _ _ _ (P3.wr (f := 1)) FL.wr ?_⟩
              rw [e3]; unfold jugY ckN; rw [decide_eq_false z1, ck_f]
            · simp only [mfI_0, mpI_0, mfN_1, mfI_2, mpI_2, mfI_3, mpI_3, mfI_4, mpI_4, mfI_5, mpI_5, mfI_6, mpI_6, mfI_7, mpI_7, mfI_8, mpI_8, mfI_9, mpI_9, mfI_10, mpI_10, mfI_11, mpI_11, mfN_12, mfZ_13, mpZ_13, mfZ_14, mpZ_14, mfN_15, mfN_16, mfN_17, mfN_18, mfN_19, mfN_20, mfI_21, mpI_21, mfI_22, mpI_22, mfN_23, mfN_24, mfN_25, mfN_26, mfN_27, mfN_28, mfN_29, mfI_30, mpI_30, mfN_31, mfN_32, mfN_33, mfN_34, mfN_35, mfN_36, mfN_37, mfI_38, mpI_38, mfN_39, mfI_40, mpI_40, mfI_41, mpI_41, mgI_1 hA, msI_1 hA, mgI_12 hA, msI_12 hA, mgI_15 hA, msI_15 hA, mgI_16 hA, msI_16 hA, mgI_17 hA, msI_17 hA, mgI_18 hA, msI_18 hA, mgI_19 hA, msI_19 hA, mgI_20 hA, msI_20 hA, mgI_23 hA, msI_23 hA, mgI_24 hA, msI_24 hA, mgI_25 hA, msI_25 hA, mgI_26 hA, msI_26 hA, mgI_27 hA, msI_27 hA, mgI_28 hA, msI_28 hA, mgI_29 hA, msI_29 hA, mgI_31 hA, msI_31 hA, mgI_32 hA, msI_32 hA, mgI_33 hA, msI_33 hA, mgI_34 hA, msI_34 hA, mgI_35 hA, msI_35 hA, mgI_36 hA, msI_36 hA, mgI_39 hA, msI_39 hA, mgJ hA, msJ hA, wr_f, reduceCtorEq, false_implies, true_implies, forall_const, true_and, and_true, eq_self]
              refine ⟨(nt_in (by omega)).mpr (by omega), (nt_in (by omega)).mpr (by omega), fl159 4 _ _ _ (P3.wr (f := 4)) FL.wr ?_⟩
              rw [e3]; unfold jugY ckN; rw [decide_eq_true z1, ck_t, decide_eq_false z2, ck_f]
          · simp only [mfI_0, mpI_0, mfN_1, mfI_2, mpI_2, mfI_3, mpI_3, mfI_4, mpI_4, mfI_5, mpI_5, mfI_6, mpI_6, mfI_7, mpI_7, mfI_8, mpI_8, mfI_9, mpI_9, mfI_10, mpI_10, mfI_11, mpI_11, mfN_12, mfZ_13, mpZ_13, mfZ_14, mpZ_14, mfN_15, mfN_16, mfN_17, mfN_18, mfN_19, mfN_20, mfI_21, mpI_21, mfI_22, mpI_22, mfN_23, mfN_24, mfN_25, mfN_26, mfN_27, mfN_28, mfN_29, mfI_30, mpI_30, mfN_31, mfN_32, mfN_33, mfN_34, mfN_35, mfN_36, mfN_37, mfI_38, mpI_38, mfN_39, mfI_40, mpI_40, mfI_41, mpI_41, mgI_1 hA, msI_1 hA, mgI_12 hA, msI_12 hA, mgI_15 hA, msI_15 hA, mgI_16 hA, msI_16 hA, mgI_17 hA, msI_17 hA, mgI_18 hA, msI_18 hA, mgI_19 hA, msI_19 hA, mgI_20 hA, msI_20 hA, mgI_23 hA, msI_23 hA, mgI_24 hA, msI_24 hA, mgI_25 hA, msI_25 hA, mgI_26 hA, msI_26 hA, mgI_27 hA, msI_27 hA, mgI_28 hA, msI_28 hA, mgI_29 hA, msI_29 hA, mgI_31 hA, msI_31 hA, mgI_32 hA, msI_32 hA, mgI_33 hA, msI_33 hA, mgI_34 hA, msI_34 hA, mgI_35 hA, msI_35 hA, mgI_36 hA, msI_36 hA, mgI_39 hA, msI_39 hA, mgJ hA, msJ hA, c10]
            refine flY 1 _ _ _ (P2.wr (f := 1)) FL.wr ?_
            rw [hE0]; unfold jugX; rw [e2, decide_eq_false y1, ck_f]
        · refine s_X12_mustComma_f wr_f ?_
          simp only [mfI_0, mpI_0, mfN_1, mfI_2, mpI_2, mfI_3, mpI_3, mfI_4, mpI_4, mfI_5, mpI_5, mfI_6, mpI_6, mfI_7, mpI_7, mfI_8, mpI_8, mfI_9, mpI_9, mfI_10, mpI_10, mfI_11, mpI_11, mfN_12, mfZ_13, mpZ_13, mfZ_14, mpZ_14, mfN_15, mfN_16, mfN_17, mfN_18, mfN_19, mfN_20, mfI_21, mpI_21, mfI_22, mpI_22, mfN_23, mfN_24, mfN_25, mfN_26, mfN_27, mfN_28, mfN_29, mfI_30, mpI_30, mfN_31, mfN_32, mfN_33, mfN_34, mfN_35, mfN_36, mfN_37, mfI_38, mpI_38, mfN_39, mfI_40, mpI_40, mfI_41, mpI_41, mgI_1 hA, msI_1 hA, mgI_12 hA, msI_12 hA, mgI_15 hA, msI_15 hA, mgI_16 hA, msI_16 hA, mgI_17 hA, msI_17 hA, mgI_18 hA, msI_18 hA, mgI_19 hA, msI_19 hA, mgI_20 hA, msI_20 hA, mgI_23 hA, msI_23 hA, mgI_24 hA, msI_24 hA, mgI_25 hA, msI_25 hA, mgI_26 hA, msI_26 hA, mgI_27 hA, msI_27 hA, mgI_28 hA, msI_28 hA, mgI_29 hA, msI_29 hA, mgI_31 hA, msI_31 hA, mgI_32 hA, msI_32 hA, mgI_33 hA, msI_33 hA, mgI_34 hA, msI_34 hA, mgI_35 hA, msI_35 hA, mgI_36 hA, msI_36 hA, mgI_39 hA, msI_39 hA, mgJ hA, msJ hA, c10]
          refine flY 1 _ _ _ (P1.wr (f := 1)) FL.wr ?_
          rw [hE0]; unfold jugX ckN; rw [decide_eq_false x1, ck_f]
        · refine s_X12_mustComma_f wr_f ?_
          simp only [mfI_0, mpI_0, mfN_1, mfI_2, mpI_2, mfI_3, mpI_3, mfI_4, mpI_4, mfI_5, mpI_5, mfI_6, mpI_6, mfI_7, mpI_7, mfI_8, mpI_8, mfI_9, mpI_9, mfI_10, mpI_10, mfI_11, mpI_11, mfN_12, mfZ_13, mpZ_13, mfZ_14, mpZ_14, mfN_15, mfN_16, mfN_17, mfN_18, mfN_19, mfN_20, mfI_21, mpI_21, mfI_22, mpI_22, mfN_23, mfN_24, mfN_25, mfN_26, mfN_27, mfN_28, mfN_29, mfI_30, mpI_30, mfN_31, mfN_32, mfN_33, mfN_34, mfN_35, mfN_36, mfN_37, mfI_38, mpI_38, mfN_39, mfI_40, mpI_40, mfI_41, mpI_41, mgI_1 hA, msI_1 hA, mgI_12 hA, msI_12 hA, mgI_15 hA, msI_15 hA, mgI_16 hA, msI_16 hA, mgI_17 hA, msI_17 hA, mgI_18 hA, msI_18 hA, mgI_19 hA, msI_19 hA, mgI_20 hA, msI_20 hA, mgI_23 hA, msI_23 hA, mgI_24 hA, msI_24 hA, mgI_25 hA, msI_25 hA, mgI_26 hA, msI_26 hA, mgI_27 hA, msI_27 hA, mgI_28 hA, msI_28 hA, mgI_29 hA, msI_29 hA, mgI_31 hA, msI_31 hA, mgI_32 hA, msI_32 hA, mgI_33 hA, msI_33 hA, mgI_34 hA, msI_34 hA, mgI_35 hA, msI_35 hA, mgI_36 hA, msI_36 hA, mgI_39 hA, msI_39 hA, mgJ hA, msJ hA, c10]
          refine flY 4 _ _ _ (P1.wr (f := 4)) FL.wr ?_
          rw [hE0]; unfold jugX ckN; rw [decide_eq_true x1, ck_t, decide_eq_false x2, ck_f]
      · rw [decide_eq_false hk2]
        simp only [reduceCtorEq, false_implies, true_implies, forall_const, true_and, and_true, eq_self, mfI_0, mpI_0, mfN_1, mfI_2, mpI_2, mfI_3, mpI_3, mfI_4, mpI_4, mfI_5, mpI_5, mfI_6, mpI_6, mfI_7, mpI_7, mfI_8, mpI_8, mfI_9, mpI_9, mfI_10, mpI_10, mfI_11, mpI_11, mfN_12, mfZ_13, mpZ_13, mfZ_14, mpZ_14, mfN_15, mfN_16, mfN_17, mfN_18, mfN_19, mfN_20, mfI_21, mpI_21, mfI_22, mpI_22, mfN_23, mfN_24, mfN_25, mfN_26, mfN_27, mfN_28, mfN_29, mfI_30, mpI_30, mfN_31, mfN_32, mfN_33, mfN_34, mfN_35, mfN_36, mfN_37, mfI_38, mpI_38, mfN_39, mfI_40, mpI_40, mfI_41, mpI_41, hT.1]
        refine s_X12_wrong (d := d + 18) hf (bad ?_ _)
        rw [hfd, Option.bind_some, if_neg (by omega)]
  · simp only [F_X12_jugLine_27, mfI_0, mpI_0, mfN_1, mfI_2, mpI_2, mfI_3, mpI_3, mfI_4, mpI_4, mfI_5, mpI_5, mfI_6, mpI_6, mfI_7, mpI_7, mfI_8, mpI_8, mfI_9, mpI_9, mfI_10, mpI_10, mfI_11, mpI_11, mfN_12, mfZ_13, mpZ_13, mfZ_14, mpZ_14, mfN_15, mfN_16, mfN_17, mfN_18, mfN_19, mfN_20, mfI_21, mpI_21, mfI_22, mpI_22, mfN_23, mfN_24, mfN_25, mfN_26, mfN_27, mfN_28, mfN_29, mfI_30, mpI_30, mfN_31, mfN_32, mfN_33, mfN_34, mfN_35, mfN_36, mfN_37, mfI_38, mpI_38, mfN_39, mfI_40, mpI_40, mfI_41, mpI_41, wr_f, reduceCtorEq, false_implies, true_implies, forall_const, true_and, and_true, eq_self]
    refine fl53 1 _ _ _ (Pm.wr (f := 1) Pm.rf) FL.wr ?_
    unfold jugL; rw [n1, ck_f]
end PRL
