/-! the model's public readings: layOf, open, half, heap; size, rows, rowLay, round -/
section PUB3
variable {l : Launch} {G : GG} {d m : Nat} {A : Nat → Nat} {S : MS} {ρ : Hp} {Z : ST} {T : TB} {L : List LY}
theorem s_X12_inR {v : Int32} (lo hi : Nat) {σ : Hp} {K : Bool → Hp → Prop} (h : K (inR v lo hi) σ) : C_X12_within l G (d + 1) v (nI lo) (nI hi) σ K := s_X12_within h
theorem s_X12_ixw {v : Int32} {n : Nat} (hn : n < 2 ^ 31) {σ : Hp} {K : Bool → Hp → Prop} (h : K (ix v n).isSome σ) : C_X12_within l G (d + 1) v 0 (nI n - 1) σ K := by
  refine s_X12_within ?_
  rw [within_iff hn, ix_dec]
  exact h
theorem z_layOf (hA : okA m A) (gS : GS T L S) {p k x y t : Int32} {K : Int32 → Hp → Prop} : ∀ r i, i + r = L.length → K (optF (mAt (isA p k x y t) (L.drop i) i 0)) (mh m A S ρ) → Z_X12_layOf_53 l G (d + 39) K (r + 1) m p k x y t (nI i) (mh m A S ρ) := by
  have h224 := gS.2.1.1
  intro r
  induction r with
  | zero =>
    intro i hk h
    simp only [Z_X12_layOf_53, F_X12_layOf_53, mfI_0, mpI_0, mfN_1, mfI_2, mpI_2, mfI_3, mpI_3, mfI_4, mpI_4, mfI_5, mpI_5, mfI_6, mpI_6, mfI_7, mpI_7, mfI_8, mpI_8, mfI_9, mpI_9, mfI_10, mpI_10, mfI_11, mpI_11, mfN_12, mfZ_13, mpZ_13, mfZ_14, mpZ_14, mfN_15, mfN_16, mfN_17, mfN_18, mfN_19, mfN_20, mfI_21, mpI_21, mfI_22, mpI_22, mfN_23, mfN_24, mfN_25, mfN_26, mfN_27, mfN_28, mfN_29, mfI_30, mpI_30, mfN_31, mfN_32, mfN_33, mfN_34, mfN_35, mfN_36, mfN_37, mfI_38, mpI_38, mfN_39, mfI_40, mpI_40, mfI_41, mpI_41, gS.2.1.2.1]
    rw [nt_le (by omega) (by omega)]
    rw [List.drop_eq_nil_of_le (by omega)] at h
    exact ⟨fun _ => h, fun hc => absurd (by omega) hc⟩
  | succ r ih =>
    intro i hk h
    obtain ⟨o, ho⟩ : ∃ o, L[i]? = some o := ⟨_, List.getElem?_eq_getElem (by omega)⟩
    obtain ⟨o0, o1, o2, o3, o4, -, -⟩ := gS.2.1.2.2 i o ho
    rw [drop_at ho] at h
    simp only [mAt, if_true] at h
    have e1 : nI i + 1 = nI (i + 1) := nt_add i 1
    have hin : vp_in (nI i) 224 := (nt_in (by omega)).mpr (by omega)
    have hno : isA p k x y t o = false → Z_X12_layOf_53 l G (d + 39) K (r + 1) m p k x y t (nI (i + 1)) (mh m A S ρ) := fun hf => ih (i + 1) (by omega) (by rwa [if_neg (by rw [hf]; decide)] at h)
    rw [show r + 1 + 1 = (r + 1) + 1 from rfl, Z_X12_layOf_53]
    simp only [F_X12_layOf_53, F_X12_layOf_122, mfI_0, mpI_0, mfN_1, mfI_2, mpI_2, mfI_3, mpI_3, mfI_4, mpI_4, mfI_5, mpI_5, mfI_6, mpI_6, mfI_7, mpI_7, mfI_8, mpI_8, mfI_9, mpI_9, mfI_10, mpI_10, mfI_11, mpI_11, mfN_12, mfZ_13, mpZ_13, mfZ_14, mpZ_14, mfN_15, mfN_16, mfN_17, mfN_18, mfN_19, mfN_20, mfI_21, mpI_21, mfI_22, mpI_22, mfN_23, mfN_24, mfN_25, mfN_26, mfN_27, mfN_28, mfN_29, mfI_30, mpI_30, mfN_31, mfN_32, mfN_33, mfN_34, mfN_35, mfN_36, mfN_37, mfI_38, mpI_38, mfN_39, mfI_40, mpI_40, mfI_41, mpI_41, mgI_1 hA, msI_1 hA, mgI_12 hA, msI_12 hA, mgI_15 hA, msI_15 hA, mgI_16 hA, msI_16 hA, mgI_17 hA, msI_17 hA, mgI_18 hA, msI_18 hA, mgI_19 hA, msI_19 hA, mgI_20 hA, msI_20 hA, mgI_23 hA, msI_23 hA, mgI_24 hA, msI_24 hA, mgI_25 hA, msI_25 hA, mgI_26 hA, msI_26 hA, mgI_27 hA, msI_27 hA, mgI_28 hA, msI_28 hA, mgI_29 hA, msI_29 hA, mgI_31 hA, msI_31 hA, mgI_32 hA, msI_32 hA, mgI_33 hA, msI_33 hA, mgI_34 hA, msI_34 hA, mgI_35 hA, msI_35 hA, mgI_36 hA, msI_36 hA, mgI_39 hA, msI_39 hA, mgJ hA, msJ hA, gS.2.1.2.1, e1, nI_clamp (show i < 2 ^ 31 by omega), o0, o1, o2, o3, o4]
    rw [nt_le (by omega) (by omega)]
    refine ⟨fun hc => by omega, fun _ => ⟨hin, fun h1 => hno (by simp [isA, h1]), fun h1 => ⟨hin, fun h2 => hno (by simp [isA, h2]), fun h2 => ⟨hin, fun h3 => hno (by simp [isA, h3]), fun h3 => ⟨hin, fun h4 => hno (by simp [isA, h4]), fun h4 => ⟨hin, fun h5 => hno (by simp [isA, h5]), fun h5 => ?_⟩⟩⟩⟩⟩⟩
    rw [if_pos (by simp [isA, h1, h2, h3, h4, h5])] at h
    exact h
theorem p_X12_layOf (hA : okA m A) (hZ : VZ Z) (hM : MI Z S) {p k x y t : Int32} {K : Int32 → Hp → Prop} (hK : ∀ S', MI (zt Z (q_layOf Z p k x y t).1) S' → K (q_layOf Z p k x y t).2 (mh m A S' ρ)) : C_X12_layOf l G (d + 40) m p k x y t (mh m A S ρ) K := by
  refine m_X12_layOf rv_m ?_
  simp only [F_X12_layOf_28, F_X12_layOf_122, F_X12_layOf_53, F_X12_layOf]
  refine s_X12_clear ?_
  have h0 := hM.cl
  simp only [q_layOf, onT] at hK
  cases hT : zT Z with
  | none =>
    simp only [hT] at hK
    refine s_X12_isBoard_no (h0.no hT) ?_
    simp only [reduceCtorEq, false_implies, true_implies, forall_const, true_and, and_true, eq_self]
    exact s_X12_no (hK _ (h0.tr 1 (by decide)))
  | some T =>
    simp only [hT] at hK
    obtain ⟨g14, gS, gW⟩ := h0.so hT
    obtain ⟨hW, hV, hG, htk, hwho, -⟩ := hZ.so hT
    have hb3 := hW.1.1
    have hp4 := hW.2.1.1
    refine s_X12_isBoard hA g14 gS.1 hW ?_
    rw [ix_dec]
    cases hi : ix k T.2.1.length with
    | none =>
      simp only [hi, Option.isNone_none, Bool.true_or, if_true] at hK
      simp only [Option.isSome_none, reduceCtorEq, false_implies, true_implies, forall_const, true_and, and_true, eq_self]
      exact s_X12_no (hK _ (h0.tr 1 (by decide)))
    | some i =>
      simp only [hi, Option.isNone_some, Bool.false_or] at hK
      simp only [Option.isSome_some, reduceCtorEq, false_implies, true_implies, forall_const, true_and, and_true, eq_self, mfI_0, mpI_0, mfN_1, mfI_2, mpI_2, mfI_3, mpI_3, mfI_4, mpI_4, mfI_5, mpI_5, mfI_6, mpI_6, mfI_7, mpI_7, mfI_8, mpI_8, mfI_9, mpI_9, mfI_10, mpI_10, mfI_11, mpI_11, mfN_12, mfZ_13, mpZ_13, mfZ_14, mpZ_14, mfN_15, mfN_16, mfN_17, mfN_18, mfN_19, mfN_20, mfI_21, mpI_21, mfI_22, mpI_22, mfN_23, mfN_24, mfN_25, mfN_26, mfN_27, mfN_28, mfN_29, mfI_30, mpI_30, mfN_31, mfN_32, mfN_33, mfN_34, mfN_35, mfN_36, mfN_37, mfI_38, mpI_38, mfN_39, mfI_40, mpI_40, mfI_41, mpI_41, mgI_1 hA, msI_1 hA, mgI_12 hA, msI_12 hA, mgI_15 hA, msI_15 hA, mgI_16 hA, msI_16 hA, mgI_17 hA, msI_17 hA, mgI_18 hA, msI_18 hA, mgI_19 hA, msI_19 hA, mgI_20 hA, msI_20 hA, mgI_23 hA, msI_23 hA, mgI_24 hA, msI_24 hA, mgI_25 hA, msI_25 hA, mgI_26 hA, msI_26 hA, mgI_27 hA, msI_27 hA, mgI_28 hA, msI_28 hA, mgI_29 hA, msI_29 hA, mgI_31 hA, msI_31 hA, mgI_32 hA, msI_32 hA, mgI_33 hA, msI_33 hA, mgI_34 hA, msI_34 hA, mgI_35 hA, msI_35 hA, mgI_36 hA, msI_36 hA, mgI_39 hA, msI_39 hA, mgJ hA, msJ hA, show (4 : Int32).toNatClampNeg = 4 from rfl, gS.1.2.1.2.1]
      refine ⟨(vin 4 (by decide) (by decide)), s_X12_ixw (by omega) ?_⟩
      cases hj : ix p T.2.2.1.length with
      | none =>
        simp only [hj, Option.isNone_none, if_true] at hK
        simp only [Option.isSome_none, reduceCtorEq, false_implies, true_implies, forall_const, true_and, and_true, eq_self]
        exact s_X12_no (hK _ (h0.tr 1 (by decide)))
      | some j =>
        simp only [hj, Option.isNone_some, Bool.false_eq_true, if_false] at hK
        simp only [Option.isSome_some, reduceCtorEq, false_implies, true_implies, forall_const, true_and, and_true, eq_self]
        refine s_X12_inR 0 3 ?_
        by_cases ht : t < 0 ∨ 3 < t
        · rw [if_pos ht] at hK
          have hr : inR t 0 3 = false := decide_eq_false fun hc => ht.elim (fun h => hc.1 h) fun h => hc.2 h
          simp only [hr, reduceCtorEq, false_implies, true_implies, forall_const, true_and, and_true, eq_self]
          exact s_X12_no (hK _ (h0.tr 2 (by decide)))
        · rw [if_neg ht] at hK
          have hr : inR t 0 3 = true := decide_eq_true ⟨fun h => ht (Or.inl h), fun h => ht (Or.inr h)⟩
          simp only [hr, reduceCtorEq, false_implies, true_implies, forall_const, true_and, and_true, eq_self]
          exact ⟨_, z_layOf hA gS (allL T).length 0 (by omega) (by rw [List.drop_zero]; exact hK _ h0)⟩
theorem z_open (hA : okA m A) (gS : GS T L S) (hW : WFT T) (hV : VL T L) {r0 : RO} (hr : RW r0 (S.2.2.1 17) 0) (hG : GD L r0.1) {q : Nat} (hq : q < 14) {K : Int32 → Hp → Prop} : ∀ r k c, k + r = L.length → c ≤ k → K (nI (c + ((L.drop k).filter fun o => (eS o).testBit q && frE T o (tkn L r0.1)).length)) (mh m A S ρ) → Z_X12_open_37 l G (d + 39) K (r + 1) m (nI q) (nI c) (nI k) (mh m A S ρ) := by
  have h224 := gS.2.1.1
  have htk := tkn_lt hV r0.1
  intro r
  induction r with
  | zero =>
    intro k c hk hc h
    simp only [Z_X12_open_37, F_X12_open_37, mfI_0, mpI_0, mfN_1, mfI_2, mpI_2, mfI_3, mpI_3, mfI_4, mpI_4, mfI_5, mpI_5, mfI_6, mpI_6, mfI_7, mpI_7, mfI_8, mpI_8, mfI_9, mpI_9, mfI_10, mpI_10, mfI_11, mpI_11, mfN_12, mfZ_13, mpZ_13, mfZ_14, mpZ_14, mfN_15, mfN_16, mfN_17, mfN_18, mfN_19, mfN_20, mfI_21, mpI_21, mfI_22, mpI_22, mfN_23, mfN_24, mfN_25, mfN_26, mfN_27, mfN_28, mfN_29, mfI_30, mpI_30, mfN_31, mfN_32, mfN_33, mfN_34, mfN_35, mfN_36, mfN_37, mfI_38, mpI_38, mfN_39, mfI_40, mpI_40, mfI_41, mpI_41, gS.2.1.2.1]
    rw [nt_le (by omega) (by omega)]
    rw [List.drop_eq_nil_of_le (by omega)] at h
    exact ⟨fun _ => h, fun hc => absurd (by omega) hc⟩
  | succ r ih =>
    intro k c hk hc h
    obtain ⟨o, ho⟩ : ∃ o, L[k]? = some o := ⟨_, List.getElem?_eq_getElem (by omega)⟩
    obtain ⟨-, -, -, -, -, o5, -⟩ := gS.2.1.2.2 k o ho
    obtain ⟨-, -, u1, u2, -⟩ := hV k o ho
    rw [drop_at ho, List.filter_cons] at h
    have e1 : nI k + 1 = nI (k + 1) := nt_add k 1
    have hno : ((eS o).testBit q && frE T o (tkn L r0.1)) = false → Z_X12_open_37 l G (d + 39) K (r + 1) m (nI q) (nI c) (nI (k + 1)) (mh m A S ρ) := fun hf => ih (k + 1) c (by omega) (by omega) (by rwa [if_neg (by rw [hf]; decide)] at h)
    rw [show r + 1 + 1 = (r + 1) + 1 from rfl, Z_X12_open_37]
    simp only [F_X12_open_37, F_X12_open_82, F_X12_open_83, mfI_0, mpI_0, mfN_1, mfI_2, mpI_2, mfI_3, mpI_3, mfI_4, mpI_4, mfI_5, mpI_5, mfI_6, mpI_6, mfI_7, mpI_7, mfI_8, mpI_8, mfI_9, mpI_9, mfI_10, mpI_10, mfI_11, mpI_11, mfN_12, mfZ_13, mpZ_13, mfZ_14, mpZ_14, mfN_15, mfN_16, mfN_17, mfN_18, mfN_19, mfN_20, mfI_21, mpI_21, mfI_22, mpI_22, mfN_23, mfN_24, mfN_25, mfN_26, mfN_27, mfN_28, mfN_29, mfI_30, mpI_30, mfN_31, mfN_32, mfN_33, mfN_34, mfN_35, mfN_36, mfN_37, mfI_38, mpI_38, mfN_39, mfI_40, mpI_40, mfI_41, mpI_41, mgI_1 hA, msI_1 hA, mgI_12 hA, msI_12 hA, mgI_15 hA, msI_15 hA, mgI_16 hA, msI_16 hA, mgI_17 hA, msI_17 hA, mgI_18 hA, msI_18 hA, mgI_19 hA, msI_19 hA, mgI_20 hA, msI_20 hA, mgI_23 hA, msI_23 hA, mgI_24 hA, msI_24 hA, mgI_25 hA, msI_25 hA, mgI_26 hA, msI_26 hA, mgI_27 hA, msI_27 hA, mgI_28 hA, msI_28 hA, mgI_29 hA, msI_29 hA, mgI_31 hA, msI_31 hA, mgI_32 hA, msI_32 hA, mgI_33 hA, msI_33 hA, mgI_34 hA, msI_34 hA, mgI_35 hA, msI_35 hA, mgI_36 hA, msI_36 hA, mgI_39 hA, msI_39 hA, mgJ hA, msJ hA, gS.2.1.2.1, e1, nI_clamp (show k < 2 ^ 31 by omega), o5, show nI c + bi false = nI c from (nt_add c 0), show nI c + bi true = nI (c + 1) from nt_add c 1]
    rw [nt_le (by omega) (by omega)]
    refine ⟨fun hc => by omega, fun _ => ⟨(nt_in (by omega)).mpr (by omega), s_X12_hasBit (by omega) (by omega) ?_⟩⟩
    simp only [mfI_0, mpI_0, mfN_1, mfI_2, mpI_2, mfI_3, mpI_3, mfI_4, mpI_4, mfI_5, mpI_5, mfI_6, mpI_6, mfI_7, mpI_7, mfI_8, mpI_8, mfI_9, mpI_9, mfI_10, mpI_10, mfI_11, mpI_11, mfN_12, mfZ_13, mpZ_13, mfZ_14, mpZ_14, mfN_15, mfN_16, mfN_17, mfN_18, mfN_19, mfN_20, mfI_21, mpI_21, mfI_22, mpI_22, mfN_23, mfN_24, mfN_25, mfN_26, mfN_27, mfN_28, mfN_29, mfI_30, mpI_30, mfN_31, mfN_32, mfN_33, mfN_34, mfN_35, mfN_36, mfN_37, mfI_38, mpI_38, mfN_39, mfI_40, mpI_40, mfI_41, mpI_41]
    refine ⟨fun h1 => hno (by simp only [eS, h1, Bool.false_and]), fun h1 => s_X12_standNow hA gS.2.1 hV hr hG (s_X12_takenOf htk (Nat.mod_lt _ (by decide)) (s_X12_isFree hA (Or.inl rfl) gS.1 gS.2.1 ho (by omega) ⟨fun h2 => hno (by rw [h2, Bool.and_false]), fun h2 => ?_⟩))⟩
    have h3 : ((eS o).testBit q && frE T o (tkn L r0.1)) = true := by
      rw [h2, Bool.and_true]
      exact h1
    rw [if_pos h3, List.length_cons] at h
    exact ih (k + 1) (c + 1) (by omega) (by omega) (by rwa [Nat.add_assoc, Nat.add_comm 1])
theorem p_X12_open (hA : okA m A) (hZ : VZ Z) (hM : MI Z S) {v : Int32} {K : Int32 → Hp → Prop} (hK : ∀ S', MI (zt Z (q_open Z v).1) S' → K (q_open Z v).2 (mh m A S' ρ)) : C_X12_open l G (d + 40) m v (mh m A S ρ) K := by
  refine m_X12_open rv_m ?_
  simp only [F_X12_open_27, F_X12_open_83, F_X12_open_82, F_X12_open_37, F_X12_open]
  refine s_X12_clear ?_
  have h0 := hM.cl
  simp only [q_open, onT] at hK
  cases hT : zT Z with
  | none =>
    simp only [hT] at hK
    simp only [mfZ_14, h0.no hT, reduceCtorEq, false_implies, true_implies, forall_const, true_and, and_true, eq_self, not_true_eq_false]
    exact s_X12_no (hK _ (h0.tr 1 (by decide)))
  | some T =>
    simp only [hT] at hK
    obtain ⟨g14, gS, gW⟩ := h0.so hT
    obtain ⟨hW, hV, hG, htk, hwho, -⟩ := hZ.so hT
    have h14 := hW.1.2.1
    simp only [mfI_0, mpI_0, mfN_1, mfI_2, mpI_2, mfI_3, mpI_3, mfI_4, mpI_4, mfI_5, mpI_5, mfI_6, mpI_6, mfI_7, mpI_7, mfI_8, mpI_8, mfI_9, mpI_9, mfI_10, mpI_10, mfI_11, mpI_11, mfN_12, mfZ_13, mpZ_13, mfZ_14, mpZ_14, mfN_15, mfN_16, mfN_17, mfN_18, mfN_19, mfN_20, mfI_21, mpI_21, mfI_22, mpI_22, mfN_23, mfN_24, mfN_25, mfN_26, mfN_27, mfN_28, mfN_29, mfI_30, mpI_30, mfN_31, mfN_32, mfN_33, mfN_34, mfN_35, mfN_36, mfN_37, mfI_38, mpI_38, mfN_39, mfI_40, mpI_40, mfI_41, mpI_41, mgI_1 hA, msI_1 hA, mgI_12 hA, msI_12 hA, mgI_15 hA, msI_15 hA, mgI_16 hA, msI_16 hA, mgI_17 hA, msI_17 hA, mgI_18 hA, msI_18 hA, mgI_19 hA, msI_19 hA, mgI_20 hA, msI_20 hA, mgI_23 hA, msI_23 hA, mgI_24 hA, msI_24 hA, mgI_25 hA, msI_25 hA, mgI_26 hA, msI_26 hA, mgI_27 hA, msI_27 hA, mgI_28 hA, msI_28 hA, mgI_29 hA, msI_29 hA, mgI_31 hA, msI_31 hA, mgI_32 hA, msI_32 hA, mgI_33 hA, msI_33 hA, mgI_34 hA, msI_34 hA, mgI_35 hA, msI_35 hA, mgI_36 hA, msI_36 hA, mgI_39 hA, msI_39 hA, mgJ hA, msJ hA, g14, reduceCtorEq, false_implies, true_implies, forall_const, true_and, and_true, eq_self, show (5 : Int32).toNatClampNeg = 5 from rfl, gS.1.2.1.2.2]
    refine ⟨(vin 5 (by decide) (by decide)), s_X12_ixw (by omega) ?_⟩
    cases hi : ix v (nsq T.2.1) with
    | none =>
      simp only [hi] at hK
      simp only [Option.isSome_none, reduceCtorEq, false_implies, true_implies, forall_const, true_and, and_true, eq_self]
      exact s_X12_no (hK _ (h0.tr 1 (by decide)))
    | some q =>
      obtain ⟨rfl, hq⟩ := ix_some (show nsq T.2.1 < 2 ^ 31 by omega) hi
      simp only [hi] at hK
      simp only [Option.isSome_some, reduceCtorEq, false_implies, true_implies, forall_const, true_and, and_true, eq_self]
      exact ⟨_, z_open hA gS hW hV gW hG (by omega) (allL T).length 0 0 (by omega) (by omega) (by rw [Nat.zero_add, List.drop_zero]; exact hK _ h0)⟩
theorem p_X12_half (hA : okA m A) (hZ : VZ Z) (hM : MI Z S) {v : Int32} {K : Int32 → Hp → Prop} (hK : ∀ S', MI (zt Z (q_half Z v).1) S' → K (q_half Z v).2 (mh m A S' ρ)) : C_X12_half l G (d + 40) m v (mh m A S ρ) K := by
  refine m_X12_half rv_m ?_
  simp only [F_X12_half_40, F_X12_half]
  refine s_X12_clear ?_
  have h0 := hM.cl
  simp only [q_half, onT] at hK
  cases hT : zT Z with
  | none =>
    simp only [hT] at hK
    refine s_X12_isBoard_no (h0.no hT) ?_
    simp only [reduceCtorEq, false_implies, true_implies, forall_const, true_and, and_true, eq_self]
    exact s_X12_no (hK _ (h0.tr 1 (by decide)))
  | some T =>
    simp only [hT] at hK
    obtain ⟨g14, gS, gW⟩ := h0.so hT
    obtain ⟨hW, hV, hG, htk, hwho, -⟩ := hZ.so hT
    have hb3 := hW.1.1
    refine s_X12_isBoard hA g14 gS.1 hW ?_
    rw [ix_dec]
    cases hi : ix v T.2.1.length with
    | none =>
      simp only [hi] at hK
      simp only [Option.isSome_none, reduceCtorEq, false_implies, true_implies, forall_const, true_and, and_true, eq_self]
      exact s_X12_no (hK _ (h0.tr 1 (by decide)))
    | some i =>
      obtain ⟨rfl, hil⟩ := ix_some (show T.2.1.length < 2 ^ 31 by omega) hi
      obtain ⟨b, hb⟩ : ∃ b, T.2.1[i]? = some b := ⟨_, List.getElem?_eq_getElem hil⟩
      simp only [hi, hb] at hK
      simp only [Option.isSome_some, reduceCtorEq, false_implies, true_implies, forall_const, true_and, and_true, eq_self]
      refine s_X12_standNow hA gS.2.1 hV gW hG (s_X12_takenOf htk hwho (s_X12_isHalf hA gS.1 hW hb htk ?_))
      refine ⟨fun h => ?_, fun h => ?_⟩
      · have h1 : hfB T b (ztk Z T) = false := h
        rw [h1] at hK; exact hK _ h0
      · have h1 : hfB T b (ztk Z T) = true := h
        rw [h1] at hK; exact hK _ h0
theorem z_heap (hA : okA m A) {v : Int32} {K : Int32 → Hp → Prop} (hK : ∀ S', Sm [] [] [36] S S' → (∀ j, j < 32768 → S'.2.2.1 36 j = -1) → F_X12_heap_45 l G (d + 39) (fun _ _ _ _ => False) m v (nI 32768) (mh m A S' ρ) K) : ∀ r k S', k + r = 32768 → Sm [] [] [36] S S' → (∀ j, j < k → S'.2.2.1 36 j = -1) → Z_X12_heap_45 l G (d + 39) K (r + 1) m v (nI k) (mh m A S' ρ) := by
  intro r
  induction r with
  | zero =>
    intro k S' hk h1 h2
    obtain rfl : k = 32768 := by omega
    have h3 := hK S' h1 h2
    simp only [Z_X12_heap_45, F_X12_heap_45] at h3 ⊢
    exact ⟨h3.1, fun hc => absurd ((nt_le (a := 32768) (b := 32768) (by decide) (by decide)).mpr (by decide)) hc⟩
  | succ r ih =>
    intro k S' hk h1 h2
    rw [show r + 1 + 1 = (r + 1) + 1 from rfl, Z_X12_heap_45]
    simp only [F_X12_heap_45, mfI_0, mpI_0, mfN_1, mfI_2, mpI_2, mfI_3, mpI_3, mfI_4, mpI_4, mfI_5, mpI_5, mfI_6, mpI_6, mfI_7, mpI_7, mfI_8, mpI_8, mfI_9, mpI_9, mfI_10, mpI_10, mfI_11, mpI_11, mfN_12, mfZ_13, mpZ_13, mfZ_14, mpZ_14, mfN_15, mfN_16, mfN_17, mfN_18, mfN_19, mfN_20, mfI_21, mpI_21, mfI_22, mpI_22, mfN_23, mfN_24, mfN_25, mfN_26, mfN_27, mfN_28, mfN_29, mfI_30, mpI_30, mfN_31, mfN_32, mfN_33, mfN_34, mfN_35, mfN_36, mfN_37, mfI_38, mpI_38, mfN_39, mfI_40, mpI_40, mfI_41, mpI_41, mgI_1 hA, msI_1 hA, mgI_12 hA, msI_12 hA, mgI_15 hA, msI_15 hA, mgI_16 hA, msI_16 hA, mgI_17 hA, msI_17 hA, mgI_18 hA, msI_18 hA, mgI_19 hA, msI_19 hA, mgI_20 hA, msI_20 hA, mgI_23 hA, msI_23 hA, mgI_24 hA, msI_24 hA, mgI_25 hA, msI_25 hA, mgI_26 hA, msI_26 hA, mgI_27 hA, msI_27 hA, mgI_28 hA, msI_28 hA, mgI_29 hA, msI_29 hA, mgI_31 hA, msI_31 hA, mgI_32 hA, msI_32 hA, mgI_33 hA, msI_33 hA, mgI_34 hA, msI_34 hA, mgI_35 hA, msI_35 hA, mgI_36 hA, msI_36 hA, mgI_39 hA, msI_39 hA, mgJ hA, msJ hA, nI_clamp (show k < 2 ^ 31 by omega), show nI k + 1 = nI (k + 1) from nt_add k 1]
    rw [show (32768 : Int32) = nI 32768 from rfl, nt_le (by omega) (by omega)]
    refine ⟨fun hc => by omega, fun _ => ⟨(nt_in (by omega)).mpr (by omega), ih (k + 1) _ (by omega) (h1.a (by decide)) fun j hj => ?_⟩⟩
    simp only [ms_i, ms_i2, ms_b1, ms_b, ms_b2, ms_a1, ms_a2, ms_a, ms_a3, ms_j1, ms_j2, ms_j3, ms_j, ↓reduceIte, Nat.reduceEqDiff]
    by_cases e : j = k
    · rw [e, up_eq]
    · rw [up_ne e]; exact h2 j (by omega)
theorem p_X12_heap (hA : okA m A) (hZ : VZ Z) (hM : MI Z S) {v : Int32} {K : Int32 → Hp → Prop} (hK : ∀ S', MI (zt Z (q_heap Z v).1) S' → K (q_heap Z v).2 (mh m A S' ρ)) : C_X12_heap l G (d + 40) m v (mh m A S ρ) K := by
  refine m_X12_heap rv_m ?_
  simp only [F_X12_heap, F_X12_heap_24, F_X12_heap_30]
  refine s_X12_clear ?_
  have h0 := hM.cl
  simp only [q_heap, onT] at hK
  cases hT : zT Z with
  | none =>
    simp only [hT] at hK
    simp only [mfZ_14, h0.no hT, reduceCtorEq, false_implies, true_implies, forall_const, true_and, and_true, eq_self, not_true_eq_false]
    exact s_X12_no (hK _ (h0.tr 1 (by decide)))
  | some T =>
    simp only [hT] at hK
    obtain ⟨g14, gS, gW⟩ := h0.so hT
    obtain ⟨hW, hV, hG, htk, hwho, -⟩ := hZ.so hT
    have hb3 := hW.1.1
    have hgo : ∀ (kb : Option Nat) tk, (∀ k, kb = some k → k < 3) → tk < 16384 → (∀ S', MI (zt Z 0) S' → K (nI (gr T (allL T) kb tk)) (mh m A S' ρ)) → ∀ S', Sm [] [] [36] (seti (seti S 0 0) 11 0) S' → (∀ j, j < 32768 → S'.2.2.1 36 j = -1) → C_X12_grundyOf l G (d + 39) m (nI tk) (kbI kb) (mh m A S' ρ) K := by
      intro kb tk h1 h2 h3 S' h4 h5
      have h6 := h0.sm (h4.mo (by simp) (by simp) (by simp))
      have h7 := (h6.so hT).2.1
      refine s_X12_grundyOf hA hW hV h1 14 (fr_le _) h2 h7.1 h7.2.1 (fun tk' h8 => Or.inl (h5 tk' (by omega))) fun S'' h8 _ => h3 S'' (h6.sm (h8.mo (by simp) (by simp) (by simp)))
    simp only [mfZ_14, g14, reduceCtorEq, false_implies, true_implies, forall_const, true_and, and_true, eq_self, not_true_eq_false]
    refine ⟨fun h1 => ?_, fun h1 => s_X12_isBoard hA g14 gS.1 hW ?_⟩
    · rw [if_pos h1] at hK
      refine s_X12_isHeap hA gS.1 hW ⟨fun h2 => ⟨_, z_heap hA (fun S' h3 h4 => ?_) 32768 0 _ (by omega) Sm.rf (fun j hj => by omega)⟩, fun h2 => ?_⟩
      · rw [h2, if_pos rfl] at hK
        simp only [F_X12_heap_45, F_X12_heap_89]
        refine ⟨fun _ => ?_, fun hc => absurd ((nt_le (a := 32768) (b := 32768) (by decide) (by decide)).mpr (by decide)) hc⟩
        have h6 := h0.sm (h3.mo (by simp) (by simp) (by simp))
        have h7 := h6.so hT
        refine s_X12_standNow hA h7.2.1.2.1 hV h7.2.2 hG (s_X12_takenOf htk hwho ⟨fun hc => absurd h1 hc, fun _ => ?_⟩)
        subst h1
        exact hgo none _ (fun k hk => by cases hk) htk hK S' h3 h4
      · rw [h2, if_neg (by decide)] at hK
        exact s_X12_no (hK _ (h0.tr 5 (by decide)))
    · rw [if_neg h1] at hK
      rw [ix_dec]
      cases hi : ix v T.2.1.length with
      | none =>
        simp only [hi] at hK
        simp only [Option.isSome_none, reduceCtorEq, false_implies, true_implies, forall_const, true_and, and_true, eq_self]
        exact s_X12_no (hK _ (h0.tr 1 (by decide)))
      | some i =>
        obtain ⟨rfl, hil⟩ := ix_some (show T.2.1.length < 2 ^ 31 by omega) hi
        obtain ⟨b, hb⟩ : ∃ b, T.2.1[i]? = some b := ⟨_, List.getElem?_eq_getElem hil⟩
        simp only [hi, hb] at hK
        simp only [Option.isSome_some, reduceCtorEq, false_implies, true_implies, forall_const, true_and, and_true, eq_self]
        refine s_X12_isHeap hA gS.1 hW ⟨fun h2 => ⟨_, z_heap hA (fun S' h3 h4 => ?_) 32768 0 _ (by omega) Sm.rf (fun j hj => by omega)⟩, fun h2 => ?_⟩
        · rw [h2, if_pos rfl] at hK
          simp only [F_X12_heap_45, F_X12_heap_89]
          refine ⟨fun _ => ?_, fun hc => absurd ((nt_le (a := 32768) (b := 32768) (by decide) (by decide)).mpr (by decide)) hc⟩
          have h6 := h0.sm (h3.mo (by simp) (by simp) (by simp))
          have h7 := h6.so hT
          refine s_X12_standNow hA h7.2.1.2.1 hV h7.2.2 hG (s_X12_takenOf htk hwho ⟨fun _ => s_X12_squaresOf hA h7.2.1.1 hW hb ?_, fun hc => absurd hc h1⟩)
          rw [nt_and]
          exact hgo (some i) _ (fun k hk => by cases hk; omega) (Nat.lt_of_le_of_lt Nat.and_le_left htk) hK S' h3 h4
        · rw [h2, if_neg (by decide)] at hK
          exact s_X12_no (hK _ (h0.tr 5 (by decide)))
theorem inR_pos {v : Int32} {lo hi : Nat} (hl : lo < 2 ^ 31) (hh : hi < 2 ^ 31) (h : inR v lo hi = true) : v = nI v.toNatClampNeg ∧ lo ≤ v.toNatClampNeg ∧ v.toNatClampNeg ≤ hi := by
  obtain ⟨n, rfl, h1, h2⟩ := inR_some hl hh h
  rw [nI_clamp (by omega)]
  exact ⟨rfl, h1, h2⟩
theorem p_X12_size (hA : okA m A) (hM : MI Z S) {n k : Int32} {K : Int32 → Hp → Prop} (hK : ∀ S', MI (zt Z (q_size n k).1) S' → K (q_size n k).2 (mh m A S' ρ)) : C_X12_size l G (d + 40) m n k (mh m A S ρ) K := by
  refine m_X12_size rv_m ?_
  simp only [F_X12_size_21, F_X12_size]
  refine s_X12_clear ?_
  have h0 := hM.cl
  unfold q_size at hK
  refine m_X12_isRow ?_
  simp only [F_X12_isRow]
  refine s_X12_inR 0 200 ?_
  cases hn : inR n 0 200 with
  | false =>
    simp only [hn, Bool.false_and, Bool.false_eq_true, if_false] at hK
    simp only [reduceCtorEq, false_implies, true_implies, forall_const, true_and, and_true, eq_self]
    exact s_X12_no (hK _ (h0.tr 2 (by decide)))
  | true =>
    simp only [hn, Bool.true_and] at hK
    simp only [reduceCtorEq, false_implies, true_implies, forall_const, true_and, and_true, eq_self]
    refine s_X12_inR 1 9 ?_
    cases hk : inR k 1 9 with
    | false =>
      simp only [hk, Bool.false_eq_true, if_false] at hK
      simp only [reduceCtorEq, false_implies, true_implies, forall_const, true_and, and_true, eq_self]
      exact s_X12_no (hK _ (h0.tr 2 (by decide)))
    | true =>
      simp only [hk, if_true] at hK
      simp only [reduceCtorEq, false_implies, true_implies, forall_const, true_and, and_true, eq_self]
      obtain ⟨n', rfl, n1, n2⟩ := inR_some (by decide) (by decide) hn
      obtain ⟨k', rfl, k1, k2⟩ := inR_some (by decide) (by decide) hk
      rw [nI_clamp (by omega), nI_clamp (by omega)] at hK
      refine s_X12_laySizes hA k1 k2 fun S' h1 h2 => ?_
      simp only [mfI_0, mpI_0, mfN_1, mfI_2, mpI_2, mfI_3, mpI_3, mfI_4, mpI_4, mfI_5, mpI_5, mfI_6, mpI_6, mfI_7, mpI_7, mfI_8, mpI_8, mfI_9, mpI_9, mfI_10, mpI_10, mfI_11, mpI_11, mfN_12, mfZ_13, mpZ_13, mfZ_14, mpZ_14, mfN_15, mfN_16, mfN_17, mfN_18, mfN_19, mfN_20, mfI_21, mpI_21, mfI_22, mpI_22, mfN_23, mfN_24, mfN_25, mfN_26, mfN_27, mfN_28, mfN_29, mfI_30, mpI_30, mfN_31, mfN_32, mfN_33, mfN_34, mfN_35, mfN_36, mfN_37, mfI_38, mpI_38, mfN_39, mfI_40, mpI_40, mfI_41, mpI_41, mgI_1 hA, msI_1 hA, mgI_12 hA, msI_12 hA, mgI_15 hA, msI_15 hA, mgI_16 hA, msI_16 hA, mgI_17 hA, msI_17 hA, mgI_18 hA, msI_18 hA, mgI_19 hA, msI_19 hA, mgI_20 hA, msI_20 hA, mgI_23 hA, msI_23 hA, mgI_24 hA, msI_24 hA, mgI_25 hA, msI_25 hA, mgI_26 hA, msI_26 hA, mgI_27 hA, msI_27 hA, mgI_28 hA, msI_28 hA, mgI_29 hA, msI_29 hA, mgI_31 hA, msI_31 hA, mgI_32 hA, msI_32 hA, mgI_33 hA, msI_33 hA, mgI_34 hA, msI_34 hA, mgI_35 hA, msI_35 hA, mgI_36 hA, msI_36 hA, mgI_39 hA, msI_39 hA, mgJ hA, msJ hA, nI_clamp (show n' < 2 ^ 31 by omega), h2 n' n2]
      exact ⟨(nt_in (by omega)).mpr (by omega), hK _ (h0.sm (h1.mo (by simp) (by simp) (by simp)))⟩
theorem p_X12_rows (hA : okA m A) (hM : MI Z S) {n n2 n3 k : Int32} {K : Int32 → Hp → Prop} (hK : ∀ S', MI (zt Z (q_rows n n2 n3 k).1) S' → K (q_rows n n2 n3 k).2 (mh m A S' ρ)) : C_X12_rows l G (d + 40) m n n2 n3 k (mh m A S ρ) K := by
  refine m_X12_rows rv_m ?_
  simp only [F_X12_rows_36, F_X12_rows_76, F_X12_rows]
  refine s_X12_clear ?_
  have h0 := hM.cl
  unfold q_rows at hK
  refine m_X12_isRow ?_
  simp only [F_X12_isRow]
  refine s_X12_inR 0 200 ?_
  cases hn : inR n 0 200 with
  | false =>
    simp only [hn, Bool.false_and, Bool.false_eq_true, if_false] at hK
    simp only [reduceCtorEq, false_implies, true_implies, forall_const, true_and, and_true, eq_self]
    exact s_X12_no (hK _ (h0.tr 2 (by decide)))
  | true =>
  simp only [hn, Bool.true_and] at hK
  simp only [reduceCtorEq, false_implies, true_implies, forall_const, true_and, and_true, eq_self]
  refine m_X12_isRow ?_
  simp only [F_X12_isRow]
  refine s_X12_inR 0 200 ?_
  cases hn2 : inR n2 0 200 with
  | false =>
    simp only [hn2, Bool.false_and, Bool.false_eq_true, if_false] at hK
    simp only [reduceCtorEq, false_implies, true_implies, forall_const, true_and, and_true, eq_self]
    exact s_X12_no (hK _ (h0.tr 2 (by decide)))
  | true =>
  simp only [hn2, Bool.true_and] at hK
  simp only [reduceCtorEq, false_implies, true_implies, forall_const, true_and, and_true, eq_self]
  refine m_X12_isRow ?_
  simp only [F_X12_isRow]
  refine s_X12_inR 0 200 ?_
  cases hn3 : inR n3 0 200 with
  | false =>
    simp only [hn3, Bool.false_and, Bool.false_eq_true, if_false] at hK
    simp only [reduceCtorEq, false_implies, true_implies, forall_const, true_and, and_true, eq_self]
    exact s_X12_no (hK _ (h0.tr 2 (by decide)))
  | true =>
    simp only [hn3, Bool.true_and] at hK
    simp only [reduceCtorEq, false_implies, true_implies, forall_const, true_and, and_true, eq_self]
    refine s_X12_inR 1 9 ?_
    cases hk : inR k 1 9 with
    | false =>
      simp only [hk, Bool.false_eq_true, if_false] at hK
      simp only [reduceCtorEq, false_implies, true_implies, forall_const, true_and, and_true, eq_self]
      exact s_X12_no (hK _ (h0.tr 2 (by decide)))
    | true =>
      simp only [hk, if_true] at hK
      simp only [reduceCtorEq, false_implies, true_implies, forall_const, true_and, and_true, eq_self]
      obtain ⟨n', rfl, n1, n2⟩ := inR_some (by decide) (by decide) hn
      obtain ⟨n2', rfl, n21, n22⟩ := inR_some (by decide) (by decide) hn2
      obtain ⟨n3', rfl, n31, n32⟩ := inR_some (by decide) (by decide) hn3
      obtain ⟨k', rfl, k1, k2⟩ := inR_some (by decide) (by decide) hk
      rw [nI_clamp (by omega), nI_clamp (by omega), nI_clamp (by omega), nI_clamp (by omega)] at hK
      have hx := xor_lt32 (xor_lt32 (sz_lt k' n') (sz_lt k' n2')) (sz_lt k' n3')
      refine s_X12_laySizes hA k1 k2 fun S' h1 h2 => ?_
      simp only [mfI_0, mpI_0, mfN_1, mfI_2, mpI_2, mfI_3, mpI_3, mfI_4, mpI_4, mfI_5, mpI_5, mfI_6, mpI_6, mfI_7, mpI_7, mfI_8, mpI_8, mfI_9, mpI_9, mfI_10, mpI_10, mfI_11, mpI_11, mfN_12, mfZ_13, mpZ_13, mfZ_14, mpZ_14, mfN_15, mfN_16, mfN_17, mfN_18, mfN_19, mfN_20, mfI_21, mpI_21, mfI_22, mpI_22, mfN_23, mfN_24, mfN_25, mfN_26, mfN_27, mfN_28, mfN_29, mfI_30, mpI_30, mfN_31, mfN_32, mfN_33, mfN_34, mfN_35, mfN_36, mfN_37, mfI_38, mpI_38, mfN_39, mfI_40, mpI_40, mfI_41, mpI_41, mgI_1 hA, msI_1 hA, mgI_12 hA, msI_12 hA, mgI_15 hA, msI_15 hA, mgI_16 hA, msI_16 hA, mgI_17 hA, msI_17 hA, mgI_18 hA, msI_18 hA, mgI_19 hA, msI_19 hA, mgI_20 hA, msI_20 hA, mgI_23 hA, msI_23 hA, mgI_24 hA, msI_24 hA, mgI_25 hA, msI_25 hA, mgI_26 hA, msI_26 hA, mgI_27 hA, msI_27 hA, mgI_28 hA, msI_28 hA, mgI_29 hA, msI_29 hA, mgI_31 hA, msI_31 hA, mgI_32 hA, msI_32 hA, mgI_33 hA, msI_33 hA, mgI_34 hA, msI_34 hA, mgI_35 hA, msI_35 hA, mgI_36 hA, msI_36 hA, mgI_39 hA, msI_39 hA, mgJ hA, msJ hA, nI_clamp (show n' < 2 ^ 31 by omega), nI_clamp (show n2' < 2 ^ 31 by omega), nI_clamp (show n3' < 2 ^ 31 by omega), h2 n' (by omega), h2 n2' (by omega), h2 n3' (by omega), nt_xor]
      rw [nt_0 (by omega)]
      have h3 := hK S' (h0.sm (h1.mo (by simp) (by simp) (by simp)))
      refine ⟨(nt_in (by omega)).mpr (by omega), (nt_in (by omega)).mpr (by omega), (nt_in (by omega)).mpr (by omega), fun h4 => ?_, fun h4 => ?_⟩
      · rw [h4] at h3; exact h3
      · rw [decide_eq_true h4] at h3; exact h3
theorem p_X12_rowLay (hA : okA m A) (hM : MI Z S) {n k v : Int32} {K : Int32 → Hp → Prop} (hK : ∀ S', MI (zt Z (q_rowLay n k v).1) S' → K (q_rowLay n k v).2 (mh m A S' ρ)) : C_X12_rowLay l G (d + 40) m n k v (mh m A S ρ) K := by
  refine m_X12_rowLay rv_m ?_
  simp only [F_X12_rowLay_31, F_X12_rowLay_45, F_X12_rowLay]
  refine s_X12_clear ?_
  have h0 := hM.cl
  unfold q_rowLay at hK
  refine m_X12_isRow ?_
  simp only [F_X12_isRow]
  refine s_X12_inR 0 200 ?_
  cases hn : inR n 0 200 with
  | false =>
    simp only [hn, Bool.false_and, Bool.false_eq_true, if_false] at hK
    simp only [reduceCtorEq, false_implies, true_implies, forall_const, true_and, and_true, eq_self]
    exact s_X12_no (hK _ (h0.tr 2 (by decide)))
  | true =>
  simp only [hn, Bool.true_and] at hK
  simp only [reduceCtorEq, false_implies, true_implies, forall_const, true_and, and_true, eq_self]
  refine s_X12_inR 1 9 ?_
  cases hk : inR k 1 9 with
  | false =>
    simp only [hk, Bool.false_and, Bool.false_eq_true, if_false] at hK
    simp only [reduceCtorEq, false_implies, true_implies, forall_const, true_and, and_true, eq_self]
    exact s_X12_no (hK _ (h0.tr 2 (by decide)))
  | true =>
  simp only [hk, Bool.true_and] at hK
  simp only [reduceCtorEq, false_implies, true_implies, forall_const, true_and, and_true, eq_self]
  refine s_X12_inR 0 99 ?_
  cases hv : inR v 0 99 with
  | false =>
    simp only [hv, Bool.false_eq_true, if_false] at hK
    simp only [reduceCtorEq, false_implies, true_implies, forall_const, true_and, and_true, eq_self]
    exact s_X12_no (hK _ (h0.tr 2 (by decide)))
  | true =>
    simp only [hv, if_true] at hK
    simp only [reduceCtorEq, false_implies, true_implies, forall_const, true_and, and_true, eq_self]
    obtain ⟨n', rfl, n1, n2⟩ := inR_some (by decide) (by decide) hn
    obtain ⟨k', rfl, k1, k2⟩ := inR_some (by decide) (by decide) hk
    obtain ⟨v', rfl, v1, v2⟩ := inR_some (by decide) (by decide) hv
    rw [nI_clamp (by omega), nI_clamp (by omega), nI_clamp (by omega)] at hK
    refine s_X12_laySizes hA k1 k2 fun S' h1 h2 => ?_
    have hK' := hK S' (h0.sm (h1.mo (by simp) (by simp) (by simp)))
    have hz : ∀ r i, i + r = n' + 1 - k' → K (optF (fst1 (fun i => decide (sz k' i ^^^ sz k' (n' - k' - i) = v')) r i)) (mh m A S' ρ) → ∃ q, Z_X12_rowLay_45 l G (d + 39) K q m (nI n') (nI k') (nI v') (nI i) (mh m A S' ρ) := by
      intro r
      induction r with
      | zero =>
        intro i hi h
        refine ⟨1, ?_⟩
        simp only [Z_X12_rowLay_45, F_X12_rowLay_45, nt_add]
        by_cases h5 : i = 0 ∧ n' < k'
        · rw [nt_lt (by omega) (by omega)]
          exact ⟨fun _ => h, fun hc => absurd (by omega) hc⟩
        · rw [nt_lt (by omega) (by omega)]
          exact ⟨fun _ => h, fun hc => absurd (by omega) hc⟩
      | succ r ih =>
        intro i hi h
        simp only [fst1] at h
        have hx := xor_lt32 (sz_lt k' i) (sz_lt k' (n' - k' - i))
        by_cases h5 : sz k' i ^^^ sz k' (n' - k' - i) = v'
        · rw [if_pos (decide_eq_true h5)] at h
          refine ⟨1, ?_⟩
          simp only [Z_X12_rowLay_45, F_X12_rowLay_45, nt_add]
          rw [nt_lt (by omega) (by omega), nt_sub (b := k') (by omega) (by omega), nt_sub (b := i) (by omega) (by omega)]
          simp only [mfI_0, mpI_0, mfN_1, mfI_2, mpI_2, mfI_3, mpI_3, mfI_4, mpI_4, mfI_5, mpI_5, mfI_6, mpI_6, mfI_7, mpI_7, mfI_8, mpI_8, mfI_9, mpI_9, mfI_10, mpI_10, mfI_11, mpI_11, mfN_12, mfZ_13, mpZ_13, mfZ_14, mpZ_14, mfN_15, mfN_16, mfN_17, mfN_18, mfN_19, mfN_20, mfI_21, mpI_21, mfI_22, mpI_22, mfN_23, mfN_24, mfN_25, mfN_26, mfN_27, mfN_28, mfN_29, mfI_30, mpI_30, mfN_31, mfN_32, mfN_33, mfN_34, mfN_35, mfN_36, mfN_37, mfI_38, mpI_38, mfN_39, mfI_40, mpI_40, mfI_41, mpI_41, mgI_1 hA, msI_1 hA, mgI_12 hA, msI_12 hA, mgI_15 hA, msI_15 hA, mgI_16 hA, msI_16 hA, mgI_17 hA, msI_17 hA, mgI_18 hA, msI_18 hA, mgI_19 hA, msI_19 hA, mgI_20 hA, msI_20 hA, mgI_23 hA, msI_23 hA, mgI_24 hA, msI_24 hA, mgI_25 hA, msI_25 hA, mgI_26 hA, msI_26 hA, mgI_27 hA, msI_27 hA, mgI_28 hA, msI_28 hA, mgI_29 hA, msI_29 hA, mgI_31 hA, msI_31 hA, mgI_32 hA, msI_32 hA, mgI_33 hA, msI_33 hA, mgI_34 hA, msI_34 hA, mgI_35 hA, msI_35 hA, mgI_36 hA, msI_36 hA, mgI_39 hA, msI_39 hA, mgJ hA, msJ hA, nI_clamp (show i < 2 ^ 31 by omega), nI_clamp (show n' - k' - i < 2 ^ 31 by omega), h2 i (by omega), h2 (n' - k' - i) (by omega), nt_xor]
          exact ⟨fun hc => by omega, fun _ => ⟨(nt_in (by omega)).mpr (by omega), (nt_in (by omega)).mpr (by omega), fun hc => absurd (by rw [h5]) hc, fun _ => h⟩⟩
        · rw [if_neg (by rw [decide_eq_false h5]; decide)] at h
          obtain ⟨q, hq⟩ := ih (i + 1) (by omega) h
          refine ⟨q + 1, ?_⟩
          simp only [Z_X12_rowLay_45, F_X12_rowLay_45, show nI i + 1 = nI (i + 1) from nt_add i 1, show nI i + nI k' = nI (i + k') from nt_add i k']
          rw [nt_lt (by omega) (by omega), nt_sub (b := k') (by omega) (by omega), nt_sub (b := i) (by omega) (by omega)]
          simp only [mfI_0, mpI_0, mfN_1, mfI_2, mpI_2, mfI_3, mpI_3, mfI_4, mpI_4, mfI_5, mpI_5, mfI_6, mpI_6, mfI_7, mpI_7, mfI_8, mpI_8, mfI_9, mpI_9, mfI_10, mpI_10, mfI_11, mpI_11, mfN_12, mfZ_13, mpZ_13, mfZ_14, mpZ_14, mfN_15, mfN_16, mfN_17, mfN_18, mfN_19, mfN_20, mfI_21, mpI_21, mfI_22, mpI_22, mfN_23, mfN_24, mfN_25, mfN_26, mfN_27, mfN_28, mfN_29, mfI_30, mpI_30, mfN_31, mfN_32, mfN_33, mfN_34, mfN_35, mfN_36, mfN_37, mfI_38, mpI_38, mfN_39, mfI_40, mpI_40, mfI_41, mpI_41, mgI_1 hA, msI_1 hA, mgI_12 hA, msI_12 hA, mgI_15 hA, msI_15 hA, mgI_16 hA, msI_16 hA, mgI_17 hA, msI_17 hA, mgI_18 hA, msI_18 hA, mgI_19 hA, msI_19 hA, mgI_20 hA, msI_20 hA, mgI_23 hA, msI_23 hA, mgI_24 hA, msI_24 hA, mgI_25 hA, msI_25 hA, mgI_26 hA, msI_26 hA, mgI_27 hA, msI_27 hA, mgI_28 hA, msI_28 hA, mgI_29 hA, msI_29 hA, mgI_31 hA, msI_31 hA, mgI_32 hA, msI_32 hA, mgI_33 hA, msI_33 hA, mgI_34 hA, msI_34 hA, mgI_35 hA, msI_35 hA, mgI_36 hA, msI_36 hA, mgI_39 hA, msI_39 hA, mgJ hA, msJ hA, nI_clamp (show i < 2 ^ 31 by omega), nI_clamp (show n' - k' - i < 2 ^ 31 by omega), h2 i (by omega), h2 (n' - k' - i) (by omega), nt_xor]
          rw [nt_eq (by omega) (by omega)]
          exact ⟨fun hc => by omega, fun _ => ⟨(nt_in (by omega)).mpr (by omega), (nt_in (by omega)).mpr (by omega), fun _ => hq, fun hc => absurd hc h5⟩⟩
    exact hz (n' + 1 - k') 0 (by omega) hK'
theorem nt_m1 {a : Nat} : nI (a + 1) + (-1) = nI a := by
  rw [← nt_add, show nI 1 = (1 : Int32) from rfl, Int32.add_assoc, show (1 : Int32) + (-1) = 0 by decide, Int32.add_zero]
theorem p_X12_round (hA : okA m A) (hM : MI Z S) {k : Int32} {st : Bool} {K : Int32 → Hp → Prop} (hK : ∀ S', MI (zt Z (q_round k st).1) S' → K (q_round k st).2 (mh m A S' ρ)) : C_X12_round l G (d + 40) m k st (mh m A S ρ) K := by
  refine m_X12_round rv_m ?_
  simp only [F_X12_round_91, F_X12_round_74, F_X12_round_40, F_X12_round_27, F_X12_round]
  refine s_X12_clear ?_
  have h0 := hM.cl
  unfold q_round at hK
  refine s_X12_inR 1 9 ?_
  cases hk : inR k 1 9 with
  | false =>
    simp only [hk, Bool.false_eq_true, if_false] at hK
    simp only [reduceCtorEq, false_implies, true_implies, forall_const, true_and, and_true, eq_self]
    exact s_X12_no (hK _ (h0.tr 2 (by decide)))
  | true =>
    simp only [hk, if_true] at hK
    simp only [reduceCtorEq, false_implies, true_implies, forall_const, true_and, and_true, eq_self]
    obtain ⟨k', rfl, k1, k2⟩ := inR_some (by decide) (by decide) hk
    rw [nI_clamp (by omega)] at hK
    refine s_X12_laySizes hA k1 k2 fun S' h1 h2 => ?_
    have hK' := hK S' (h0.sm (h1.mo (by simp) (by simp) (by simp)))
    have hin : ∀ (X : Nat → Bool → Int32 → Hp → Prop) p s, 1 ≤ p → p ≤ 60 → s ≤ 200 → (100 < s → X m st (nI (p + 1)) (mh m A S' ρ)) → (s ≤ 100 → K (nI (if st then s else p)) (mh m A S' ρ)) → ∀ M, M + p ≤ 201 → dn k' p M = s → Z_X12_round_40 l G (d + 39) X K (M + 1) m st (nI p) (nI M) (mh m A S' ρ) := by
      intro X p s hp1 hp2 hs a1 a2
      have h74 : F_X12_round_74 l G (d + 39) X m st (nI p) (nI s) (mh m A S' ρ) K := by
        simp only [F_X12_round_74, F_X12_round_91, show nI p + 1 = nI (p + 1) from nt_add p 1]
        rw [show (100 : Int32) = nI 100 from rfl, nt_lt (by omega) (by omega)]
        refine ⟨a1, fun h5 => ⟨fun h6 => ?_, fun h6 => ?_⟩⟩
        · have := a2 (by omega); rw [h6] at this; exact this
        · have := a2 (by omega); rw [h6] at this; exact this
      intro M
      induction M with
      | zero =>
        intro hM hd
        simp only [dn] at hd
        subst hd
        simp only [Z_X12_round_40, F_X12_round_40]
        exact ⟨fun _ => h74, fun hc => absurd (by decide) hc⟩
      | succ M ih =>
        intro hM hd
        simp only [dn] at hd
        rw [show M + 1 + 1 = (M + 1) + 1 from rfl, Z_X12_round_40]
        simp only [F_X12_round_40, nt_m1, show nI (M + 1) - 1 = nI M from nt_sub (b := 1) (by omega) (by omega), nt_add, mfI_0, mpI_0, mfN_1, mfI_2, mpI_2, mfI_3, mpI_3, mfI_4, mpI_4, mfI_5, mpI_5, mfI_6, mpI_6, mfI_7, mpI_7, mfI_8, mpI_8, mfI_9, mpI_9, mfI_10, mpI_10, mfI_11, mpI_11, mfN_12, mfZ_13, mpZ_13, mfZ_14, mpZ_14, mfN_15, mfN_16, mfN_17, mfN_18, mfN_19, mfN_20, mfI_21, mpI_21, mfI_22, mpI_22, mfN_23, mfN_24, mfN_25, mfN_26, mfN_27, mfN_28, mfN_29, mfI_30, mpI_30, mfN_31, mfN_32, mfN_33, mfN_34, mfN_35, mfN_36, mfN_37, mfI_38, mpI_38, mfN_39, mfI_40, mpI_40, mfI_41, mpI_41, mgI_1 hA, msI_1 hA, mgI_12 hA, msI_12 hA, mgI_15 hA, msI_15 hA, mgI_16 hA, msI_16 hA, mgI_17 hA, msI_17 hA, mgI_18 hA, msI_18 hA, mgI_19 hA, msI_19 hA, mgI_20 hA, msI_20 hA, mgI_23 hA, msI_23 hA, mgI_24 hA, msI_24 hA, mgI_25 hA, msI_25 hA, mgI_26 hA, msI_26 hA, mgI_27 hA, msI_27 hA, mgI_28 hA, msI_28 hA, mgI_29 hA, msI_29 hA, mgI_31 hA, msI_31 hA, mgI_32 hA, msI_32 hA, mgI_33 hA, msI_33 hA, mgI_34 hA, msI_34 hA, mgI_35 hA, msI_35 hA, mgI_36 hA, msI_36 hA, mgI_39 hA, msI_39 hA, mgJ hA, msJ hA, nI_clamp (show M < 2 ^ 31 by omega), nI_clamp (show M + p < 2 ^ 31 by omega), h2 M (by omega), h2 (M + p) (by omega)]
        have hs1 := sz_lt k' M
        have hs2 := sz_lt k' (M + p)
        rw [show (0 : Int32) = nI 0 from rfl, nt_le (by omega) (by omega), nt_eq (by omega) (by omega)]
        refine ⟨fun hc => by omega, fun _ => ⟨(nt_in (by omega)).mpr (by omega), (nt_in (by omega)).mpr (by omega), fun h5 => ?_, fun h5 => ?_⟩⟩
        · rw [if_neg h5] at hd
          rw [hd]
          exact h74
        · rw [if_pos h5] at hd
          exact ih (by omega) hd
    have hout : ∀ r p, p + r = 61 → 1 ≤ p → K (optF ((fst1 (fun p => decide (stP k' p ≤ 100)) r p).map fun p => if st then stP k' p else p)) (mh m A S' ρ) → Z_X12_round_27 l G (d + 39) K (r + 1) m st (nI p) (mh m A S' ρ) := by
      intro r
      induction r with
      | zero =>
        intro p hp hp1 h
        simp only [Z_X12_round_27, F_X12_round_27]
        rw [show (60 : Int32) = nI 60 from rfl, nt_lt (by omega) (by omega)]
        exact ⟨fun _ => h, fun hc => absurd (by omega) hc⟩
      | succ r ih =>
        intro p hp hp1 h
        simp only [fst1] at h
        rw [show r + 1 + 1 = (r + 1) + 1 from rfl, Z_X12_round_27]
        simp only [F_X12_round_27]
        rw [show (60 : Int32) = nI 60 from rfl, nt_lt (by omega) (by omega), show (201 : Int32) = nI 201 from rfl, nt_sub (by omega) (by omega)]
        refine ⟨fun hc => by omega, fun _ => ⟨_, hin _ p (stP k' p) hp1 (by omega) (Nat.le_trans (dn_le k' p (201 - p)) (by omega)) (fun h5 => ?_) (fun h5 => ?_) (201 - p) (by omega) rfl⟩⟩
        · rw [if_neg (by simp; omega)] at h
          exact ih (p + 1) (by omega) (by omega) h
        · rw [if_pos (by simpa using h5)] at h
          exact h
    exact ⟨_, hout 60 1 (by omega) (by omega) hK'⟩
end PUB3
