/-! counts of lays in the model -/
/-- every lay's piece is there, its squares are within the table -/
def VL (T : TB) (L : List LY) : Prop := ∀ (i : Nat) (e : LY), L[i]? = some e → (∃ p, T.2.2.1[e.1]? = some p) ∧ (∃ b, T.2.1[e.2.1]? = some b) ∧ 0 < e.2.2.2.2.2.1 ∧ e.2.2.2.2.2.1 < 16384 ∧ e.2.2.2.2.2.2 < 16384
def mAt (f : LY → Bool) : List LY → Nat → Nat → Option Nat
  | [], _, _ => none
  | e :: es, k, i => if f e then (if i = 0 then some k else mAt f es (k + 1) (i - 1)) else mAt f es (k + 1) i
def optF : Option Nat → Int32
  | some n => nI n
  | none => -2
theorem drop_at {L : List LY} {k : Nat} {e : LY} (h : L[k]? = some e) : L.drop k = e :: L.drop (k + 1) := by
  obtain ⟨hk, e1⟩ := List.getElem?_eq_some_iff.mp h
  rw [← List.getElem_cons_drop hk, e1]
section MNY
variable {l : Launch} {G : GG} {d m : Nat} {A : Nat → Nat} {S : MS} {ρ : Hp} {T : TB} {L : List LY}
theorem s_X12_manyMay (hA : okA m A) (hR : TR T (S.2.2.1 15)) (hW : WFT T) (hL : LR L S) (hV : VL T L) {tk who : Nat} (htk : tk < 16384) (hwho : who < 2) {K : Int32 → Hp → Prop} (h : K (nI (L.filter fun e => myE T e tk who).length) (mh m A S ρ)) : C_X12_manyMay l G (d + 4) m (nI (sd tk who)) (mh m A S ρ) K := by
  have h224 := hL.1
  refine m_X12_manyMay rv_m ?_
  simp only [F_X12_manyMay]
  have hz : ∀ r k c, k + r = L.length → K (nI (c + ((L.drop k).filter fun e => myE T e tk who).length)) (mh m A S ρ) → ∃ n', Z_X12_manyMay_4 l G (d + 3) K n' m (nI (sd tk who)) (nI c) (nI k) (mh m A S ρ) := by
    intro r
    induction r with
    | zero =>
      intro k c hk h
      refine ⟨1, ?_⟩
      simp only [Z_X12_manyMay_4, F_X12_manyMay_4, mfI_0, mpI_0, mfN_1, mfI_2, mpI_2, mfI_3, mpI_3, mfI_4, mpI_4, mfI_5, mpI_5, mfI_6, mpI_6, mfI_7, mpI_7, mfI_8, mpI_8, mfI_9, mpI_9, mfI_10, mpI_10, mfI_11, mpI_11, mfN_12, mfZ_13, mpZ_13, mfZ_14, mpZ_14, mfN_15, mfN_16, mfN_17, mfN_18, mfN_19, mfN_20, mfI_21, mpI_21, mfI_22, mpI_22, mfN_23, mfN_24, mfN_25, mfN_26, mfN_27, mfN_28, mfN_29, mfI_30, mpI_30, mfN_31, mfN_32, mfN_33, mfN_34, mfN_35, mfN_36, mfN_37, mfI_38, mpI_38, mfN_39, mfI_40, mpI_40, mfI_41, mpI_41, hL.2.1]
      rw [nt_le (by omega) (by omega)]
      rw [List.drop_eq_nil_of_le (by omega)] at h
      exact ⟨fun _ => h, fun hc => absurd (by omega) hc⟩
    | succ r ih =>
      intro k c hk h
      obtain ⟨e, he⟩ : ∃ e, L[k]? = some e := ⟨_, List.getElem?_eq_getElem (by omega)⟩
      obtain ⟨p, hp⟩ := (hV k e he).1
      rw [drop_at he, List.filter_cons] at h
      have e1 : nI k + 1 = nI (k + 1) := nt_add k 1
      cases hm : myE T e tk who with
      | true =>
        rw [hm, if_pos rfl, List.length_cons, ← Nat.add_assoc, Nat.add_right_comm] at h
        obtain ⟨n', hz⟩ := ih (k + 1) (c + 1) (by omega) h
        refine ⟨n' + 1, ?_⟩
        simp only [Z_X12_manyMay_4, F_X12_manyMay_4, F_X12_manyMay_27, mfI_0, mpI_0, mfN_1, mfI_2, mpI_2, mfI_3, mpI_3, mfI_4, mpI_4, mfI_5, mpI_5, mfI_6, mpI_6, mfI_7, mpI_7, mfI_8, mpI_8, mfI_9, mpI_9, mfI_10, mpI_10, mfI_11, mpI_11, mfN_12, mfZ_13, mpZ_13, mfZ_14, mpZ_14, mfN_15, mfN_16, mfN_17, mfN_18, mfN_19, mfN_20, mfI_21, mpI_21, mfI_22, mpI_22, mfN_23, mfN_24, mfN_25, mfN_26, mfN_27, mfN_28, mfN_29, mfI_30, mpI_30, mfN_31, mfN_32, mfN_33, mfN_34, mfN_35, mfN_36, mfN_37, mfI_38, mpI_38, mfN_39, mfI_40, mpI_40, mfI_41, mpI_41, hL.2.1, e1]
        rw [nt_le (by omega) (by omega)]
        refine ⟨fun hc => by omega, fun _ => s_X12_mayBe hA hR hW hL he hp htk hwho ?_⟩
        rw [hm]
        refine ⟨fun hc => absurd hc (by decide), fun _ => ?_⟩
        rw [show nI c + bi true = nI (c + 1) from nt_add c 1]
        exact hz
      | false =>
        rw [hm, if_neg (by decide)] at h
        obtain ⟨n', hz⟩ := ih (k + 1) c (by omega) h
        refine ⟨n' + 1, ?_⟩
        simp only [Z_X12_manyMay_4, F_X12_manyMay_4, F_X12_manyMay_27, mfI_0, mpI_0, mfN_1, mfI_2, mpI_2, mfI_3, mpI_3, mfI_4, mpI_4, mfI_5, mpI_5, mfI_6, mpI_6, mfI_7, mpI_7, mfI_8, mpI_8, mfI_9, mpI_9, mfI_10, mpI_10, mfI_11, mpI_11, mfN_12, mfZ_13, mpZ_13, mfZ_14, mpZ_14, mfN_15, mfN_16, mfN_17, mfN_18, mfN_19, mfN_20, mfI_21, mpI_21, mfI_22, mpI_22, mfN_23, mfN_24, mfN_25, mfN_26, mfN_27, mfN_28, mfN_29, mfI_30, mpI_30, mfN_31, mfN_32, mfN_33, mfN_34, mfN_35, mfN_36, mfN_37, mfI_38, mpI_38, mfN_39, mfI_40, mpI_40, mfI_41, mpI_41, hL.2.1, e1]
        rw [nt_le (by omega) (by omega)]
        refine ⟨fun hc => by omega, fun _ => s_X12_mayBe hA hR hW hL he hp htk hwho ?_⟩
        rw [hm]
        refine ⟨fun _ => ?_, fun hc => absurd hc (by decide)⟩
        rw [show nI c + bi false = nI (c + 0) from nt_add c 0]
        exact hz
  exact hz L.length 0 0 (by omega) (by simpa using h)
theorem s_X12_mayAt (hA : okA m A) (hR : TR T (S.2.2.1 15)) (hW : WFT T) (hL : LR L S) (hV : VL T L) {tk who i : Nat} (htk : tk < 16384) (hwho : who < 2) (hi : i < 2 ^ 31) {K : Int32 → Hp → Prop} (h : K (optF (mAt (fun e => myE T e tk who) L 0 i)) (mh m A S ρ)) : C_X12_mayAt l G (d + 4) m (nI (sd tk who)) (nI i) (mh m A S ρ) K := by
  have h224 := hL.1
  refine m_X12_mayAt rv_m ?_
  simp only [F_X12_mayAt]
  have hz : ∀ r k c, k + r = L.length → c ≤ k → c ≤ i → K (optF (mAt (fun e => myE T e tk who) (L.drop k) k (i - c))) (mh m A S ρ) → ∃ n', Z_X12_mayAt_5 l G (d + 3) K n' m (nI (sd tk who)) (nI i) (nI c) (nI k) (mh m A S ρ) := by
    intro r
    induction r with
    | zero =>
      intro k c hk hck hci h
      refine ⟨1, ?_⟩
      simp only [Z_X12_mayAt_5, F_X12_mayAt_5, mfI_0, mpI_0, mfN_1, mfI_2, mpI_2, mfI_3, mpI_3, mfI_4, mpI_4, mfI_5, mpI_5, mfI_6, mpI_6, mfI_7, mpI_7, mfI_8, mpI_8, mfI_9, mpI_9, mfI_10, mpI_10, mfI_11, mpI_11, mfN_12, mfZ_13, mpZ_13, mfZ_14, mpZ_14, mfN_15, mfN_16, mfN_17, mfN_18, mfN_19, mfN_20, mfI_21, mpI_21, mfI_22, mpI_22, mfN_23, mfN_24, mfN_25, mfN_26, mfN_27, mfN_28, mfN_29, mfI_30, mpI_30, mfN_31, mfN_32, mfN_33, mfN_34, mfN_35, mfN_36, mfN_37, mfI_38, mpI_38, mfN_39, mfI_40, mpI_40, mfI_41, mpI_41, hL.2.1]
      rw [nt_le (by omega) (by omega)]
      rw [List.drop_eq_nil_of_le (by omega)] at h
      exact ⟨fun _ => h, fun hc => absurd (by omega) hc⟩
    | succ r ih =>
      intro k c hk hck hci h
      obtain ⟨e, he⟩ : ∃ e, L[k]? = some e := ⟨_, List.getElem?_eq_getElem (by omega)⟩
      obtain ⟨p, hp⟩ := (hV k e he).1
      rw [drop_at he] at h
      simp only [mAt] at h
      have e1 : nI k + 1 = nI (k + 1) := nt_add k 1
      have e2 : nI c + 1 = nI (c + 1) := nt_add c 1
      cases hm : myE T e tk who with
      | true =>
        rw [if_pos hm] at h
        by_cases hic : c = i
        · rw [if_pos (by omega)] at h
          refine ⟨1, ?_⟩
          simp only [Z_X12_mayAt_5, F_X12_mayAt_5, F_X12_mayAt_38, mfI_0, mpI_0, mfN_1, mfI_2, mpI_2, mfI_3, mpI_3, mfI_4, mpI_4, mfI_5, mpI_5, mfI_6, mpI_6, mfI_7, mpI_7, mfI_8, mpI_8, mfI_9, mpI_9, mfI_10, mpI_10, mfI_11, mpI_11, mfN_12, mfZ_13, mpZ_13, mfZ_14, mpZ_14, mfN_15, mfN_16, mfN_17, mfN_18, mfN_19, mfN_20, mfI_21, mpI_21, mfI_22, mpI_22, mfN_23, mfN_24, mfN_25, mfN_26, mfN_27, mfN_28, mfN_29, mfI_30, mpI_30, mfN_31, mfN_32, mfN_33, mfN_34, mfN_35, mfN_36, mfN_37, mfI_38, mpI_38, mfN_39, mfI_40, mpI_40, mfI_41, mpI_41, hL.2.1, e1, e2]
          rw [nt_le (by omega) (by omega)]
          refine ⟨fun hc => by omega, fun _ => s_X12_mayBe hA hR hW hL he hp htk hwho ?_⟩
          rw [hm, nt_eq (by omega) (by omega)]
          exact ⟨fun _ => ⟨fun hc => absurd hic hc, fun _ => h⟩, fun hc => absurd hc (by decide)⟩
        · rw [if_neg (by omega), show i - c - 1 = i - (c + 1) by omega] at h
          obtain ⟨n', hz⟩ := ih (k + 1) (c + 1) (by omega) (by omega) (by omega) h
          refine ⟨n' + 1, ?_⟩
          simp only [Z_X12_mayAt_5, F_X12_mayAt_5, F_X12_mayAt_38, mfI_0, mpI_0, mfN_1, mfI_2, mpI_2, mfI_3, mpI_3, mfI_4, mpI_4, mfI_5, mpI_5, mfI_6, mpI_6, mfI_7, mpI_7, mfI_8, mpI_8, mfI_9, mpI_9, mfI_10, mpI_10, mfI_11, mpI_11, mfN_12, mfZ_13, mpZ_13, mfZ_14, mpZ_14, mfN_15, mfN_16, mfN_17, mfN_18, mfN_19, mfN_20, mfI_21, mpI_21, mfI_22, mpI_22, mfN_23, mfN_24, mfN_25, mfN_26, mfN_27, mfN_28, mfN_29, mfI_30, mpI_30, mfN_31, mfN_32, mfN_33, mfN_34, mfN_35, mfN_36, mfN_37, mfI_38, mpI_38, mfN_39, mfI_40, mpI_40, mfI_41, mpI_41, hL.2.1, e1, e2]
          rw [nt_le (by omega) (by omega)]
          refine ⟨fun hc => by omega, fun _ => s_X12_mayBe hA hR hW hL he hp htk hwho ?_⟩
          rw [hm, nt_eq (by omega) (by omega)]
          exact ⟨fun _ => ⟨fun _ => hz, fun hc => absurd hc hic⟩, fun hc => absurd hc (by decide)⟩
      | false =>
        rw [if_neg (by rw [hm]; decide)] at h
        obtain ⟨n', hz⟩ := ih (k + 1) c (by omega) (by omega) hci h
        refine ⟨n' + 1, ?_⟩
        simp only [Z_X12_mayAt_5, F_X12_mayAt_5, F_X12_mayAt_38, mfI_0, mpI_0, mfN_1, mfI_2, mpI_2, mfI_3, mpI_3, mfI_4, mpI_4, mfI_5, mpI_5, mfI_6, mpI_6, mfI_7, mpI_7, mfI_8, mpI_8, mfI_9, mpI_9, mfI_10, mpI_10, mfI_11, mpI_11, mfN_12, mfZ_13, mpZ_13, mfZ_14, mpZ_14, mfN_15, mfN_16, mfN_17, mfN_18, mfN_19, mfN_20, mfI_21, mpI_21, mfI_22, mpI_22, mfN_23, mfN_24, mfN_25, mfN_26, mfN_27, mfN_28, mfN_29, mfI_30, mpI_30, mfN_31, mfN_32, mfN_33, mfN_34, mfN_35, mfN_36, mfN_37, mfI_38, mpI_38, mfN_39, mfI_40, mpI_40, mfI_41, mpI_41, hL.2.1, e1, e2]
        rw [nt_le (by omega) (by omega)]
        refine ⟨fun hc => by omega, fun _ => s_X12_mayBe hA hR hW hL he hp htk hwho ?_⟩
        rw [hm]
        exact ⟨fun hc => absurd hc (by decide), fun _ => hz⟩
  exact hz L.length 0 0 (by omega) (Nat.le_refl _) (Nat.zero_le _) (by simpa using h)
end MNY
