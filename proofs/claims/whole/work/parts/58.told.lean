/-! seed, undo, image, back; what is told; feed; in the model -/
section TOLD
variable {l : Launch} {G : GG} {d m : Nat} {A : Nat → Nat} {S : MS} {ρ : Hp} {Z : ST} {T : TB}
theorem p_X12_seed (hA : okA m A) (hM : MI Z S) {v : Int32} {K : Bool → Hp → Prop} (hK : ∀ S', MI (n_seed Z v).2 S' → K (n_seed Z v).1 (mh m A S' ρ)) (hZ : VZ Z) : C_X12_seed l G (d + 40) m v (mh m A S ρ) K := by
  refine m_X12_seed rv_m ?_
  simp only [F_X12_seed]
  refine s_X12_clear ?_
  have h0 := hM.cl
  simp only [n_seed] at hK
  cases hT : zT Z with
  | none =>
    simp only [hT] at hK
    simp only [mfZ_14, h0.no hT, reduceCtorEq, false_implies, true_implies, forall_const, true_and, and_true, eq_self]
    exact s_X12_isNot (hK _ (h0.tr 1 (by decide)))
  | some T =>
    simp only [hT] at hK
    obtain ⟨g14, gS, gW⟩ := h0.so hT
    have r14 := hZ.r14.1
    simp only [mfZ_14, g14, reduceCtorEq, false_implies, true_implies, forall_const, true_and, and_true, eq_self]
    refine s_X12_inR 0 65536 ?_
    cases hv : inR v 0 65536 with
    | false =>
      simp only [hv, Bool.false_eq_true, if_false] at hK
      simp only [reduceCtorEq, false_implies, true_implies, forall_const, true_and, and_true, eq_self]
      exact s_X12_isNot (hK _ (h0.tr 2 (by decide)))
    | true =>
      obtain ⟨n, rfl, n1, n2⟩ := inR_some (by decide) (by decide) hv
      simp only [hv, if_true, nI_clamp (show n < 2 ^ 31 by omega)] at hK
      simp only [reduceCtorEq, false_implies, true_implies, forall_const, true_and, and_true, eq_self, mfI_0, mpI_0, mfN_1, mfI_2, mpI_2, mfI_3, mpI_3, mfI_4, mpI_4, mfI_5, mpI_5, mfI_6, mpI_6, mfI_7, mpI_7, mfI_8, mpI_8, mfI_9, mpI_9, mfI_10, mpI_10, mfI_11, mpI_11, mfN_12, mfZ_13, mpZ_13, mfZ_14, mpZ_14, mfN_15, mfN_16, mfN_17, mfN_18, mfN_19, mfN_20, mfI_21, mpI_21, mfI_22, mpI_22, mfN_23, mfN_24, mfN_25, mfN_26, mfN_27, mfN_28, mfN_29, mfI_30, mpI_30, mfN_31, mfN_32, mfN_33, mfN_34, mfN_35, mfN_36, mfN_37, mfI_38, mpI_38, mfN_39, mfI_40, mpI_40, mfI_41, mpI_41, mgI_1 hA, msI_1 hA, mgI_12 hA, msI_12 hA, mgI_15 hA, msI_15 hA, mgI_16 hA, msI_16 hA, mgI_17 hA, msI_17 hA, mgI_18 hA, msI_18 hA, mgI_19 hA, msI_19 hA, mgI_20 hA, msI_20 hA, mgI_23 hA, msI_23 hA, mgI_24 hA, msI_24 hA, mgI_25 hA, msI_25 hA, mgI_26 hA, msI_26 hA, mgI_27 hA, msI_27 hA, mgI_28 hA, msI_28 hA, mgI_29 hA, msI_29 hA, mgI_31 hA, msI_31 hA, mgI_32 hA, msI_32 hA, mgI_33 hA, msI_33 hA, mgI_34 hA, msI_34 hA, mgI_35 hA, msI_35 hA, mgI_36 hA, msI_36 hA, mgI_39 hA, msI_39 hA, mgJ hA, msJ hA, show (15 : Int32).toNatClampNeg = 15 from rfl]
      refine ⟨(vin 15 (by decide) (by decide)), hK _ (h0.am (Sm.rf.a (by decide)) h0.2.2.1 h0.2.2.2.1 h0.2.2.2.2.1 fun T' hT' => ?_)⟩
      simp only [ms_i, ms_i2, ms_b1, ms_b, ms_b2, ms_a1, ms_a2, ms_a, ms_a3, ms_j1, ms_j2, ms_j3, ms_j, ↓reduceIte, Nat.reduceEqDiff]
      refine ⟨(up_ne (by omega)).trans gW.1, fun k w hw => ?_, by rw [Nat.zero_add, up_eq]; rfl⟩
      have hk : k < (zW Z).1.length := (List.getElem?_eq_some_iff.mp hw).1
      exact (up_ne (by omega)).trans (gW.2.1 k w hw)
theorem p_X12_undo (hA : okA m A) (hZ : VZ Z) (hM : MI Z S) {K : Bool → Hp → Prop} (hK : ∀ S', MI (n_undo Z).2 S' → K (n_undo Z).1 (mh m A S' ρ)) : C_X12_undo l G (d + 40) m (mh m A S ρ) K := by
  refine m_X12_undo rv_m ?_
  simp only [F_X12_undo]
  refine s_X12_clear ?_
  have h0 := hM.cl
  obtain ⟨-, u14, -⟩ := hZ.r14
  have h16 := hZ.2.2.2.2.2.1
  have c1 : (seti (seti S 0 0) 11 0).1 21 = nI (zU Z).length := h0.2.2.1.1
  have c2 : (seti (seti S 0 0) 11 0).1 22 = nI (zI Z).length := h0.2.2.1.2
  simp only [n_undo] at hK
  simp only [mfI_0, mpI_0, mfN_1, mfI_2, mpI_2, mfI_3, mpI_3, mfI_4, mpI_4, mfI_5, mpI_5, mfI_6, mpI_6, mfI_7, mpI_7, mfI_8, mpI_8, mfI_9, mpI_9, mfI_10, mpI_10, mfI_11, mpI_11, mfN_12, mfZ_13, mpZ_13, mfZ_14, mpZ_14, mfN_15, mfN_16, mfN_17, mfN_18, mfN_19, mfN_20, mfI_21, mpI_21, mfI_22, mpI_22, mfN_23, mfN_24, mfN_25, mfN_26, mfN_27, mfN_28, mfN_29, mfI_30, mpI_30, mfN_31, mfN_32, mfN_33, mfN_34, mfN_35, mfN_36, mfN_37, mfI_38, mpI_38, mfN_39, mfI_40, mpI_40, mfI_41, mpI_41, c1]
  rw [nt_0 (by omega)]
  cases hU : zU Z with
  | nil =>
    simp only [hU] at hK
    exact ⟨fun hc => absurd rfl hc, fun _ => s_X12_isNot (hK _ (h0.tr 6 (by decide)))⟩
  | cons w u =>
    simp only [hU] at hK
    have hUr := h0.2.2.2.1
    have hUr' : ∀ k v, (w :: u)[k]? = some v → RW v ((seti (seti S 0 0) 11 0).2.2.1 19) (16 * ((w :: u).length - 1 - k)) := fun k v hv => by
      have := hUr k v (by rw [← hU] at hv; exact hv)
      have hl : (zU (zt Z 0)).length = (w :: u).length := congrArg List.length hU
      rw [hl] at this
      exact this
    rw [hU] at h16
    simp only [List.length_cons] at h16 ⊢
    refine ⟨fun _ => ?_, fun hc => by omega⟩
    rw [show (nI (u.length + 1) - 1 : Int32) = nI u.length from nt_sub (b := 1) (by omega) (by omega)]
    simp only [ms_i, ms_i2, ms_b1, ms_b, ms_b2, ms_a1, ms_a2, ms_a, ms_a3, ms_j1, ms_j2, ms_j3, ms_j, ↓reduceIte, Nat.reduceEqDiff]
    rw [show (16 : Int32) * nI u.length = nI (16 * u.length) from nt_mul 16 _]
    refine s_X12_copy (kf := 19) (kt := 17) (a := 16 * u.length) (b := 0) (n := 16) hA (by decide) (by decide) (by decide) (by decide) (by decide) (show 16 * u.length + 16 ≤ 256 by omega) (by decide) (by decide) ?_
    refine hK _ (h0.am (((Sm.rf.i (by decide)).a (by decide))) ⟨rfl, c2⟩ (fun k v hv => ?_) h0.2.2.2.2.1 fun T' hT' => ?_)
    · simp only [ms_i, ms_i2, ms_b1, ms_b, ms_b2, ms_a1, ms_a2, ms_a, ms_a3, ms_j1, ms_j2, ms_j3, ms_j, ↓reduceIte, Nat.reduceEqDiff]
      have := hUr' (k + 1) v (by rw [List.getElem?_cons_succ]; exact hv)
      rw [List.length_cons, show u.length + 1 - 1 - (k + 1) = u.length - 1 - k by omega] at this
      exact this
    · simp only [ms_i, ms_i2, ms_b1, ms_b, ms_b2, ms_a1, ms_a2, ms_a, ms_a3, ms_j1, ms_j2, ms_j3, ms_j, ↓reduceIte, Nat.reduceEqDiff]
      have := hUr' 0 w rfl
      rw [List.length_cons, show u.length + 1 - 1 - 0 = u.length by omega] at this
      exact RW.put (u14 w (by rw [hU]; exact List.mem_cons_self)) this
theorem p_X12_image (hA : okA m A) (hZ : VZ Z) (hM : MI Z S) {K : Int32 → Hp → Prop} (hK : ∀ S', MI (n_image Z).2 S' → K (n_image Z).1 (mh m A S' ρ)) : C_X12_image l G (d + 40) m (mh m A S ρ) K := by
  refine m_X12_image rv_m ?_
  simp only [F_X12_image]
  refine s_X12_clear ?_
  have h0 := hM.cl
  obtain ⟨r14, -, i14⟩ := hZ.r14
  have h3 := hZ.2.2.2.2.2.2.1
  have c1 : (seti (seti S 0 0) 11 0).1 21 = nI (zU Z).length := h0.2.2.1.1
  have c2 : (seti (seti S 0 0) 11 0).1 22 = nI (zI Z).length := h0.2.2.1.2
  simp only [n_image] at hK
  cases hT : zT Z with
  | none =>
    simp only [hT] at hK
    simp only [mfZ_14, h0.no hT, reduceCtorEq, false_implies, true_implies, forall_const, true_and, and_true, eq_self]
    exact s_X12_no (hK _ (h0.tr 1 (by decide)))
  | some T =>
    simp only [hT] at hK
    obtain ⟨g14, gS, gW⟩ := h0.so hT
    simp only [mfI_0, mpI_0, mfN_1, mfI_2, mpI_2, mfI_3, mpI_3, mfI_4, mpI_4, mfI_5, mpI_5, mfI_6, mpI_6, mfI_7, mpI_7, mfI_8, mpI_8, mfI_9, mpI_9, mfI_10, mpI_10, mfI_11, mpI_11, mfN_12, mfZ_13, mpZ_13, mfZ_14, mpZ_14, mfN_15, mfN_16, mfN_17, mfN_18, mfN_19, mfN_20, mfI_21, mpI_21, mfI_22, mpI_22, mfN_23, mfN_24, mfN_25, mfN_26, mfN_27, mfN_28, mfN_29, mfI_30, mpI_30, mfN_31, mfN_32, mfN_33, mfN_34, mfN_35, mfN_36, mfN_37, mfI_38, mpI_38, mfN_39, mfI_40, mpI_40, mfI_41, mpI_41, g14, reduceCtorEq, false_implies, true_implies, forall_const, true_and, and_true, eq_self, c2]
    rw [show (3 : Int32) = nI 3 from rfl, nt_eq (by omega) (by decide)]
    refine ⟨fun h1 => ?_, fun h1 => ?_⟩
    · rw [if_pos (by omega)] at hK
      rw [show (16 : Int32) * nI (zI Z).length = nI (16 * (zI Z).length) from nt_mul 16 _]
      refine s_X12_copy (kf := 17) (kt := 20) (a := 0) (b := 16 * (zI Z).length) (n := 16) hA (by decide) (by decide) (by decide) (by decide) (by decide) (by decide) (show 16 * (zI Z).length + 16 ≤ 48 by omega) (by decide) ?_
      have c2' : S.1 22 = nI (zI Z).length := c2
      simp only [mfI_0, mpI_0, mfN_1, mfI_2, mpI_2, mfI_3, mpI_3, mfI_4, mpI_4, mfI_5, mpI_5, mfI_6, mpI_6, mfI_7, mpI_7, mfI_8, mpI_8, mfI_9, mpI_9, mfI_10, mpI_10, mfI_11, mpI_11, mfN_12, mfZ_13, mpZ_13, mfZ_14, mpZ_14, mfN_15, mfN_16, mfN_17, mfN_18, mfN_19, mfN_20, mfI_21, mpI_21, mfI_22, mpI_22, mfN_23, mfN_24, mfN_25, mfN_26, mfN_27, mfN_28, mfN_29, mfI_30, mpI_30, mfN_31, mfN_32, mfN_33, mfN_34, mfN_35, mfN_36, mfN_37, mfI_38, mpI_38, mfN_39, mfI_40, mpI_40, mfI_41, mpI_41, ms_i, ms_i2, ms_b1, ms_b, ms_b2, ms_a1, ms_a2, ms_a, ms_a3, ms_j1, ms_j2, ms_j3, ms_j, ↓reduceIte, Nat.reduceEqDiff, c2', show nI (zI Z).length + 1 = nI ((zI Z).length + 1) from nt_add _ 1]
      rw [show (nI ((zI Z).length + 1) - 1 : Int32) = nI (zI Z).length from nt_sub (b := 1) (by omega) (by omega)]
      refine hK _ (h0.am ((Sm.rf.a (by decide)).i (by decide)) ⟨c1, by simp only [ms_i, ms_i2, ms_b1, ms_b, ms_b2, ms_a1, ms_a2, ms_a, ms_a3, ms_j1, ms_j2, ms_j3, ms_j, ↓reduceIte, Nat.reduceEqDiff]; show nI ((zI Z).length + 1) = nI (zI Z ++ [zW Z]).length; rw [List.length_append]; rfl⟩ h0.2.2.2.1 (fun k v hv => ?_) fun T' hT' => gW)
      simp only [ms_i, ms_i2, ms_b1, ms_b, ms_b2, ms_a1, ms_a2, ms_a, ms_a3, ms_j1, ms_j2, ms_j3, ms_j, ↓reduceIte, Nat.reduceEqDiff]
      replace hv : (zI Z ++ [zW Z])[k]? = some v := hv
      by_cases hk : k < (zI Z).length
      · rw [List.getElem?_append_left hk] at hv
        exact (h0.2.2.2.2.1 k v hv).keep (i14 v (List.mem_of_getElem? hv)) fun j j1 j2 => fb_put_out (Or.inl (by omega))
      · have hk2 := (List.getElem?_eq_some_iff.mp hv).1
        rw [List.length_append, List.length_cons, List.length_nil] at hk2
        obtain rfl : k = (zI Z).length := by omega
        simp only [List.getElem?_concat_length, Option.some.injEq] at hv
        subst hv
        exact gW.put r14
    · rw [if_neg (by omega)] at hK
      exact s_X12_no (hK _ (h0.tr 3 (by decide)))
theorem p_X12_back (hA : okA m A) (hZ : VZ Z) (hM : MI Z S) {v : Int32} {K : Bool → Hp → Prop} (hK : ∀ S', MI (n_back Z v).2 S' → K (n_back Z v).1 (mh m A S' ρ)) : C_X12_back l G (d + 40) m v (mh m A S ρ) K := by
  refine m_X12_back rv_m ?_
  simp only [F_X12_back]
  refine s_X12_clear ?_
  have h0 := hM.cl
  obtain ⟨-, -, i14⟩ := hZ.r14
  have h3 := hZ.2.2.2.2.2.2.1
  have c2 : (seti (seti S 0 0) 11 0).1 22 = nI (zI Z).length := h0.2.2.1.2
  simp only [n_back] at hK
  simp only [mfI_0, mpI_0, mfN_1, mfI_2, mpI_2, mfI_3, mpI_3, mfI_4, mpI_4, mfI_5, mpI_5, mfI_6, mpI_6, mfI_7, mpI_7, mfI_8, mpI_8, mfI_9, mpI_9, mfI_10, mpI_10, mfI_11, mpI_11, mfN_12, mfZ_13, mpZ_13, mfZ_14, mpZ_14, mfN_15, mfN_16, mfN_17, mfN_18, mfN_19, mfN_20, mfI_21, mpI_21, mfI_22, mpI_22, mfN_23, mfN_24, mfN_25, mfN_26, mfN_27, mfN_28, mfN_29, mfI_30, mpI_30, mfN_31, mfN_32, mfN_33, mfN_34, mfN_35, mfN_36, mfN_37, mfI_38, mpI_38, mfN_39, mfI_40, mpI_40, mfI_41, mpI_41, c2]
  refine s_X12_ixw (by omega) ?_
  cases hi : ix v (zI Z).length with
  | none =>
    simp only [hi] at hK
    simp only [Option.isSome_none, reduceCtorEq, false_implies, true_implies, forall_const, true_and, and_true, eq_self]
    exact s_X12_isNot (hK _ (h0.tr 1 (by decide)))
  | some i =>
    obtain ⟨rfl, hil⟩ := ix_some (show (zI Z).length < 2 ^ 31 by omega) hi
    obtain ⟨w, hw⟩ : ∃ w, (zI Z)[i]? = some w := ⟨_, List.getElem?_eq_getElem hil⟩
    simp only [hi, hw] at hK
    simp only [Option.isSome_some, reduceCtorEq, false_implies, true_implies, forall_const, true_and, and_true, eq_self, mfI_0, mpI_0, mfN_1, mfI_2, mpI_2, mfI_3, mpI_3, mfI_4, mpI_4, mfI_5, mpI_5, mfI_6, mpI_6, mfI_7, mpI_7, mfI_8, mpI_8, mfI_9, mpI_9, mfI_10, mpI_10, mfI_11, mpI_11, mfN_12, mfZ_13, mpZ_13, mfZ_14, mpZ_14, mfN_15, mfN_16, mfN_17, mfN_18, mfN_19, mfN_20, mfI_21, mpI_21, mfI_22, mpI_22, mfN_23, mfN_24, mfN_25, mfN_26, mfN_27, mfN_28, mfN_29, mfI_30, mpI_30, mfN_31, mfN_32, mfN_33, mfN_34, mfN_35, mfN_36, mfN_37, mfI_38, mpI_38, mfN_39, mfI_40, mpI_40, mfI_41, mpI_41]
    rw [show (16 : Int32) * nI i = nI (16 * i) from nt_mul 16 _]
    refine s_X12_copy (kf := 20) (kt := 17) (a := 16 * i) (b := 0) (n := 16) hA (by decide) (by decide) (by decide) (by decide) (by decide) (show 16 * i + 16 ≤ 48 by omega) (by decide) (by decide) ?_
    simp only [mfI_0, mpI_0, mfN_1, mfI_2, mpI_2, mfI_3, mpI_3, mfI_4, mpI_4, mfI_5, mpI_5, mfI_6, mpI_6, mfI_7, mpI_7, mfI_8, mpI_8, mfI_9, mpI_9, mfI_10, mpI_10, mfI_11, mpI_11, mfN_12, mfZ_13, mpZ_13, mfZ_14, mpZ_14, mfN_15, mfN_16, mfN_17, mfN_18, mfN_19, mfN_20, mfI_21, mpI_21, mfI_22, mpI_22, mfN_23, mfN_24, mfN_25, mfN_26, mfN_27, mfN_28, mfN_29, mfI_30, mpI_30, mfN_31, mfN_32, mfN_33, mfN_34, mfN_35, mfN_36, mfN_37, mfI_38, mpI_38, mfN_39, mfI_40, mpI_40, mfI_41, mpI_41]
    refine hK _ (h0.am ((Sm.rf.a (by decide)).i (by decide)) ⟨rfl, c2⟩ (fun k v hv => by cases (show ([] : List RO)[k]? = some v from hv)) h0.2.2.2.2.1 fun T' hT' => ?_)
    simp only [ms_i, ms_i2, ms_b1, ms_b, ms_b2, ms_a1, ms_a2, ms_a, ms_a3, ms_j1, ms_j2, ms_j3, ms_j, ↓reduceIte, Nat.reduceEqDiff]
    exact RW.put (i14 w (List.mem_of_getElem? hw)) (h0.2.2.2.2.1 i w hw)
theorem p_X12_led (hA : okA m A) (hZ : VZ Z) (hM : MI Z S) {v : Int32} {K : Int32 → Hp → Prop} (hK : ∀ S' x, MI Z S' → (match q_led Z v with
  | none => S'.1 0 = 1
  | some n => S'.1 0 = 0 ∧ x = nI n) → K x (mh m A S' ρ)) : C_X12_led l G (d + 40) m v (mh m A S ρ) K := by
  refine m_X12_led rv_m ?_
  simp only [F_X12_led_37, F_X12_led]
  have r14 := hZ.r14.1
  cases hT : zT Z with
  | none =>
    have h := hZ.2.2.2.2.2.2.2
    rw [hT] at h
    have hq : q_led Z v = none := by
      rw [q_led, h.1]
      cases hi : ix v 0 with
      | none => simp only [List.length_nil, hi]; rfl
      | some i => exact absurd (ix_some (by decide) hi).2 (by omega)
    rw [hq] at hK
    simp only [mfI_0, mpI_0, mfN_1, mfI_2, mpI_2, mfI_3, mpI_3, mfI_4, mpI_4, mfI_5, mpI_5, mfI_6, mpI_6, mfI_7, mpI_7, mfI_8, mpI_8, mfI_9, mpI_9, mfI_10, mpI_10, mfI_11, mpI_11, mfN_12, mfZ_13, mpZ_13, mfZ_14, mpZ_14, mfN_15, mfN_16, mfN_17, mfN_18, mfN_19, mfN_20, mfI_21, mpI_21, mfI_22, mpI_22, mfN_23, mfN_24, mfN_25, mfN_26, mfN_27, mfN_28, mfN_29, mfI_30, mpI_30, mfN_31, mfN_32, mfN_33, mfN_34, mfN_35, mfN_36, mfN_37, mfI_38, mpI_38, mfN_39, mfI_40, mpI_40, mfI_41, mpI_41, hM.no hT, reduceCtorEq, false_implies, true_implies, forall_const, true_and, and_true, eq_self]
    exact hK _ _ (hM.th 1) rfl
  | some T =>
    obtain ⟨g14, gS, gW⟩ := hM.so hT
    simp only [mfI_0, mpI_0, mfN_1, mfI_2, mpI_2, mfI_3, mpI_3, mfI_4, mpI_4, mfI_5, mpI_5, mfI_6, mpI_6, mfI_7, mpI_7, mfI_8, mpI_8, mfI_9, mpI_9, mfI_10, mpI_10, mfI_11, mpI_11, mfN_12, mfZ_13, mpZ_13, mfZ_14, mpZ_14, mfN_15, mfN_16, mfN_17, mfN_18, mfN_19, mfN_20, mfI_21, mpI_21, mfI_22, mpI_22, mfN_23, mfN_24, mfN_25, mfN_26, mfN_27, mfN_28, mfN_29, mfI_30, mpI_30, mfN_31, mfN_32, mfN_33, mfN_34, mfN_35, mfN_36, mfN_37, mfI_38, mpI_38, mfN_39, mfI_40, mpI_40, mfI_41, mpI_41, mgI_1 hA, msI_1 hA, mgI_12 hA, msI_12 hA, mgI_15 hA, msI_15 hA, mgI_16 hA, msI_16 hA, mgI_17 hA, msI_17 hA, mgI_18 hA, msI_18 hA, mgI_19 hA, msI_19 hA, mgI_20 hA, msI_20 hA, mgI_23 hA, msI_23 hA, mgI_24 hA, msI_24 hA, mgI_25 hA, msI_25 hA, mgI_26 hA, msI_26 hA, mgI_27 hA, msI_27 hA, mgI_28 hA, msI_28 hA, mgI_29 hA, msI_29 hA, mgI_31 hA, msI_31 hA, mgI_32 hA, msI_32 hA, mgI_33 hA, msI_33 hA, mgI_34 hA, msI_34 hA, mgI_35 hA, msI_35 hA, mgI_36 hA, msI_36 hA, mgI_39 hA, msI_39 hA, mgJ hA, msJ hA, g14, reduceCtorEq, false_implies, true_implies, forall_const, true_and, and_true, eq_self, show (0 : Int32).toNatClampNeg = 0 from rfl, gW.1]
    refine ⟨(vin 0 (by decide) (by decide)), s_X12_ixw (by omega) ?_⟩
    simp only [q_led] at hK
    cases hi : ix v (zW Z).1.length with
    | none =>
      simp only [hi, Option.bind_none] at hK
      simp only [Option.isSome_none, reduceCtorEq, false_implies, true_implies, forall_const, true_and, and_true, eq_self, mfI_0, mpI_0, mfN_1, mfI_2, mpI_2, mfI_3, mpI_3, mfI_4, mpI_4, mfI_5, mpI_5, mfI_6, mpI_6, mfI_7, mpI_7, mfI_8, mpI_8, mfI_9, mpI_9, mfI_10, mpI_10, mfI_11, mpI_11, mfN_12, mfZ_13, mpZ_13, mfZ_14, mpZ_14, mfN_15, mfN_16, mfN_17, mfN_18, mfN_19, mfN_20, mfI_21, mpI_21, mfI_22, mpI_22, mfN_23, mfN_24, mfN_25, mfN_26, mfN_27, mfN_28, mfN_29, mfI_30, mpI_30, mfN_31, mfN_32, mfN_33, mfN_34, mfN_35, mfN_36, mfN_37, mfI_38, mpI_38, mfN_39, mfI_40, mpI_40, mfI_41, mpI_41]
      exact hK _ _ (hM.th 1) rfl
    | some i =>
      obtain ⟨rfl, hil⟩ := ix_some (show (zW Z).1.length < 2 ^ 31 by omega) hi
      obtain ⟨w, hw⟩ : ∃ w, (zW Z).1[i]? = some w := ⟨_, List.getElem?_eq_getElem hil⟩
      simp only [hi, Option.bind_some, hw] at hK
      have e := gW.2.1 i w hw
      rw [show 0 + 1 + i = 1 + i by omega] at e
      simp only [Option.isSome_some, reduceCtorEq, false_implies, true_implies, forall_const, true_and, and_true, eq_self, mfI_0, mpI_0, mfN_1, mfI_2, mpI_2, mfI_3, mpI_3, mfI_4, mpI_4, mfI_5, mpI_5, mfI_6, mpI_6, mfI_7, mpI_7, mfI_8, mpI_8, mfI_9, mpI_9, mfI_10, mpI_10, mfI_11, mpI_11, mfN_12, mfZ_13, mpZ_13, mfZ_14, mpZ_14, mfN_15, mfN_16, mfN_17, mfN_18, mfN_19, mfN_20, mfI_21, mpI_21, mfI_22, mpI_22, mfN_23, mfN_24, mfN_25, mfN_26, mfN_27, mfN_28, mfN_29, mfI_30, mpI_30, mfN_31, mfN_32, mfN_33, mfN_34, mfN_35, mfN_36, mfN_37, mfI_38, mpI_38, mfN_39, mfI_40, mpI_40, mfI_41, mpI_41, mgI_1 hA, msI_1 hA, mgI_12 hA, msI_12 hA, mgI_15 hA, msI_15 hA, mgI_16 hA, msI_16 hA, mgI_17 hA, msI_17 hA, mgI_18 hA, msI_18 hA, mgI_19 hA, msI_19 hA, mgI_20 hA, msI_20 hA, mgI_23 hA, msI_23 hA, mgI_24 hA, msI_24 hA, mgI_25 hA, msI_25 hA, mgI_26 hA, msI_26 hA, mgI_27 hA, msI_27 hA, mgI_28 hA, msI_28 hA, mgI_29 hA, msI_29 hA, mgI_31 hA, msI_31 hA, mgI_32 hA, msI_32 hA, mgI_33 hA, msI_33 hA, mgI_34 hA, msI_34 hA, mgI_35 hA, msI_35 hA, mgI_36 hA, msI_36 hA, mgI_39 hA, msI_39 hA, mgJ hA, msJ hA, show (1 : Int32) + nI i = nI (1 + i) from nt_add 1 i, nI_clamp (show 1 + i < 2 ^ 31 by omega), ms_i, ms_i2, ms_b1, ms_b, ms_b2, ms_a1, ms_a2, ms_a, ms_a3, ms_j1, ms_j2, ms_j3, ms_j, ↓reduceIte, Nat.reduceEqDiff, e]
      exact ⟨(nt_in (by omega)).mpr (by omega), hK _ _ (hM.th 0) ⟨rfl, rfl⟩⟩
theorem p_X12_told (hA : okA m A) (hZ : VZ Z) (hM : MI Z S) {w : Int32} {K : Int32 → Hp → Prop} (hK : ∀ S', MI Z S' → K (q_told Z w) (mh m A S' ρ)) : C_X12_told l G (d + 40) m w (mh m A S ρ) K := by
  have h0 := hM.th 0
  have c2 : (seti S 0 0).1 2 = nI (zN Z) := h0.1.1
  have c21 : (seti S 0 0).1 21 = nI (zU Z).length := h0.2.2.1.1
  have c22 : (seti S 0 0).1 22 = nI (zI Z).length := h0.2.2.1.2
  have hk := hK _ h0
  simp only [q_told] at hk
  refine m_X12_told rv_m ?_
  simp only [F_X12_told_38, F_X12_told, mfI_0, mpI_0, mfN_1, mfI_2, mpI_2, mfI_3, mpI_3, mfI_4, mpI_4, mfI_5, mpI_5, mfI_6, mpI_6, mfI_7, mpI_7, mfI_8, mpI_8, mfI_9, mpI_9, mfI_10, mpI_10, mfI_11, mpI_11, mfN_12, mfZ_13, mpZ_13, mfZ_14, mpZ_14, mfN_15, mfN_16, mfN_17, mfN_18, mfN_19, mfN_20, mfI_21, mpI_21, mfI_22, mpI_22, mfN_23, mfN_24, mfN_25, mfN_26, mfN_27, mfN_28, mfN_29, mfI_30, mpI_30, mfN_31, mfN_32, mfN_33, mfN_34, mfN_35, mfN_36, mfN_37, mfI_38, mpI_38, mfN_39, mfI_40, mpI_40, mfI_41, mpI_41]
  refine ⟨fun n11 => ?_, fun e11 => ?_⟩
  · rw [if_neg n11] at hk
    cases hT : zT Z with
    | none =>
      simp only [hT] at hk
      simp only [h0.no hT, reduceCtorEq, false_implies, true_implies, forall_const, true_and, and_true, eq_self]
      refine s_X12_inR 0 10 ⟨fun h => ?_, fun h => ?_⟩
      · rw [h] at hk; exact hk
      · rw [h] at hk; exact hk
    | some T =>
      simp only [hT] at hk
      obtain ⟨g14, gS, gW⟩ := h0.so hT
      have r14 := hZ.r14.1
      have b3 := gS.1.2.1.1
      have b4 := gS.1.2.1.2.1
      have b5 := gS.1.2.1.2.2
      have b6 := gS.1.2.2.1.1
      have b1 := gS.1.1.2.1
      have b2 := gS.1.1.2.2
      have w0 : (seti S 0 0).2.2.1 17 0 = nI (zW Z).1.length := gW.1
      have w15 : (seti S 0 0).2.2.1 17 15 = nI (zW Z).2 := gW.2.2
      simp only [g14, reduceCtorEq, false_implies, true_implies, forall_const, true_and, and_true, eq_self, mfI_0, mpI_0, mfN_1, mfI_2, mpI_2, mfI_3, mpI_3, mfI_4, mpI_4, mfI_5, mpI_5, mfI_6, mpI_6, mfI_7, mpI_7, mfI_8, mpI_8, mfI_9, mpI_9, mfI_10, mpI_10, mfI_11, mpI_11, mfN_12, mfZ_13, mpZ_13, mfZ_14, mpZ_14, mfN_15, mfN_16, mfN_17, mfN_18, mfN_19, mfN_20, mfI_21, mpI_21, mfI_22, mpI_22, mfN_23, mfN_24, mfN_25, mfN_26, mfN_27, mfN_28, mfN_29, mfI_30, mpI_30, mfN_31, mfN_32, mfN_33, mfN_34, mfN_35, mfN_36, mfN_37, mfI_38, mpI_38, mfN_39, mfI_40, mpI_40, mfI_41, mpI_41, mgI_1 hA, msI_1 hA, mgI_12 hA, msI_12 hA, mgI_15 hA, msI_15 hA, mgI_16 hA, msI_16 hA, mgI_17 hA, msI_17 hA, mgI_18 hA, msI_18 hA, mgI_19 hA, msI_19 hA, mgI_20 hA, msI_20 hA, mgI_23 hA, msI_23 hA, mgI_24 hA, msI_24 hA, mgI_25 hA, msI_25 hA, mgI_26 hA, msI_26 hA, mgI_27 hA, msI_27 hA, mgI_28 hA, msI_28 hA, mgI_29 hA, msI_29 hA, mgI_31 hA, msI_31 hA, mgI_32 hA, msI_32 hA, mgI_33 hA, msI_33 hA, mgI_34 hA, msI_34 hA, mgI_35 hA, msI_35 hA, mgI_36 hA, msI_36 hA, mgI_39 hA, msI_39 hA, mgJ hA, msJ hA, show (0 : Int32).toNatClampNeg = 0 from rfl, show (1 : Int32).toNatClampNeg = 1 from rfl, show (2 : Int32).toNatClampNeg = 2 from rfl, show (3 : Int32).toNatClampNeg = 3 from rfl, show (4 : Int32).toNatClampNeg = 4 from rfl, show (5 : Int32).toNatClampNeg = 5 from rfl, show (6 : Int32).toNatClampNeg = 6 from rfl, show (15 : Int32).toNatClampNeg = 15 from rfl, b1, b2, b3, b4, b5, b6, w0, w15, c21, c22]
      rw [show (nI (zW Z).1.length - nI (zW Z).1.length / 2 * 2 : Int32) = nI ((zW Z).1.length % 2) from nt_rem (b := 2) (by omega) (by decide) (by decide)]
      refine ⟨fun h => ⟨(vin 3 (by decide) (by decide)), ?_⟩, fun h => ⟨(vin 4 (by decide) (by decide)), ?_⟩, fun h => ⟨(vin 5 (by decide) (by decide)), ?_⟩, fun h => ⟨(vin 6 (by decide) (by decide)), ?_⟩, fun h => ⟨(vin 1 (by decide) (by decide)), ?_⟩, fun h => ⟨(vin 2 (by decide) (by decide)), ?_⟩, fun h => ⟨(vin 0 (by decide) (by decide)), ?_⟩, fun h => ⟨(vin 0 (by decide) (by decide)), by decide, ?_⟩, fun h => ⟨(vin 15 (by decide) (by decide)), ?_⟩, fun h => ?_, fun h => ?_, fun n0 n1 n2 n3 n4 n5 n6 n7 n8 n9 n10 => ?_⟩
      · subst h; exact hk
      · subst h; exact hk
      · subst h; exact hk
      · subst h; exact hk
      · subst h; exact hk
      · subst h; exact hk
      · subst h; exact hk
      · subst h; exact hk
      · subst h; exact hk
      · subst h; exact hk
      · subst h; exact hk
      · simp only [n0, n1, n2, n3, n4, n5, n6, n7, n8, n9, n10, if_false] at hk
        exact hk
  · rw [if_pos e11] at hk
    rw [c2]
    exact hk
theorem p_X12_trouble (hM : MI Z S) {K : Int32 → Hp → Prop} (hK : ∀ S', MI Z S' → K (nI (zR Z)) (mh m A S' ρ)) : C_X12_trouble l G (d + 40) m (mh m A S ρ) K := by
  have h0 := hM.th 0
  have c : (seti S 0 0).1 11 = nI (zR Z) := h0.2.1.2.2
  refine m_X12_trouble rv_m ?_
  simp only [F_X12_trouble, mfI_0, mpI_0, mfN_1, mfI_2, mpI_2, mfI_3, mpI_3, mfI_4, mpI_4, mfI_5, mpI_5, mfI_6, mpI_6, mfI_7, mpI_7, mfI_8, mpI_8, mfI_9, mpI_9, mfI_10, mpI_10, mfI_11, mpI_11, mfN_12, mfZ_13, mpZ_13, mfZ_14, mpZ_14, mfN_15, mfN_16, mfN_17, mfN_18, mfN_19, mfN_20, mfI_21, mpI_21, mfI_22, mpI_22, mfN_23, mfN_24, mfN_25, mfN_26, mfN_27, mfN_28, mfN_29, mfI_30, mpI_30, mfN_31, mfN_32, mfN_33, mfN_34, mfN_35, mfN_36, mfN_37, mfI_38, mpI_38, mfN_39, mfI_40, mpI_40, mfI_41, mpI_41, c]
  exact hK _ h0
theorem p_X12_fault (hM : MI Z S) {K : Int32 → Hp → Prop} (hK : ∀ S', MI Z S' → K (nI (zF Z)) (mh m A S' ρ)) : C_X12_fault l G (d + 40) m (mh m A S ρ) K := by
  have h0 := hM.th 0
  have c : (seti S 0 0).1 9 = nI (zF Z) := h0.2.1.1
  refine m_X12_fault rv_m ?_
  simp only [F_X12_fault, mfI_0, mpI_0, mfN_1, mfI_2, mpI_2, mfI_3, mpI_3, mfI_4, mpI_4, mfI_5, mpI_5, mfI_6, mpI_6, mfI_7, mpI_7, mfI_8, mpI_8, mfI_9, mpI_9, mfI_10, mpI_10, mfI_11, mpI_11, mfN_12, mfZ_13, mpZ_13, mfZ_14, mpZ_14, mfN_15, mfN_16, mfN_17, mfN_18, mfN_19, mfN_20, mfI_21, mpI_21, mfI_22, mpI_22, mfN_23, mfN_24, mfN_25, mfN_26, mfN_27, mfN_28, mfN_29, mfI_30, mpI_30, mfN_31, mfN_32, mfN_33, mfN_34, mfN_35, mfN_36, mfN_37, mfI_38, mpI_38, mfN_39, mfI_40, mpI_40, mfI_41, mpI_41, c]
  exact hK _ h0
theorem p_X12_where (hZ : VZ Z) (hM : MI Z S) {K : Int32 → Hp → Prop} (hK : ∀ S', MI Z S' → K (q_where Z) (mh m A S' ρ)) : C_X12_where l G (d + 40) m (mh m A S ρ) K := by
  have h0 := hM.th 0
  have h7 := hZ.2.2.2.2.1
  have c : (seti S 0 0).1 11 = nI (zR Z) := h0.2.1.2.2
  have hk := hK _ h0
  unfold q_where at hk
  refine m_X12_where rv_m ?_
  simp only [F_X12_where_21, F_X12_where, mfI_0, mpI_0, mfN_1, mfI_2, mpI_2, mfI_3, mpI_3, mfI_4, mpI_4, mfI_5, mpI_5, mfI_6, mpI_6, mfI_7, mpI_7, mfI_8, mpI_8, mfI_9, mpI_9, mfI_10, mpI_10, mfI_11, mpI_11, mfN_12, mfZ_13, mpZ_13, mfZ_14, mpZ_14, mfN_15, mfN_16, mfN_17, mfN_18, mfN_19, mfN_20, mfI_21, mpI_21, mfI_22, mpI_22, mfN_23, mfN_24, mfN_25, mfN_26, mfN_27, mfN_28, mfN_29, mfI_30, mpI_30, mfN_31, mfN_32, mfN_33, mfN_34, mfN_35, mfN_36, mfN_37, mfI_38, mpI_38, mfN_39, mfI_40, mpI_40, mfI_41, mpI_41, c]
  rw [show (4 : Int32) = nI 4 from rfl, nt_eq (by omega) (by decide)]
  refine ⟨fun h => ?_, fun h => ?_⟩
  · rw [if_neg h] at hk; exact hk
  · rw [if_pos h] at hk
    have c10 : (seti S 0 0).1 10 = nI (zP Z) := h0.2.1.2.1 h
    rw [c10]; exact hk
theorem p_X12_thrown {K : Int32 → Hp → Prop} (h : K (S.1 0) (mh m A S ρ)) : C_X12_thrown l G (d + 1) m (mh m A S ρ) K := by
  refine m_X12_thrown rv_m ?_
  simp only [F_X12_thrown, mfI_0, mpI_0, mfN_1, mfI_2, mpI_2, mfI_3, mpI_3, mfI_4, mpI_4, mfI_5, mpI_5, mfI_6, mpI_6, mfI_7, mpI_7, mfI_8, mpI_8, mfI_9, mpI_9, mfI_10, mpI_10, mfI_11, mpI_11, mfN_12, mfZ_13, mpZ_13, mfZ_14, mpZ_14, mfN_15, mfN_16, mfN_17, mfN_18, mfN_19, mfN_20, mfI_21, mpI_21, mfI_22, mpI_22, mfN_23, mfN_24, mfN_25, mfN_26, mfN_27, mfN_28, mfN_29, mfI_30, mpI_30, mfN_31, mfN_32, mfN_33, mfN_34, mfN_35, mfN_36, mfN_37, mfI_38, mpI_38, mfN_39, mfI_40, mpI_40, mfI_41, mpI_41]
  exact h
/-- what the tape holds behind a feed -/
def fdB (Z : ST) (a b c d e : Int32) (k j : Nat) : Nat := if zN Z ≤ j ∧ j < zN Z + k then byt a b c d e (j - zN Z) else zB Z j
theorem p_X12_feed (hA : okA m A) (hZ : VZ Z) (hM : MI Z S) {a b c f e : Int32} {K : Int32 → Hp → Prop} (hK : ∀ S', MI (n_feed Z a b c f e).2 S' → K (n_feed Z a b c f e).1 (mh m A S' ρ)) : C_X12_feed l G (d + 40) m a b c f e (mh m A S ρ) K := by
  have h0 := hM.th 0
  have h900 := hZ.2.1
  have c2 : (seti S 0 0).1 2 = nI (zN Z) := h0.1.1
  refine m_X12_feed rv_m ?_
  simp only [F_X12_feed, mfI_0, mpI_0, mfN_1, mfI_2, mpI_2, mfI_3, mpI_3, mfI_4, mpI_4, mfI_5, mpI_5, mfI_6, mpI_6, mfI_7, mpI_7, mfI_8, mpI_8, mfI_9, mpI_9, mfI_10, mpI_10, mfI_11, mpI_11, mfN_12, mfZ_13, mpZ_13, mfZ_14, mpZ_14, mfN_15, mfN_16, mfN_17, mfN_18, mfN_19, mfN_20, mfI_21, mpI_21, mfI_22, mpI_22, mfN_23, mfN_24, mfN_25, mfN_26, mfN_27, mfN_28, mfN_29, mfI_30, mpI_30, mfN_31, mfN_32, mfN_33, mfN_34, mfN_35, mfN_36, mfN_37, mfI_38, mpI_38, mfN_39, mfI_40, mpI_40, mfI_41, mpI_41, c2]
  unfold n_feed at hK
  rw [show (nI (zN Z) + 20 : Int32) = nI (zN Z + 20) from nt_add _ 20, show (900 : Int32) = nI 900 from rfl, nt_le (by omega) (by decide)]
  refine ⟨fun h1 => ?_, fun h1 => ?_⟩
  · rw [if_neg (by omega)] at hK
    have hz : ∀ r k S', k + r = 20 → Sm [0, 2] [] [1] S S' → S'.1 2 = nI (zN Z + k) → (∀ j, j < zN Z + k → S'.2.2.1 1 j = nI (fdB Z a b c f e k j)) → Z_X12_feed_23 l G (d + 39) K (r + 1) m a b c f e (nI k) (mh m A S' ρ) := by
      intro r
      induction r with
      | zero =>
        intro k S' hk g1 g2 g3
        obtain rfl : k = 20 := by omega
        simp only [Z_X12_feed_23, F_X12_feed_23, mfI_0, mpI_0, mfN_1, mfI_2, mpI_2, mfI_3, mpI_3, mfI_4, mpI_4, mfI_5, mpI_5, mfI_6, mpI_6, mfI_7, mpI_7, mfI_8, mpI_8, mfI_9, mpI_9, mfI_10, mpI_10, mfI_11, mpI_11, mfN_12, mfZ_13, mpZ_13, mfZ_14, mpZ_14, mfN_15, mfN_16, mfN_17, mfN_18, mfN_19, mfN_20, mfI_21, mpI_21, mfI_22, mpI_22, mfN_23, mfN_24, mfN_25, mfN_26, mfN_27, mfN_28, mfN_29, mfI_30, mpI_30, mfN_31, mfN_32, mfN_33, mfN_34, mfN_35, mfN_36, mfN_37, mfI_38, mpI_38, mfN_39, mfI_40, mpI_40, mfI_41, mpI_41, g2]
        rw [show (20 : Int32) = nI 20 from rfl, nt_le (by omega) (by omega)]
        refine ⟨fun _ => hK S' ?_, fun hc => absurd (by omega) hc⟩
        obtain ⟨⟨a1, a2⟩, ⟨b1, b2, b3⟩, ⟨d1, d2⟩, e1, e2, f1, f2⟩ := hM
        obtain ⟨s1, s2, s3, s4⟩ := g1
        exact ⟨⟨g2, g3⟩, ⟨(s1 9 (by decide)).trans b1, fun h4 => (s1 10 (by decide)).trans (b2 h4), (s1 11 (by decide)).trans b3⟩, ⟨(s1 21 (by decide)).trans d1, (s1 22 (by decide)).trans d2⟩, fun k u hu => by rw [s3 19 (by decide)]; exact e1 k u hu, fun k u hu => by rw [s3 20 (by decide)]; exact e2 k u hu, by rw [s2 14 (by simp)]; exact f1, fun T hT => ⟨(f2 T hT).1.cg (s1 30 (by decide)) (fun j a b _ _ _ _ _ => s3 j (by simp; omega)) s4, by rw [s3 17 (by decide)]; exact (f2 T hT).2⟩⟩
      | succ r ih =>
        intro k S' hk g1 g2 g3
        have h76 : ∀ x, x = (if k < 4 then a else if k < 8 then b else if k < 12 then c else if k < 16 then f else e) → F_X12_feed_76 l G (d + 39) (Z_X12_feed_23 l G (d + 39) K (r + 1)) m a b c f e (nI k) x (mh m A S' ρ) K := by
          intro x hx
          have e24 : (24 : Int32) - 8 * (nI k - nI k / 4 * 4) = nI (24 - 8 * (k % 4)) := by
            rw [show (4 : Int32) = nI 4 from rfl, nt_rem (by omega) (by decide) (by decide), show (8 : Int32) = nI 8 from rfl, nt_mul, show (24 : Int32) = nI 24 from rfl, nt_sub (by omega) (by decide)]
          simp only [F_X12_feed_76, mfI_0, mpI_0, mfN_1, mfI_2, mpI_2, mfI_3, mpI_3, mfI_4, mpI_4, mfI_5, mpI_5, mfI_6, mpI_6, mfI_7, mpI_7, mfI_8, mpI_8, mfI_9, mpI_9, mfI_10, mpI_10, mfI_11, mpI_11, mfN_12, mfZ_13, mpZ_13, mfZ_14, mpZ_14, mfN_15, mfN_16, mfN_17, mfN_18, mfN_19, mfN_20, mfI_21, mpI_21, mfI_22, mpI_22, mfN_23, mfN_24, mfN_25, mfN_26, mfN_27, mfN_28, mfN_29, mfI_30, mpI_30, mfN_31, mfN_32, mfN_33, mfN_34, mfN_35, mfN_36, mfN_37, mfI_38, mpI_38, mfN_39, mfI_40, mpI_40, mfI_41, mpI_41, mgI_1 hA, msI_1 hA, mgI_12 hA, msI_12 hA, mgI_15 hA, msI_15 hA, mgI_16 hA, msI_16 hA, mgI_17 hA, msI_17 hA, mgI_18 hA, msI_18 hA, mgI_19 hA, msI_19 hA, mgI_20 hA, msI_20 hA, mgI_23 hA, msI_23 hA, mgI_24 hA, msI_24 hA, mgI_25 hA, msI_25 hA, mgI_26 hA, msI_26 hA, mgI_27 hA, msI_27 hA, mgI_28 hA, msI_28 hA, mgI_29 hA, msI_29 hA, mgI_31 hA, msI_31 hA, mgI_32 hA, msI_32 hA, mgI_33 hA, msI_33 hA, mgI_34 hA, msI_34 hA, mgI_35 hA, msI_35 hA, mgI_36 hA, msI_36 hA, mgI_39 hA, msI_39 hA, mgJ hA, msJ hA, ms_i, ms_i2, ms_b1, ms_b, ms_b2, ms_a1, ms_a2, ms_a, ms_a3, ms_j1, ms_j2, ms_j3, ms_j, ↓reduceIte, Nat.reduceEqDiff, g2, e24, nI_clamp (show zN Z + k < 2 ^ 31 by omega), show nI k + 1 = nI (k + 1) from nt_add k 1, show nI (zN Z + k) + 1 = nI (zN Z + (k + 1)) from nt_add (zN Z + k) 1]
          rw [byt_s (by omega)]
          have hb : nI (x.toBitVec.toNat / 2 ^ (24 - 8 * (k % 4)) % 256) = nI (byt a b c f e k) := by rw [hx]; rfl
          rw [hb]
          refine ⟨by decide, (nt_in (by omega)).mpr (by omega), ih (k + 1) _ (by omega) ((g1.a (by decide)).i (by decide)) rfl fun j hj => ?_⟩
          simp only [ms_i, ms_i2, ms_b1, ms_b, ms_b2, ms_a1, ms_a2, ms_a, ms_a3, ms_j1, ms_j2, ms_j3, ms_j, ↓reduceIte, Nat.reduceEqDiff]
          by_cases ej : j = zN Z + k
          · subst ej
            rw [up_eq, fdB, if_pos (by omega), Nat.add_sub_cancel_left]
          · rw [up_ne ej, g3 j (by omega)]
            unfold fdB
            by_cases h5 : zN Z ≤ j
            · rw [if_pos (by omega), if_pos (by omega)]
            · rw [if_neg (by omega), if_neg (by omega)]
        rw [show r + 1 + 1 = (r + 1) + 1 from rfl, Z_X12_feed_23]
        simp only [F_X12_feed_23]
        rw [show (20 : Int32) = nI 20 from rfl, show (4 : Int32) = nI 4 from rfl, show (8 : Int32) = nI 8 from rfl, show (12 : Int32) = nI 12 from rfl, show (16 : Int32) = nI 16 from rfl, nt_le (by omega) (by omega), nt_le (by omega) (by omega), nt_le (by omega) (by omega), nt_le (by omega) (by omega), nt_le (by omega) (by omega)]
        refine ⟨fun hc => by omega, fun _ => ⟨fun h4 => ⟨fun h8 => ⟨fun h12 => ⟨fun h16 => h76 _ ?_, fun h16 => h76 _ ?_⟩, fun h12 => h76 _ ?_⟩, fun h8 => h76 _ ?_⟩, fun h4 => h76 _ ?_⟩⟩
        · rw [if_neg (by omega), if_neg (by omega), if_neg (by omega), if_neg (by omega)]
        · rw [if_neg (by omega), if_neg (by omega), if_neg (by omega), if_pos (by omega)]
        · rw [if_neg (by omega), if_neg (by omega), if_pos (by omega)]
        · rw [if_neg (by omega), if_pos (by omega)]
        · rw [if_pos (by omega)]
    refine ⟨_, hz 20 0 (seti S 0 0) (by omega) (Sm.rf.i (by decide)) c2 fun j hj => ?_⟩
    rw [fdB, if_neg (by omega)]
    exact h0.1.2 j hj
  · rw [if_pos (by omega)] at hK
    exact hK _ h0
end TOLD
