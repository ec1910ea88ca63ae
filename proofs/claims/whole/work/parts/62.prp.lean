/-! the model's lines: piece, lay; a line -/
section PRP
variable {l : Launch} {G : GG} {d m : Nat} {A : Nat → Nat} {S : MS} {ρ : Hp} {B : Nat → Nat} {N : Nat} {T : TB} {ls : List Nat}
theorem TkA.a16 {a k : Nat} {g : Nat → Int32} (h : TkA B N a S) (hk : k ≠ 12) : TkA B N a (seta S k g) := h.sm (is := []) (bs := []) (ar := [k]) (Sm.rf.a (by simp)) (by simp) (by simp) (by simp) (by simp) (by simp) (by simp; omega)
/-- a piece under way: kind, wide, high -/
def Qp (f1 : Nat → Int32) (p kd w h : Nat) (f : Nat → Int32) : Prop := f (17 + p) = nI kd ∧ f (21 + p) = nI w ∧ f (25 + p) = nI h ∧ ∀ i, i ≠ 17 + p → i ≠ 21 + p → i ≠ 25 + p → f i = f1 i
theorem fl202 (hA : okA m A) {np f p : Nat} (h4 : np < 4) {K : Hp → Prop} {S0 : MS} (hK : ∀ S', Pm S0 S' → FL f p S' → K (mh m A S' ρ)) {S1 : MS} (hP : Pm S0 S1) (h1 : FL f p S1) : F_X12_pieceLine_202 l G (d + 19) m (nI np) (mh m A S1 ρ) K := by
  have c29 : (nI (29 + np)).toNatClampNeg = 29 + np := nI_clamp (by omega)
  have c33 : (nI (33 + np)).toNatClampNeg = 33 + np := nI_clamp (by omega)
  simp only [F_X12_pieceLine_202, F_X12_pieceLine_225, F_X12_pieceLine_263, F_X12_pieceLine_281, mfI_0, mpI_0, mfN_1, mfI_2, mpI_2, mfI_3, mpI_3, mfI_4, mpI_4, mfI_5, mpI_5, mfI_6, mpI_6, mfI_7, mpI_7, mfI_8, mpI_8, mfI_9, mpI_9, mfI_10, mpI_10, mfI_11, mpI_11, mfN_12, mfZ_13, mpZ_13, mfZ_14, mpZ_14, mfN_15, mfN_16, mfN_17, mfN_18, mfN_19, mfN_20, mfI_21, mpI_21, mfI_22, mpI_22, mfN_23, mfN_24, mfN_25, mfN_26, mfN_27, mfN_28, mfN_29, mfI_30, mpI_30, mfN_31, mfN_32, mfN_33, mfN_34, mfN_35, mfN_36, mfN_37, mfI_38, mpI_38, mfN_39, mfI_40, mpI_40, mfI_41, mpI_41]
  refine s_X12_takesWord_f (by exact h1.1) ?_
  simp only [reduceCtorEq, false_implies, true_implies, forall_const, true_and, and_true, eq_self, mfI_0, mpI_0, mfN_1, mfI_2, mpI_2, mfI_3, mpI_3, mfI_4, mpI_4, mfI_5, mpI_5, mfI_6, mpI_6, mfI_7, mpI_7, mfI_8, mpI_8, mfI_9, mpI_9, mfI_10, mpI_10, mfI_11, mpI_11, mfN_12, mfZ_13, mpZ_13, mfZ_14, mpZ_14, mfN_15, mfN_16, mfN_17, mfN_18, mfN_19, mfN_20, mfI_21, mpI_21, mfI_22, mpI_22, mfN_23, mfN_24, mfN_25, mfN_26, mfN_27, mfN_28, mfN_29, mfI_30, mpI_30, mfN_31, mfN_32, mfN_33, mfN_34, mfN_35, mfN_36, mfN_37, mfI_38, mpI_38, mfN_39, mfI_40, mpI_40, mfI_41, mpI_41, mgI_1 hA, msI_1 hA, mgI_12 hA, msI_12 hA, mgI_15 hA, msI_15 hA, mgI_16 hA, msI_16 hA, mgI_17 hA, msI_17 hA, mgI_18 hA, msI_18 hA, mgI_19 hA, msI_19 hA, mgI_20 hA, msI_20 hA, mgI_23 hA, msI_23 hA, mgI_24 hA, msI_24 hA, mgI_25 hA, msI_25 hA, mgI_26 hA, msI_26 hA, mgI_27 hA, msI_27 hA, mgI_28 hA, msI_28 hA, mgI_29 hA, msI_29 hA, mgI_31 hA, msI_31 hA, mgI_32 hA, msI_32 hA, mgI_33 hA, msI_33 hA, mgI_34 hA, msI_34 hA, mgI_35 hA, msI_35 hA, mgI_36 hA, msI_36 hA, mgI_39 hA, msI_39 hA, mgJ hA, msJ hA, show (29 : Int32) + nI np = nI (29 + np) from nt_add 29 np, c29]
  refine ⟨(nt_in (by omega)).mpr (by omega), s_X12_takesWord_f (by exact h1.1) ?_⟩
  simp only [reduceCtorEq, false_implies, true_implies, forall_const, true_and, and_true, eq_self]
  refine s_X12_takesWord_f (by exact h1.1) ?_
  have h13 := h1.1
  simp only [reduceCtorEq, false_implies, true_implies, forall_const, true_and, and_true, eq_self, mfI_0, mpI_0, mfN_1, mfI_2, mpI_2, mfI_3, mpI_3, mfI_4, mpI_4, mfI_5, mpI_5, mfI_6, mpI_6, mfI_7, mpI_7, mfI_8, mpI_8, mfI_9, mpI_9, mfI_10, mpI_10, mfI_11, mpI_11, mfN_12, mfZ_13, mpZ_13, mfZ_14, mpZ_14, mfN_15, mfN_16, mfN_17, mfN_18, mfN_19, mfN_20, mfI_21, mpI_21, mfI_22, mpI_22, mfN_23, mfN_24, mfN_25, mfN_26, mfN_27, mfN_28, mfN_29, mfI_30, mpI_30, mfN_31, mfN_32, mfN_33, mfN_34, mfN_35, mfN_36, mfN_37, mfI_38, mpI_38, mfN_39, mfI_40, mpI_40, mfI_41, mpI_41, mgI_1 hA, msI_1 hA, mgI_12 hA, msI_12 hA, mgI_15 hA, msI_15 hA, mgI_16 hA, msI_16 hA, mgI_17 hA, msI_17 hA, mgI_18 hA, msI_18 hA, mgI_19 hA, msI_19 hA, mgI_20 hA, msI_20 hA, mgI_23 hA, msI_23 hA, mgI_24 hA, msI_24 hA, mgI_25 hA, msI_25 hA, mgI_26 hA, msI_26 hA, mgI_27 hA, msI_27 hA, mgI_28 hA, msI_28 hA, mgI_29 hA, msI_29 hA, mgI_31 hA, msI_31 hA, mgI_32 hA, msI_32 hA, mgI_33 hA, msI_33 hA, mgI_34 hA, msI_34 hA, mgI_35 hA, msI_35 hA, mgI_36 hA, msI_36 hA, mgI_39 hA, msI_39 hA, mgJ hA, msJ hA, ms_i, ms_i2, ms_b1, ms_b, ms_b2, ms_a1, ms_a2, ms_a, ms_a3, ms_j1, ms_j2, ms_j3, ms_j, ↓reduceIte, Nat.reduceEqDiff, show (33 : Int32) + nI np = nI (33 + np) from nt_add 33 np, c33, h13]
  exact ⟨(nt_in (by omega)).mpr (by omega), hK _ ((hP.a (by decide)).a (by decide)) h1⟩
theorem TXT.a16 {k : Nat} {g : Nat → Int32} (h : TXT B N S) (hk : k ≠ 1) : TXT B N (seta S k g) := h.sm (is := []) (bs := []) (ar := [k]) (Sm.rf.a (by simp)) (by simp) (by simp; omega)
theorem ok202 (hA : okA m A) (hW : WFT T) (h4 : T.2.2.1.length < 4) (hR : TR T (S.2.2.1 16)) (hw : RW (ls, 0) (S.2.2.1 18) 0) {nm : List Nat} (hnm : nm.length ≤ 8) {f1 : Nat → Int32} (hN : NP (S.2.2.1 16) f1 (3 + T.2.2.1.length) nm) {R : PR} {K : Hp → Prop} (hK : ∀ S', Pm S S' → PO B N R S' → K (mh m A S' ρ)) {S1 : MS} {a kd w h : Nat} (ha : a ≤ N) (hP : Pm S S1) (ht : TXT B N S1) (hT : TkA B N a S1) (hf : S1.2.1 13 = false) (h18 : S1.2.2.1 18 = S.2.2.1 18) (hQ : Qp f1 T.2.2.1.length kd w h (S1.2.2.1 16)) (hE : R = pieT B N a kd w h nm T ls) : F_X12_pieceLine_202 l G (d + 19) m (nI T.2.2.1.length) (mh m A S1 ρ) K := by
  have c29 : (nI (29 + T.2.2.1.length)).toNatClampNeg = 29 + T.2.2.1.length := nI_clamp (by omega)
  have c33 : (nI (33 + T.2.2.1.length)).toNatClampNeg = 33 + T.2.2.1.length := nI_clamp (by omega)
  obtain ⟨q1, q2, q3, q4⟩ := hQ
  have g4 : S1.2.2.1 16 4 = nI T.2.2.1.length := (q4 4 (by omega) (by omega) (by omega)).trans ((hN.2.2 4 (by omega) (by omega)).trans hR.2.1.2.1)
  have end263 : ∀ (S2 : MS) a2 tn o, a2 ≤ N → Pm S S2 → TXT B N S2 → TkA B N a2 S2 → S2.2.1 13 = false → S2.2.2.1 18 = S.2.2.1 18 → S2.2.2.1 16 = up_ (S1.2.2.1 16) (29 + T.2.2.1.length) (bi tn) → R = .inr (a2, addP T (kd, w, h, tn, o, nm), ls) → F_X12_pieceLine_263 l G (d + 19) m (A 16) (nI (33 + T.2.2.1.length)) (nI o) (mh m A S2 ρ) K := by
    intro S2 a2 tn o ha2 P2 t2 T2 f2 h182 h162 hE2
    have g4' : up_ (S2.2.2.1 16) (33 + T.2.2.1.length) (nI o) 4 = nI T.2.2.1.length := by rw [up_ne (by omega), h162, up_ne (by omega), g4]
    simp only [F_X12_pieceLine_263, F_X12_pieceLine_281, mfI_0, mpI_0, mfN_1, mfI_2, mpI_2, mfI_3, mpI_3, mfI_4, mpI_4, mfI_5, mpI_5, mfI_6, mpI_6, mfI_7, mpI_7, mfI_8, mpI_8, mfI_9, mpI_9, mfI_10, mpI_10, mfI_11, mpI_11, mfN_12, mfZ_13, mpZ_13, mfZ_14, mpZ_14, mfN_15, mfN_16, mfN_17, mfN_18, mfN_19, mfN_20, mfI_21, mpI_21, mfI_22, mpI_22, mfN_23, mfN_24, mfN_25, mfN_26, mfN_27, mfN_28, mfN_29, mfI_30, mpI_30, mfN_31, mfN_32, mfN_33, mfN_34, mfN_35, mfN_36, mfN_37, mfI_38, mpI_38, mfN_39, mfI_40, mpI_40, mfI_41, mpI_41, mgI_1 hA, msI_1 hA, mgI_12 hA, msI_12 hA, mgI_15 hA, msI_15 hA, mgI_16 hA, msI_16 hA, mgI_17 hA, msI_17 hA, mgI_18 hA, msI_18 hA, mgI_19 hA, msI_19 hA, mgI_20 hA, msI_20 hA, mgI_23 hA, msI_23 hA, mgI_24 hA, msI_24 hA, mgI_25 hA, msI_25 hA, mgI_26 hA, msI_26 hA, mgI_27 hA, msI_27 hA, mgI_28 hA, msI_28 hA, mgI_29 hA, msI_29 hA, mgI_31 hA, msI_31 hA, mgI_32 hA, msI_32 hA, mgI_33 hA, msI_33 hA, mgI_34 hA, msI_34 hA, mgI_35 hA, msI_35 hA, mgI_36 hA, msI_36 hA, mgI_39 hA, msI_39 hA, mgJ hA, msJ hA, ms_i, ms_i2, ms_b1, ms_b, ms_b2, ms_a1, ms_a2, ms_a, ms_a3, ms_j1, ms_j2, ms_j3, ms_j, ↓reduceIte, Nat.reduceEqDiff, c33, f2, reduceCtorEq, false_implies, true_implies, forall_const, true_and, and_true, eq_self, show (4 : Int32).toNatClampNeg = 4 from rfl, g4', show nI T.2.2.1.length + 1 = nI (T.2.2.1.length + 1) from nt_add _ 1]
    refine ⟨(nt_in (by omega)).mpr (by omega), (vin 4 (by decide) (by decide)), (vin 4 (by decide) (by decide)), hK _ ((P2.a (by decide)).a (by decide)) ?_⟩
    rw [hE2]
    refine ⟨(t2.a16 (by decide)).a16 (by decide), T2, f2, ?_, ?_⟩
    · simp only [ms_i, ms_i2, ms_b1, ms_b, ms_b2, ms_a1, ms_a2, ms_a, ms_a3, ms_j1, ms_j2, ms_j3, ms_j, ↓reduceIte, Nat.reduceEqDiff]
      refine TR.addP hW hR h4 hN hnm ?_ ?_ ?_ ?_ ?_ ?_ fun i i1 i2 i3 i4 i5 i6 => ?_
      · rw [up_eq]
      · rw [up_ne (by omega), up_ne (by omega), h162, up_ne (by omega)]; exact q1
      · rw [up_ne (by omega), up_ne (by omega), h162, up_ne (by omega)]; exact q2
      · rw [up_ne (by omega), up_ne (by omega), h162, up_ne (by omega)]; exact q3
      · rw [up_ne (by omega), up_ne (by omega), h162, up_eq]
      · rw [up_ne (by omega), up_eq]
      · rw [up_ne i1, up_ne i6, h162, up_ne i5]; exact q4 i i2 i3 i4
    · simp only [ms_i, ms_i2, ms_b1, ms_b, ms_b2, ms_a1, ms_a2, ms_a, ms_a3, ms_j1, ms_j2, ms_j3, ms_j, ↓reduceIte, Nat.reduceEqDiff]
      rw [h182]
      exact hw
  have own225 : ∀ (S2 : MS) a2 tn, a2 ≤ N → Pm S S2 → TXT B N S2 → TkA B N a2 S2 → S2.2.1 13 = false → S2.2.2.1 18 = S.2.2.1 18 → S2.2.2.1 16 = S1.2.2.1 16 → R = pieO B N a2 kd w h tn nm T ls → F_X12_pieceLine_225 l G (d + 19) m (nI T.2.2.1.length) (A 16) (nI (29 + T.2.2.1.length)) tn (mh m A S2 ρ) K := by
    intro S2 a2 tn ha2 P2 t2 T2 f2 h182 h162 hE2
    unfold pieO at hE2
    have t2' := t2.a16 (k := 16) (g := up_ (S1.2.2.1 16) (29 + T.2.2.1.length) (bi tn)) (by decide)
    have T2' := T2.a16 (k := 16) (g := up_ (S1.2.2.1 16) (29 + T.2.2.1.length) (bi tn)) (by decide)
    have P2' : Pm S (seta S2 16 (up_ (S1.2.2.1 16) (29 + T.2.2.1.length) (bi tn))) := P2.a (by decide)
    simp only [F_X12_pieceLine_225, mfI_0, mpI_0, mfN_1, mfI_2, mpI_2, mfI_3, mpI_3, mfI_4, mpI_4, mfI_5, mpI_5, mfI_6, mpI_6, mfI_7, mpI_7, mfI_8, mpI_8, mfI_9, mpI_9, mfI_10, mpI_10, mfI_11, mpI_11, mfN_12, mfZ_13, mpZ_13, mfZ_14, mpZ_14, mfN_15, mfN_16, mfN_17, mfN_18, mfN_19, mfN_20, mfI_21, mpI_21, mfI_22, mpI_22, mfN_23, mfN_24, mfN_25, mfN_26, mfN_27, mfN_28, mfN_29, mfI_30, mpI_30, mfN_31, mfN_32, mfN_33, mfN_34, mfN_35, mfN_36, mfN_37, mfI_38, mpI_38, mfN_39, mfI_40, mpI_40, mfI_41, mpI_41, mgI_1 hA, msI_1 hA, mgI_12 hA, msI_12 hA, mgI_15 hA, msI_15 hA, mgI_16 hA, msI_16 hA, mgI_17 hA, msI_17 hA, mgI_18 hA, msI_18 hA, mgI_19 hA, msI_19 hA, mgI_20 hA, msI_20 hA, mgI_23 hA, msI_23 hA, mgI_24 hA, msI_24 hA, mgI_25 hA, msI_25 hA, mgI_26 hA, msI_26 hA, mgI_27 hA, msI_27 hA, mgI_28 hA, msI_28 hA, mgI_29 hA, msI_29 hA, mgI_31 hA, msI_31 hA, mgI_32 hA, msI_32 hA, mgI_33 hA, msI_33 hA, mgI_34 hA, msI_34 hA, mgI_35 hA, msI_35 hA, mgI_36 hA, msI_36 hA, mgI_39 hA, msI_39 hA, mgJ hA, msJ hA, c29, h162, show (33 : Int32) + nI T.2.2.1.length = nI (33 + T.2.2.1.length) from nt_add 33 _]
    refine ⟨(nt_in (by omega)).mpr (by omega), s_X12_takesWord (d := d + 13) hA (j := 35) rfl ha2 t2' T2' f2 (fun m1 S3 m2 m3 => ?_) (fun m1 => ?_)⟩
    · have m1' : isW B N a2 kwFi = true := m1
      rw [if_pos m1'] at hE2
      simp only [reduceCtorEq, false_implies, true_implies, forall_const, true_and, and_true, eq_self]
      refine end263 S3 _ tn 1 (nx_le ha2) (P2'.nx m2) (t2'.nx m2) m3 ((m2.2.1 13 (by simp)).trans f2) ?_ ?_ hE2
      · exact (m2.2.2.1 18 (by decide)).trans h182
      · rw [m2.2.2.1 16 (by decide)]; simp only [ms_i, ms_i2, ms_b1, ms_b, ms_b2, ms_a1, ms_a2, ms_a, ms_a3, ms_j1, ms_j2, ms_j3, ms_j, ↓reduceIte, Nat.reduceEqDiff]
    · have m1' : isW B N a2 kwFi = false := m1
      rw [if_neg (by rw [m1']; decide)] at hE2
      simp only [reduceCtorEq, false_implies, true_implies, forall_const, true_and, and_true, eq_self]
      refine s_X12_takesWord (d := d + 13) hA (j := 36) rfl ha2 t2' T2' f2 (fun n1 S3 m2 m3 => ?_) (fun n1 => ?_)
      · have n1' : isW B N a2 kwSe = true := n1
        rw [if_pos n1'] at hE2
        simp only [reduceCtorEq, false_implies, true_implies, forall_const, true_and, and_true, eq_self]
        refine end263 S3 _ tn 2 (nx_le ha2) (P2'.nx m2) (t2'.nx m2) m3 ((m2.2.1 13 (by simp)).trans f2) ?_ ?_ hE2
        · exact (m2.2.2.1 18 (by decide)).trans h182
        · rw [m2.2.2.1 16 (by decide)]; simp only [ms_i, ms_i2, ms_b1, ms_b, ms_b2, ms_a1, ms_a2, ms_a, ms_a3, ms_j1, ms_j2, ms_j3, ms_j, ↓reduceIte, Nat.reduceEqDiff]
      · have n1' : isW B N a2 kwSe = false := n1
        rw [if_neg (by rw [n1']; decide)] at hE2
        simp only [reduceCtorEq, false_implies, true_implies, forall_const, true_and, and_true, eq_self]
        refine end263 _ _ tn 0 ha2 P2' t2' T2' f2 h182 ?_ hE2
        simp only [ms_i, ms_i2, ms_b1, ms_b, ms_b2, ms_a1, ms_a2, ms_a, ms_a3, ms_j1, ms_j2, ms_j3, ms_j, ↓reduceIte, Nat.reduceEqDiff]
  unfold pieT at hE
  simp only [F_X12_pieceLine_202, mfI_0, mpI_0, mfN_1, mfI_2, mpI_2, mfI_3, mpI_3, mfI_4, mpI_4, mfI_5, mpI_5, mfI_6, mpI_6, mfI_7, mpI_7, mfI_8, mpI_8, mfI_9, mpI_9, mfI_10, mpI_10, mfI_11, mpI_11, mfN_12, mfZ_13, mpZ_13, mfZ_14, mpZ_14, mfN_15, mfN_16, mfN_17, mfN_18, mfN_19, mfN_20, mfI_21, mpI_21, mfI_22, mpI_22, mfN_23, mfN_24, mfN_25, mfN_26, mfN_27, mfN_28, mfN_29, mfI_30, mpI_30, mfN_31, mfN_32, mfN_33, mfN_34, mfN_35, mfN_36, mfN_37, mfI_38, mpI_38, mfN_39, mfI_40, mpI_40, mfI_41, mpI_41, show (29 : Int32) + nI T.2.2.1.length = nI (29 + T.2.2.1.length) from nt_add 29 _]
  refine s_X12_takesWord (d := d + 13) hA (j := 34) rfl ha ht hT hf (fun m1 S2 m2 m3 => ?_) (fun m1 => ?_)
  · have m1' : isW B N a kwTu = true := m1
    rw [if_pos m1'] at hE
    simp only [reduceCtorEq, false_implies, true_implies, forall_const, true_and, and_true, eq_self]
    exact own225 S2 _ true (nx_le ha) (hP.nx m2) (ht.nx m2) m3 ((m2.2.1 13 (by simp)).trans hf) ((m2.2.2.1 18 (by decide)).trans h18) (m2.2.2.1 16 (by decide)) hE
  · have m1' : isW B N a kwTu = false := m1
    rw [if_neg (by rw [m1']; decide)] at hE
    simp only [reduceCtorEq, false_implies, true_implies, forall_const, true_and, and_true, eq_self]
    exact own225 S1 _ false ha hP ht hT hf h18 rfl hE
theorem ok72 (hA : okA m A) (hW : WFT T) (h4 : T.2.2.1.length < 4) (hR : TR T (S.2.2.1 16)) (hw : RW (ls, 0) (S.2.2.1 18) 0) {nm : List Nat} (hnm : nm.length ≤ 8) {R : PR} {K : Hp → Prop} (hK : ∀ S', Pm S S' → PO B N R S' → K (mh m A S' ρ)) {S1 : MS} {a kd : Nat} (hk : kd ≤ 2) (ha : a ≤ N) (hP : Pm S S1) (ht : TXT B N S1) (hT : TkA B N a S1) (hf : S1.2.1 13 = false) (h18 : S1.2.2.1 18 = S.2.2.1 18) (hN : NP (S.2.2.1 16) (S1.2.2.1 16) (3 + T.2.2.1.length) nm) (hE : R = pieK B N a kd nm T ls) : F_X12_pieceLine_72 l G (d + 19) m (nI T.2.2.1.length) (nI kd) (mh m A S1 ρ) K := by
  have hhb := ht.2.2.1
  have c17 : (nI (17 + T.2.2.1.length)).toNatClampNeg = 17 + T.2.2.1.length := nI_clamp (by omega)
  have c21 : (nI (21 + T.2.2.1.length)).toNatClampNeg = 21 + T.2.2.1.length := nI_clamp (by omega)
  have c25 : (nI (25 + T.2.2.1.length)).toNatClampNeg = 25 + T.2.2.1.length := nI_clamp (by omega)
  have i21 : vp_in (nI (21 + T.2.2.1.length)) 100 := (nt_in (by omega)).mpr (by omega)
  have i25 : vp_in (nI (25 + T.2.2.1.length)) 100 := (nt_in (by omega)).mpr (by omega)
  have hKf : ∀ f p, R = .inl (f, p) → ∀ S', Pm S S' → FL f p S' → K (mh m A S' ρ) := fun f p h S' h1 h2 => hK S' h1 (by rw [h]; exact h2)
  have pl := pL_bd kd
  have hlo : pLo kd < 2 ^ 31 := by unfold pLo; split <;> omega
  have hhi : pHi kd < 2 ^ 31 := by omega
  -- the second number
  have fl198 : ∀ f p (S2 : MS) lo hi, R = .inl (f, p) → Pm S S2 → FL f p S2 → F_X12_pieceLine_198 l G (d + 19) m (nI T.2.2.1.length) (A 16) (nI (25 + T.2.2.1.length)) m lo hi (mh m A S2 ρ) K := by
    intro f p S2 lo hi hE2 P2 F2
    simp only [F_X12_pieceLine_198]
    refine s_X12_number_f F2.1 ?_
    simp only [mfI_0, mpI_0, mfN_1, mfI_2, mpI_2, mfI_3, mpI_3, mfI_4, mpI_4, mfI_5, mpI_5, mfI_6, mpI_6, mfI_7, mpI_7, mfI_8, mpI_8, mfI_9, mpI_9, mfI_10, mpI_10, mfI_11, mpI_11, mfN_12, mfZ_13, mpZ_13, mfZ_14, mpZ_14, mfN_15, mfN_16, mfN_17, mfN_18, mfN_19, mfN_20, mfI_21, mpI_21, mfI_22, mpI_22, mfN_23, mfN_24, mfN_25, mfN_26, mfN_27, mfN_28, mfN_29, mfI_30, mpI_30, mfN_31, mfN_32, mfN_33, mfN_34, mfN_35, mfN_36, mfN_37, mfI_38, mpI_38, mfN_39, mfI_40, mpI_40, mfI_41, mpI_41, mgI_1 hA, msI_1 hA, mgI_12 hA, msI_12 hA, mgI_15 hA, msI_15 hA, mgI_16 hA, msI_16 hA, mgI_17 hA, msI_17 hA, mgI_18 hA, msI_18 hA, mgI_19 hA, msI_19 hA, mgI_20 hA, msI_20 hA, mgI_23 hA, msI_23 hA, mgI_24 hA, msI_24 hA, mgI_25 hA, msI_25 hA, mgI_26 hA, msI_26 hA, mgI_27 hA, msI_27 hA, mgI_28 hA, msI_28 hA, mgI_29 hA, msI_29 hA, mgI_31 hA, msI_31 hA, mgI_32 hA, msI_32 hA, mgI_33 hA, msI_33 hA, mgI_34 hA, msI_34 hA, mgI_35 hA, msI_35 hA, mgI_36 hA, msI_36 hA, mgI_39 hA, msI_39 hA, mgJ hA, msJ hA, c25]
    exact ⟨i25, fl202 hA h4 (hKf f p hE2) (P2.a (by decide)) F2⟩
  have ok198 : ∀ (S2 : MS) a2 w, a2 ≤ N → Pm S S2 → TXT B N S2 → TkA B N a2 S2 → S2.2.1 13 = false → S2.2.2.1 18 = S.2.2.1 18 → (S2.2.2.1 16 (17 + T.2.2.1.length) = nI kd ∧ S2.2.2.1 16 (21 + T.2.2.1.length) = nI w ∧ ∀ i, i ≠ 17 + T.2.2.1.length → i ≠ 21 + T.2.2.1.length → i ≠ 25 + T.2.2.1.length → S2.2.2.1 16 i = S1.2.2.1 16 i) → R = pieH B N a2 kd w nm T ls → F_X12_pieceLine_198 l G (d + 19) m (nI T.2.2.1.length) (A 16) (nI (25 + T.2.2.1.length)) m (nI (pLo kd)) (nI (pHi kd)) (mh m A S2 ρ) K := by
    intro S2 a2 w ha2 P2 t2 T2 f2 h182 h162 hE2
    obtain ⟨u1, u2, u3⟩ := h162
    simp only [F_X12_pieceLine_198]
    refine s_X12_number (d := d + 16) hA t2 T2 ha2 f2 hlo hhi (fun k1 k2 k3 S3 k4 k5 => ?_) (fun k1 => ?_) (fun k1 k2 => ?_)
    · have e3 : R = pieT B N (nx B N a2) kd w (tV B N a2) nm T ls := by
        rw [hE2]; unfold pieH ckN; rw [decide_eq_true k1, ck_t, decide_eq_true ⟨k2, k3⟩, ck_t]
      have h163 : S3.2.2.1 16 = S2.2.2.1 16 := k4.2.2.1 16 (by decide)
      simp only [mfI_0, mpI_0, mfN_1, mfI_2, mpI_2, mfI_3, mpI_3, mfI_4, mpI_4, mfI_5, mpI_5, mfI_6, mpI_6, mfI_7, mpI_7, mfI_8, mpI_8, mfI_9, mpI_9, mfI_10, mpI_10, mfI_11, mpI_11, mfN_12, mfZ_13, mpZ_13, mfZ_14, mpZ_14, mfN_15, mfN_16, mfN_17, mfN_18, mfN_19, mfN_20, mfI_21, mpI_21, mfI_22, mpI_22, mfN_23, mfN_24, mfN_25, mfN_26, mfN_27, mfN_28, mfN_29, mfI_30, mpI_30, mfN_31, mfN_32, mfN_33, mfN_34, mfN_35, mfN_36, mfN_37, mfI_38, mpI_38, mfN_39, mfI_40, mpI_40, mfI_41, mpI_41, mgI_1 hA, msI_1 hA, mgI_12 hA, msI_12 hA, mgI_15 hA, msI_15 hA, mgI_16 hA, msI_16 hA, mgI_17 hA, msI_17 hA, mgI_18 hA, msI_18 hA, mgI_19 hA, msI_19 hA, mgI_20 hA, msI_20 hA, mgI_23 hA, msI_23 hA, mgI_24 hA, msI_24 hA, mgI_25 hA, msI_25 hA, mgI_26 hA, msI_26 hA, mgI_27 hA, msI_27 hA, mgI_28 hA, msI_28 hA, mgI_29 hA, msI_29 hA, mgI_31 hA, msI_31 hA, mgI_32 hA, msI_32 hA, mgI_33 hA, msI_33 hA, mgI_34 hA, msI_34 hA, mgI_35 hA, msI_35 hA, mgI_36 hA, msI_36 hA, mgI_39 hA, msI_39 hA, mgJ hA, msJ hA, c25]
      refine ⟨i25, ok202 hA hW h4 hR hw hnm hN hK (nx_le ha2) ((P2.nx k4).a (by decide)) ((t2.nx k4).a16 (by decide)) k5 ((k4.2.1 13 (by simp)).trans f2) ((k4.2.2.1 18 (by decide)).trans h182) ⟨?_, ?_, ?_, fun i j1 j2 j3 => ?_⟩ e3⟩
      · simp only [ms_i, ms_i2, ms_b1, ms_b, ms_b2, ms_a1, ms_a2, ms_a, ms_a3, ms_j1, ms_j2, ms_j3, ms_j, ↓reduceIte, Nat.reduceEqDiff]; rw [up_ne (by omega), h163, u1]
      · simp only [ms_i, ms_i2, ms_b1, ms_b, ms_b2, ms_a1, ms_a2, ms_a, ms_a3, ms_j1, ms_j2, ms_j3, ms_j, ↓reduceIte, Nat.reduceEqDiff]; rw [up_ne (by omega), h163, u2]
      · simp only [ms_i, ms_i2, ms_b1, ms_b, ms_b2, ms_a1, ms_a2, ms_a, ms_a3, ms_j1, ms_j2, ms_j3, ms_j, ↓reduceIte, Nat.reduceEqDiff]; rw [up_eq]
      · simp only [ms_i, ms_i2, ms_b1, ms_b, ms_b2, ms_a1, ms_a2, ms_a, ms_a3, ms_j1, ms_j2, ms_j3, ms_j, ↓reduceIte, Nat.reduceEqDiff]; rw [up_ne j3, h163, u3 i j1 j2 j3]
    · simp only [mfI_0, mpI_0, mfN_1, mfI_2, mpI_2, mfI_3, mpI_3, mfI_4, mpI_4, mfI_5, mpI_5, mfI_6, mpI_6, mfI_7, mpI_7, mfI_8, mpI_8, mfI_9, mpI_9, mfI_10, mpI_10, mfI_11, mpI_11, mfN_12, mfZ_13, mpZ_13, mfZ_14, mpZ_14, mfN_15, mfN_16, mfN_17, mfN_18, mfN_19, mfN_20, mfI_21, mpI_21, mfI_22, mpI_22, mfN_23, mfN_24, mfN_25, mfN_26, mfN_27, mfN_28, mfN_29, mfI_30, mpI_30, mfN_31, mfN_32, mfN_33, mfN_34, mfN_35, mfN_36, mfN_37, mfI_38, mpI_38, mfN_39, mfI_40, mpI_40, mfI_41, mpI_41, mgI_1 hA, msI_1 hA, mgI_12 hA, msI_12 hA, mgI_15 hA, msI_15 hA, mgI_16 hA, msI_16 hA, mgI_17 hA, msI_17 hA, mgI_18 hA, msI_18 hA, mgI_19 hA, msI_19 hA, mgI_20 hA, msI_20 hA, mgI_23 hA, msI_23 hA, mgI_24 hA, msI_24 hA, mgI_25 hA, msI_25 hA, mgI_26 hA, msI_26 hA, mgI_27 hA, msI_27 hA, mgI_28 hA, msI_28 hA, mgI_29 hA, msI_29 hA, mgI_31 hA, msI_31 hA, mgI_32 hA, msI_32 hA, mgI_33 hA, msI_33 hA, mgI_34 hA, msI_34 hA, mgI_35 hA, msI_35 hA, mgI_36 hA, msI_36 hA, mgI_39 hA, msI_39 hA, mgJ hA, msJ hA, c25]
      exact ⟨i25, fl202 hA h4 (hKf 1 a2 (by rw [hE2]; unfold pieH ckN; rw [decide_eq_false k1, ck_f])) ((P2.wr (f := 1)).a (by decide)) (FL.a FL.wr)⟩
    · simp only [mfI_0, mpI_0, mfN_1, mfI_2, mpI_2, mfI_3, mpI_3, mfI_4, mpI_4, mfI_5, mpI_5, mfI_6, mpI_6, mfI_7, mpI_7, mfI_8, mpI_8, mfI_9, mpI_9, mfI_10, mpI_10, mfI_11, mpI_11, mfN_12, mfZ_13, mpZ_13, mfZ_14, mpZ_14, mfN_15, mfN_16, mfN_17, mfN_18, mfN_19, mfN_20, mfI_21, mpI_21, mfI_22, mpI_22, mfN_23, mfN_24, mfN_25, mfN_26, mfN_27, mfN_28, mfN_29, mfI_30, mpI_30, mfN_31, mfN_32, mfN_33, mfN_34, mfN_35, mfN_36, mfN_37, mfI_38, mpI_38, mfN_39, mfI_40, mpI_40, mfI_41, mpI_41, mgI_1 hA, msI_1 hA, mgI_12 hA, msI_12 hA, mgI_15 hA, msI_15 hA, mgI_16 hA, msI_16 hA, mgI_17 hA, msI_17 hA, mgI_18 hA, msI_18 hA, mgI_19 hA, msI_19 hA, mgI_20 hA, msI_20 hA, mgI_23 hA, msI_23 hA, mgI_24 hA, msI_24 hA, mgI_25 hA, msI_25 hA, mgI_26 hA, msI_26 hA, mgI_27 hA, msI_27 hA, mgI_28 hA, msI_28 hA, mgI_29 hA, msI_29 hA, mgI_31 hA, msI_31 hA, mgI_32 hA, msI_32 hA, mgI_33 hA, msI_33 hA, mgI_34 hA, msI_34 hA, mgI_35 hA, msI_35 hA, mgI_36 hA, msI_36 hA, mgI_39 hA, msI_39 hA, mgJ hA, msJ hA, c25]
      exact ⟨i25, fl202 hA h4 (hKf 4 a2 (by rw [hE2]; unfold pieH ckN; rw [decide_eq_true k1, ck_t, decide_eq_false k2, ck_f])) ((P2.wr (f := 4)).a (by decide)) (FL.a FL.wr)⟩
  -- the word for bounds
  have sel : ∀ (P : Int32 → Int32 → Prop), kd ≠ 0 → P (nI (pLo kd)) (nI (pHi kd)) → (¬ nI kd = (1 : Int32) → P 2 3) ∧ (nI kd = (1 : Int32) → P 1 4) := by
    intro P h0 hP
    refine ⟨fun h1 => ?_, fun h1 => ?_⟩
    · have h1' : kd ≠ 1 := fun e => h1 (by rw [e]; rfl)
      obtain ⟨e1, e2⟩ := pl.2.2.2 h1'
      rw [e1, e2] at hP; exact hP
    · have h1' : kd = 1 := (nt_1 (by omega)).mp h1
      obtain ⟨e1, e2⟩ := pl.2.2.1 h1'
      rw [e1, e2] at hP; exact hP
  have fl161 : ∀ f p (S2 : MS) (v : Int32), kd ≠ 0 → R = .inl (f, p) → Pm S S2 → FL f p S2 → (C_X12_mustComma l G (d + 19) m (mh m A (seta S2 16 (up_ (S2.2.2.1 16) (21 + T.2.2.1.length) v)) ρ) fun σ26 => fN σ26 m 12 16 fun x28 => (¬ (nI kd : Int32) = (1 : Int32) → F_X12_pieceLine_188 l G (d + 19) m (nI T.2.2.1.length) (nI kd) x28 (nI (25 + T.2.2.1.length)) m 2 σ26 K) ∧ ((nI kd : Int32) = (1 : Int32) → F_X12_pieceLine_188 l G (d + 19) m (nI T.2.2.1.length) (nI kd) x28 (nI (25 + T.2.2.1.length)) m 1 σ26 K)) := by
    intro f p S2 v h0 hE2 P2 F2
    refine s_X12_mustComma_f (by exact F2.1) ?_
    simp only [F_X12_pieceLine_188, mfI_0, mpI_0, mfN_1, mfI_2, mpI_2, mfI_3, mpI_3, mfI_4, mpI_4, mfI_5, mpI_5, mfI_6, mpI_6, mfI_7, mpI_7, mfI_8, mpI_8, mfI_9, mpI_9, mfI_10, mpI_10, mfI_11, mpI_11, mfN_12, mfZ_13, mpZ_13, mfZ_14, mpZ_14, mfN_15, mfN_16, mfN_17, mfN_18, mfN_19, mfN_20, mfI_21, mpI_21, mfI_22, mpI_22, mfN_23, mfN_24, mfN_25, mfN_26, mfN_27, mfN_28, mfN_29, mfI_30, mpI_30, mfN_31, mfN_32, mfN_33, mfN_34, mfN_35, mfN_36, mfN_37, mfI_38, mpI_38, mfN_39, mfI_40, mpI_40, mfI_41, mpI_41]
    have := fl198 f p (seta S2 16 (up_ (S2.2.2.1 16) (21 + T.2.2.1.length) v)) (nI (pLo kd)) (nI (pHi kd)) hE2 (P2.a (by decide)) F2
    exact ⟨fun _ => ⟨fun _ => fl198 f p _ _ _ hE2 (P2.a (by decide)) F2, fun _ => fl198 f p _ _ _ hE2 (P2.a (by decide)) F2⟩, fun _ => ⟨fun _ => fl198 f p _ _ _ hE2 (P2.a (by decide)) F2, fun _ => fl198 f p _ _ _ hE2 (P2.a (by decide)) F2⟩⟩
  simp only [F_X12_pieceLine_72]
  refine ⟨fun _ => ?_, fun hc => absurd (fa_of_nlt (nt_neg (show kd < 2 ^ 31 by omega))) hc⟩
  simp only [F_X12_pieceLine_86, mfI_0, mpI_0, mfN_1, mfI_2, mpI_2, mfI_3, mpI_3, mfI_4, mpI_4, mfI_5, mpI_5, mfI_6, mpI_6, mfI_7, mpI_7, mfI_8, mpI_8, mfI_9, mpI_9, mfI_10, mpI_10, mfI_11, mpI_11, mfN_12, mfZ_13, mpZ_13, mfZ_14, mpZ_14, mfN_15, mfN_16, mfN_17, mfN_18, mfN_19, mfN_20, mfI_21, mpI_21, mfI_22, mpI_22, mfN_23, mfN_24, mfN_25, mfN_26, mfN_27, mfN_28, mfN_29, mfI_30, mpI_30, mfN_31, mfN_32, mfN_33, mfN_34, mfN_35, mfN_36, mfN_37, mfI_38, mpI_38, mfN_39, mfI_40, mpI_40, mfI_41, mpI_41, hf, reduceCtorEq, false_implies, true_implies, forall_const, true_and, and_true, eq_self]
  refine s_X12_nx (d := d + 17) hA ha ht hT fun S2 m2 m3 => ?_
  have a2 := nx_le (B := B) ha
  have P2 := hP.nx m2
  have t2 := ht.nx m2
  have f2 : S2.2.1 13 = false := (m2.2.1 13 (by simp)).trans hf
  have h162 : S2.2.2.1 16 = S1.2.2.1 16 := m2.2.2.1 16 (by decide)
  simp only [mfI_0, mpI_0, mfN_1, mfI_2, mpI_2, mfI_3, mpI_3, mfI_4, mpI_4, mfI_5, mpI_5, mfI_6, mpI_6, mfI_7, mpI_7, mfI_8, mpI_8, mfI_9, mpI_9, mfI_10, mpI_10, mfI_11, mpI_11, mfN_12, mfZ_13, mpZ_13, mfZ_14, mpZ_14, mfN_15, mfN_16, mfN_17, mfN_18, mfN_19, mfN_20, mfI_21, mpI_21, mfI_22, mpI_22, mfN_23, mfN_24, mfN_25, mfN_26, mfN_27, mfN_28, mfN_29, mfI_30, mpI_30, mfN_31, mfN_32, mfN_33, mfN_34, mfN_35, mfN_36, mfN_37, mfI_38, mpI_38, mfN_39, mfI_40, mpI_40, mfI_41, mpI_41, mgI_1 hA, msI_1 hA, mgI_12 hA, msI_12 hA, mgI_15 hA, msI_15 hA, mgI_16 hA, msI_16 hA, mgI_17 hA, msI_17 hA, mgI_18 hA, msI_18 hA, mgI_19 hA, msI_19 hA, mgI_20 hA, msI_20 hA, mgI_23 hA, msI_23 hA, mgI_24 hA, msI_24 hA, mgI_25 hA, msI_25 hA, mgI_26 hA, msI_26 hA, mgI_27 hA, msI_27 hA, mgI_28 hA, msI_28 hA, mgI_29 hA, msI_29 hA, mgI_31 hA, msI_31 hA, mgI_32 hA, msI_32 hA, mgI_33 hA, msI_33 hA, mgI_34 hA, msI_34 hA, mgI_35 hA, msI_35 hA, mgI_36 hA, msI_36 hA, mgI_39 hA, msI_39 hA, mgJ hA, msJ hA, ms_i, ms_i2, ms_b1, ms_b, ms_b2, ms_a1, ms_a2, ms_a, ms_a3, ms_j1, ms_j2, ms_j3, ms_j, ↓reduceIte, Nat.reduceEqDiff, show (17 : Int32) + nI T.2.2.1.length = nI (17 + T.2.2.1.length) from nt_add 17 _, show (21 : Int32) + nI T.2.2.1.length = nI (21 + T.2.2.1.length) from nt_add 21 _, show (25 : Int32) + nI T.2.2.1.length = nI (25 + T.2.2.1.length) from nt_add 25 _, c17, c21, c25]
  rw [nt_0 (show kd < 2 ^ 31 by omega)]
  have P3 : Pm S (seta (seta (seta S2 16 (up_ (S2.2.2.1 16) (17 + T.2.2.1.length) (nI kd))) 16 (up_ (up_ (S2.2.2.1 16) (17 + T.2.2.1.length) (nI kd)) (21 + T.2.2.1.length) 1)) 16 (up_ (up_ (up_ (S2.2.2.1 16) (17 + T.2.2.1.length) (nI kd)) (21 + T.2.2.1.length) 1) (25 + T.2.2.1.length) 1)) := ((P2.a (by decide)).a (by decide)).a (by decide)
  have t3 := ((t2.a16 (k := 16) (g := up_ (S2.2.2.1 16) (17 + T.2.2.1.length) (nI kd)) (by decide)).a16 (k := 16) (g := up_ (up_ (S2.2.2.1 16) (17 + T.2.2.1.length) (nI kd)) (21 + T.2.2.1.length) 1) (by decide)).a16 (k := 16) (g := up_ (up_ (up_ (S2.2.2.1 16) (17 + T.2.2.1.length) (nI kd)) (21 + T.2.2.1.length) 1) (25 + T.2.2.1.length) 1) (by decide)
  have h183 : S2.2.2.1 18 = S.2.2.1 18 := (m2.2.2.1 18 (by decide)).trans h18
  refine ⟨(nt_in (by omega)).mpr (by omega), i21, i25, fun h0 => ?_, fun h0 => ?_⟩
  · subst h0
    refine ok202 hA hW h4 hR hw hnm hN hK a2 P3 t3 m3 f2 h183 ⟨?_, ?_, ?_, fun i j1 j2 j3 => ?_⟩ (kd := 0) (w := 1) (h := 1) (by rw [hE]; unfold pieK; rw [if_pos rfl])
    · simp only [ms_i, ms_i2, ms_b1, ms_b, ms_b2, ms_a1, ms_a2, ms_a, ms_a3, ms_j1, ms_j2, ms_j3, ms_j, ↓reduceIte, Nat.reduceEqDiff]; rw [up_ne (by omega), up_ne (by omega), up_eq]
    · simp only [ms_i, ms_i2, ms_b1, ms_b, ms_b2, ms_a1, ms_a2, ms_a, ms_a3, ms_j1, ms_j2, ms_j3, ms_j, ↓reduceIte, Nat.reduceEqDiff]; rw [up_ne (by omega), up_eq]; rfl
    · simp only [ms_i, ms_i2, ms_b1, ms_b, ms_b2, ms_a1, ms_a2, ms_a, ms_a3, ms_j1, ms_j2, ms_j3, ms_j, ↓reduceIte, Nat.reduceEqDiff]; rw [up_eq]; rfl
    · simp only [ms_i, ms_i2, ms_b1, ms_b, ms_b2, ms_a1, ms_a2, ms_a, ms_a3, ms_j1, ms_j2, ms_j3, ms_j, ↓reduceIte, Nat.reduceEqDiff]; rw [up_ne j3, up_ne j2, up_ne j1, h162]
  · have hE1 : R = pieW B N (nx B N a) kd nm T ls := by rw [hE]; unfold pieK; rw [if_neg h0]
    have main : F_X12_pieceLine_161 l G (d + 19) m (nI T.2.2.1.length) (nI kd) (A 16) (nI (21 + T.2.2.1.length)) m (nI (pLo kd)) (nI (pHi kd)) (mh m A (seta (seta (seta S2 16 (up_ (S2.2.2.1 16) (17 + T.2.2.1.length) (nI kd))) 16 (up_ (up_ (S2.2.2.1 16) (17 + T.2.2.1.length) (nI kd)) (21 + T.2.2.1.length) 1)) 16 (up_ (up_ (up_ (S2.2.2.1 16) (17 + T.2.2.1.length) (nI kd)) (21 + T.2.2.1.length) 1) (25 + T.2.2.1.length) 1)) ρ) K := by
      simp only [F_X12_pieceLine_161, show (25 : Int32) + nI T.2.2.1.length = nI (25 + T.2.2.1.length) from nt_add 25 _]
      refine s_X12_number (d := d + 16) hA t3 m3 a2 f2 hlo hhi (fun k1 k2 k3 S3 k4 k5 => ?_) (fun k1 => ?_) (fun k1 k2 => ?_)
      · simp only [mfI_0, mpI_0, mfN_1, mfI_2, mpI_2, mfI_3, mpI_3, mfI_4, mpI_4, mfI_5, mpI_5, mfI_6, mpI_6, mfI_7, mpI_7, mfI_8, mpI_8, mfI_9, mpI_9, mfI_10, mpI_10, mfI_11, mpI_11, mfN_12, mfZ_13, mpZ_13, mfZ_14, mpZ_14, mfN_15, mfN_16, mfN_17, mfN_18, mfN_19, mfN_20, mfI_21, mpI_21, mfI_22, mpI_22, mfN_23, mfN_24, mfN_25, mfN_26, mfN_27, mfN_28, mfN_29, mfI_30, mpI_30, mfN_31, mfN_32, mfN_33, mfN_34, mfN_35, mfN_36, mfN_37, mfI_38, mpI_38, mfN_39, mfI_40, mpI_40, mfI_41, mpI_41, mgI_1 hA, msI_1 hA, mgI_12 hA, msI_12 hA, mgI_15 hA, msI_15 hA, mgI_16 hA, msI_16 hA, mgI_17 hA, msI_17 hA, mgI_18 hA, msI_18 hA, mgI_19 hA, msI_19 hA, mgI_20 hA, msI_20 hA, mgI_23 hA, msI_23 hA, mgI_24 hA, msI_24 hA, mgI_25 hA, msI_25 hA, mgI_26 hA, msI_26 hA, mgI_27 hA, msI_27 hA, mgI_28 hA, msI_28 hA, mgI_29 hA, msI_29 hA, mgI_31 hA, msI_31 hA, mgI_32 hA, msI_32 hA, mgI_33 hA, msI_33 hA, mgI_34 hA, msI_34 hA, mgI_35 hA, msI_35 hA, mgI_36 hA, msI_36 hA, mgI_39 hA, msI_39 hA, mgJ hA, msJ hA, c21]
        have a3 := nx_le (B := B) a2
        have P4 := (P3.nx k4).a (k := 16) (f := up_ (S3.2.2.1 16) (21 + T.2.2.1.length) (nI (tV B N (nx B N a)))) (by decide)
        have t4 := (t3.nx k4).a16 (k := 16) (g := up_ (S3.2.2.1 16) (21 + T.2.2.1.length) (nI (tV B N (nx B N a)))) (by decide)
        have f3 : S3.2.1 13 = false := (k4.2.1 13 (by simp)).trans f2
        have e2 : R = ck (decide (eK B N (nx B N (nx B N a)) = 44)) 1 (nx B N (nx B N a)) (pieH B N (nx B N (nx B N (nx B N a))) kd (tV B N (nx B N a)) nm T ls) := by
          rw [hE1]; unfold pieW ckN; rw [decide_eq_true k1, ck_t, decide_eq_true ⟨k2, k3⟩, ck_t]
        refine ⟨i21, s_X12_mustComma (d := d + 16) hA a3 t4 k5 f3 (fun y1 S4 y2 y3 => ?_) (fun y1 => ?_)⟩
        · simp only [F_X12_pieceLine_188, mfI_0, mpI_0, mfN_1, mfI_2, mpI_2, mfI_3, mpI_3, mfI_4, mpI_4, mfI_5, mpI_5, mfI_6, mpI_6, mfI_7, mpI_7, mfI_8, mpI_8, mfI_9, mpI_9, mfI_10, mpI_10, mfI_11, mpI_11, mfN_12, mfZ_13, mpZ_13, mfZ_14, mpZ_14, mfN_15, mfN_16, mfN_17, mfN_18, mfN_19, mfN_20, mfI_21, mpI_21, mfI_22, mpI_22, mfN_23, mfN_24, mfN_25, mfN_26, mfN_27, mfN_28, mfN_29, mfI_30, mpI_30, mfN_31, mfN_32, mfN_33, mfN_34, mfN_35, mfN_36, mfN_37, mfI_38, mpI_38, mfN_39, mfI_40, mpI_40, mfI_41, mpI_41]
          rw [decide_eq_true y1, ck_t] at e2
          have h164 : S4.2.2.1 16 = up_ (S3.2.2.1 16) (21 + T.2.2.1.length) (nI (tV B N (nx B N a))) := by rw [y2.2.2.1 16 (by decide)]; simp only [ms_i, ms_i2, ms_b1, ms_b, ms_b2, ms_a1, ms_a2, ms_a, ms_a3, ms_j1, ms_j2, ms_j3, ms_j, ↓reduceIte, Nat.reduceEqDiff]
          have h163 : S3.2.2.1 16 = up_ (up_ (up_ (S2.2.2.1 16) (17 + T.2.2.1.length) (nI kd)) (21 + T.2.2.1.length) 1) (25 + T.2.2.1.length) 1 := by rw [k4.2.2.1 16 (by decide)]; simp only [ms_i, ms_i2, ms_b1, ms_b, ms_b2, ms_a1, ms_a2, ms_a, ms_a3, ms_j1, ms_j2, ms_j3, ms_j, ↓reduceIte, Nat.reduceEqDiff]
          have h184 : S4.2.2.1 18 = S.2.2.1 18 := by rw [y2.2.2.1 18 (by decide)]; simp only [ms_i, ms_i2, ms_b1, ms_b, ms_b2, ms_a1, ms_a2, ms_a, ms_a3, ms_j1, ms_j2, ms_j3, ms_j, ↓reduceIte, Nat.reduceEqDiff]; rw [k4.2.2.1 18 (by decide)]; simp only [ms_i, ms_i2, ms_b1, ms_b, ms_b2, ms_a1, ms_a2, ms_a, ms_a3, ms_j1, ms_j2, ms_j3, ms_j, ↓reduceIte, Nat.reduceEqDiff]; exact h183
          have fin := ok198 S4 _ (tV B N (nx B N a)) (nx_le a3) (P4.nx y2) (t4.nx y2) y3 ((y2.2.1 13 (by simp)).trans f3) h184 ⟨?_, ?_, fun i j1 j2 j3 => ?_⟩ e2
          · exact sel (fun lo hi => (¬ (nI kd : Int32) = (1 : Int32) → F_X12_pieceLine_198 l G (d + 19) m (nI T.2.2.1.length) (A 16) (nI (25 + T.2.2.1.length)) m lo 3 (mh m A S4 ρ) K) ∧ ((nI kd : Int32) = (1 : Int32) → F_X12_pieceLine_198 l G (d + 19) m (nI T.2.2.1.length) (A 16) (nI (25 + T.2.2.1.length)) m lo 4 (mh m A S4 ρ) K)) h0 (by
              refine ⟨fun h1 => ?_, fun h1 => ?_⟩
              · have h1' : kd ≠ 1 := fun e => h1 (by rw [e]; rfl)
                rw [(pl.2.2.2 h1').2] at fin; exact fin
              · have h1' : kd = 1 := (nt_1 (by omega)).mp h1
                rw [(pl.2.2.1 h1').2] at fin; exact fin)
          · rw [h164, up_ne (by omega), h163, up_ne (by omega), up_ne (by omega), up_eq]
          · rw [h164, up_eq]
          · rw [h164, up_ne j2, h163, up_ne j3, up_ne j2, up_ne j1, h162]
        · rw [decide_eq_false y1, ck_f] at e2
          simp only [F_X12_pieceLine_188, mfI_0, mpI_0, mfN_1, mfI_2, mpI_2, mfI_3, mpI_3, mfI_4, mpI_4, mfI_5, mpI_5, mfI_6, mpI_6, mfI_7, mpI_7, mfI_8, mpI_8, mfI_9, mpI_9, mfI_10, mpI_10, mfI_11, mpI_11, mfN_12, mfZ_13, mpZ_13, mfZ_14, mpZ_14, mfN_15, mfN_16, mfN_17, mfN_18, mfN_19, mfN_20, mfI_21, mpI_21, mfI_22, mpI_22, mfN_23, mfN_24, mfN_25, mfN_26, mfN_27, mfN_28, mfN_29, mfI_30, mpI_30, mfN_31, mfN_32, mfN_33, mfN_34, mfN_35, mfN_36, mfN_37, mfI_38, mpI_38, mfN_39, mfI_40, mpI_40, mfI_41, mpI_41]
          exact ⟨fun _ => ⟨fun _ => fl198 _ _ _ _ _ e2 (P4.wr (f := 1)) FL.wr, fun _ => fl198 _ _ _ _ _ e2 (P4.wr (f := 1)) FL.wr⟩, fun _ => ⟨fun _ => fl198 _ _ _ _ _ e2 (P4.wr (f := 1)) FL.wr, fun _ => fl198 _ _ _ _ _ e2 (P4.wr (f := 1)) FL.wr⟩⟩
      · simp only [mfI_0, mpI_0, mfN_1, mfI_2, mpI_2, mfI_3, mpI_3, mfI_4, mpI_4, mfI_5, mpI_5, mfI_6, mpI_6, mfI_7, mpI_7, mfI_8, mpI_8, mfI_9, mpI_9, mfI_10, mpI_10, mfI_11, mpI_11, mfN_12, mfZ_13, mpZ_13, mfZ_14, mpZ_14, mfN_15, mfN_16, mfN_17, mfN_18, mfN_19, mfN_20, mfI_21, mpI_21, mfI_22, mpI_22, mfN_23, mfN_24, mfN_25, mfN_26, mfN_27, mfN_28, mfN_29, mfI_30, mpI_30, mfN_31, mfN_32, mfN_33, mfN_34, mfN_35, mfN_36, mfN_37, mfI_38, mpI_38, mfN_39, mfI_40, mpI_40, mfI_41, mpI_41, mgI_1 hA, msI_1 hA, mgI_12 hA, msI_12 hA, mgI_15 hA, msI_15 hA, mgI_16 hA, msI_16 hA, mgI_17 hA, msI_17 hA, mgI_18 hA, msI_18 hA, mgI_19 hA, msI_19 hA, mgI_20 hA, msI_20 hA, mgI_23 hA, msI_23 hA, mgI_24 hA, msI_24 hA, mgI_25 hA, msI_25 hA, mgI_26 hA, msI_26 hA, mgI_27 hA, msI_27 hA, mgI_28 hA, msI_28 hA, mgI_29 hA, msI_29 hA, mgI_31 hA, msI_31 hA, mgI_32 hA, msI_32 hA, mgI_33 hA, msI_33 hA, mgI_34 hA, msI_34 hA, mgI_35 hA, msI_35 hA, mgI_36 hA, msI_36 hA, mgI_39 hA, msI_39 hA, mgJ hA, msJ hA, c21]
        refine ⟨i21, fl161 1 (nx B N a) (wr _ 1 (nx B N a)) _ h0 ?_ (P3.wr (f := 1)) FL.wr⟩
        rw [hE1]; unfold pieW ckN; rw [decide_eq_false k1, ck_f]
      · simp only [mfI_0, mpI_0, mfN_1, mfI_2, mpI_2, mfI_3, mpI_3, mfI_4, mpI_4, mfI_5, mpI_5, mfI_6, mpI_6, mfI_7, mpI_7, mfI_8, mpI_8, mfI_9, mpI_9, mfI_10, mpI_10, mfI_11, mpI_11, mfN_12, mfZ_13, mpZ_13, mfZ_14, mpZ_14, mfN_15, mfN_16, mfN_17, mfN_18, mfN_19, mfN_20, mfI_21, mpI_21, mfI_22, mpI_22, mfN_23, mfN_24, mfN_25, mfN_26, mfN_27, mfN_28, mfN_29, mfI_30, mpI_30, mfN_31, mfN_32, mfN_33, mfN_34, mfN_35, mfN_36, mfN_37, mfI_38, mpI_38, mfN_39, mfI_40, mpI_40, mfI_41, mpI_41, mgI_1 hA, msI_1 hA, mgI_12 hA, msI_12 hA, mgI_15 hA, msI_15 hA, mgI_16 hA, msI_16 hA, mgI_17 hA, msI_17 hA, mgI_18 hA, msI_18 hA, mgI_19 hA, msI_19 hA, mgI_20 hA, msI_20 hA, mgI_23 hA, msI_23 hA, mgI_24 hA, msI_24 hA, mgI_25 hA, msI_25 hA, mgI_26 hA, msI_26 hA, mgI_27 hA, msI_27 hA, mgI_28 hA, msI_28 hA, mgI_29 hA, msI_29 hA, mgI_31 hA, msI_31 hA, mgI_32 hA, msI_32 hA, mgI_33 hA, msI_33 hA, mgI_34 hA, msI_34 hA, mgI_35 hA, msI_35 hA, mgI_36 hA, msI_36 hA, mgI_39 hA, msI_39 hA, mgJ hA, msJ hA, c21]
        refine ⟨i21, fl161 4 (nx B N a) (wr _ 4 (nx B N a)) _ h0 ?_ (P3.wr (f := 4)) FL.wr⟩
        rw [hE1]; unfold pieW ckN; rw [decide_eq_true k1, ck_t, decide_eq_false k2, ck_f]
    simp only [F_X12_pieceLine_151]
    refine sel (fun lo hi => (¬ (nI kd : Int32) = (1 : Int32) → F_X12_pieceLine_161 l G (d + 19) m (nI T.2.2.1.length) (nI kd) (A 16) (nI (21 + T.2.2.1.length)) m lo 3 _ K) ∧ ((nI kd : Int32) = (1 : Int32) → F_X12_pieceLine_161 l G (d + 19) m (nI T.2.2.1.length) (nI kd) (A 16) (nI (21 + T.2.2.1.length)) m lo 4 _ K)) h0 ⟨fun h1 => ?_, fun h1 => ?_⟩
    · have h1' : kd ≠ 1 := fun e => h1 (by rw [e]; rfl)
      rw [(pl.2.2.2 h1').2] at main; exact main
    · have h1' : kd = 1 := (nt_1 (by omega)).mp h1
      rw [(pl.2.2.1 h1').2] at main; exact main
theorem s_X12_pieceLine (hA : okA m A) {a : Nat} (ha : a ≤ N) (hW : WFT T) (h4 : T.2.2.1.length < 4) (hS : PSt B N a T ls S) {K : Hp → Prop} (hK : ∀ S', Pm S S' → PO B N (pieL B N a T ls) S' → K (mh m A S' ρ)) : C_X12_pieceLine l G (d + 20) m (mh m A S ρ) K := by
  obtain ⟨ht, hT, hf, hR, hw⟩ := hS
  refine m_X12_pieceLine rv_m ?_
  simp only [F_X12_pieceLine, mfI_0, mpI_0, mfN_1, mfI_2, mpI_2, mfI_3, mpI_3, mfI_4, mpI_4, mfI_5, mpI_5, mfI_6, mpI_6, mfI_7, mpI_7, mfI_8, mpI_8, mfI_9, mpI_9, mfI_10, mpI_10, mfI_11, mpI_11, mfN_12, mfZ_13, mpZ_13, mfZ_14, mpZ_14, mfN_15, mfN_16, mfN_17, mfN_18, mfN_19, mfN_20, mfI_21, mpI_21, mfI_22, mpI_22, mfN_23, mfN_24, mfN_25, mfN_26, mfN_27, mfN_28, mfN_29, mfI_30, mpI_30, mfN_31, mfN_32, mfN_33, mfN_34, mfN_35, mfN_36, mfN_37, mfI_38, mpI_38, mfN_39, mfI_40, mpI_40, mfI_41, mpI_41, mgI_1 hA, msI_1 hA, mgI_12 hA, msI_12 hA, mgI_15 hA, msI_15 hA, mgI_16 hA, msI_16 hA, mgI_17 hA, msI_17 hA, mgI_18 hA, msI_18 hA, mgI_19 hA, msI_19 hA, mgI_20 hA, msI_20 hA, mgI_23 hA, msI_23 hA, mgI_24 hA, msI_24 hA, mgI_25 hA, msI_25 hA, mgI_26 hA, msI_26 hA, mgI_27 hA, msI_27 hA, mgI_28 hA, msI_28 hA, mgI_29 hA, msI_29 hA, mgI_31 hA, msI_31 hA, mgI_32 hA, msI_32 hA, mgI_33 hA, msI_33 hA, mgI_34 hA, msI_34 hA, mgI_35 hA, msI_35 hA, mgI_36 hA, msI_36 hA, mgI_39 hA, msI_39 hA, mgJ hA, msJ hA, hf, reduceCtorEq, false_implies, true_implies, forall_const, true_and, and_true, eq_self, show (4 : Int32).toNatClampNeg = 4 from rfl, hR.2.1.2.1, show (3 : Int32) + nI T.2.2.1.length = nI (3 + T.2.2.1.length) from nt_add 3 _]
  refine ⟨(vin 4 (by decide) (by decide)), s_X12_newName (d := d + 12) hA ha ht hT hf hR hW (n := 3 + T.2.2.1.length) (by omega) (fun n1 n2 S1 n3 n4 n5 => ?_) (fun n1 => ?_) (fun n1 k n2 => ?_)⟩
  · have P1 : Pm S S1 := Pm.of n3 (by decide) (by simp) (by decide)
    have a1 := nx_le (B := B) ha
    have f1 : S1.2.1 13 = false := (n3.2.1 13 (by simp)).trans hf
    have t1 := ht.pm P1
    have hk := nmOK_k n1
    have h18 : S1.2.2.1 18 = S.2.2.1 18 := n3.2.2.1 18 (by decide)
    have e1 : ∀ k, ckNm B N a T k = k := fun k => by unfold ckNm; rw [n1, ck_t, n2]; rfl
    unfold pieL at hK
    rw [e1] at hK
    simp only [mfI_0, mpI_0, mfN_1, mfI_2, mpI_2, mfI_3, mpI_3, mfI_4, mpI_4, mfI_5, mpI_5, mfI_6, mpI_6, mfI_7, mpI_7, mfI_8, mpI_8, mfI_9, mpI_9, mfI_10, mpI_10, mfI_11, mpI_11, mfN_12, mfZ_13, mpZ_13, mfZ_14, mpZ_14, mfN_15, mfN_16, mfN_17, mfN_18, mfN_19, mfN_20, mfI_21, mpI_21, mfI_22, mpI_22, mfN_23, mfN_24, mfN_25, mfN_26, mfN_27, mfN_28, mfN_29, mfI_30, mpI_30, mfN_31, mfN_32, mfN_33, mfN_34, mfN_35, mfN_36, mfN_37, mfI_38, mpI_38, mfN_39, mfI_40, mpI_40, mfI_41, mpI_41, f1, reduceCtorEq, false_implies, true_implies, forall_const, true_and, and_true, eq_self]
    refine s_X12_isWord (d := d + 14) hA (j := 31) rfl ht.1 a1 ht.2.2.1 n4 ?_
    rw [f1, Bool.not_false, Bool.true_and]
    refine ⟨fun w1 => ?_, fun w1 => ?_⟩
    · have w1' : isW B N (nx B N a) kwCo = false := w1
      rw [if_neg (by rw [w1']; decide)] at hK
      refine s_X12_isWord (d := d + 14) hA (j := 32) rfl ht.1 a1 ht.2.2.1 n4 ?_
      rw [f1, Bool.not_false, Bool.true_and]
      refine ⟨fun w2 => ?_, fun w2 => ?_⟩
      · have w2' : isW B N (nx B N a) kwBl = false := w2
        rw [if_neg (by rw [w2']; decide)] at hK
        refine s_X12_isWord (d := d + 14) hA (j := 33) rfl ht.1 a1 ht.2.2.1 n4 ?_
        rw [f1, Bool.not_false, Bool.true_and]
        refine ⟨fun w3 => ?_, fun w3 => ?_⟩
        · have w3' : isW B N (nx B N a) kwCr = false := w3
          rw [if_neg (by rw [w3']; decide)] at hK
          simp only [F_X12_pieceLine_72, F_X12_pieceLine_86, mfI_0, mpI_0, mfN_1, mfI_2, mpI_2, mfI_3, mpI_3, mfI_4, mpI_4, mfI_5, mpI_5, mfI_6, mpI_6, mfI_7, mpI_7, mfI_8, mpI_8, mfI_9, mpI_9, mfI_10, mpI_10, mfI_11, mpI_11, mfN_12, mfZ_13, mpZ_13, mfZ_14, mpZ_14, mfN_15, mfN_16, mfN_17, mfN_18, mfN_19, mfN_20, mfI_21, mpI_21, mfI_22, mpI_22, mfN_23, mfN_24, mfN_25, mfN_26, mfN_27, mfN_28, mfN_29, mfI_30, mpI_30, mfN_31, mfN_32, mfN_33, mfN_34, mfN_35, mfN_36, mfN_37, mfI_38, mpI_38, mfN_39, mfI_40, mpI_40, mfI_41, mpI_41, n4.1]
          refine ⟨fun hc => absurd hc (by decide), fun _ => s_X12_wrong (d := d + 18) f1 ?_⟩
          simp only [mfI_0, mpI_0, mfN_1, mfI_2, mpI_2, mfI_3, mpI_3, mfI_4, mpI_4, mfI_5, mpI_5, mfI_6, mpI_6, mfI_7, mpI_7, mfI_8, mpI_8, mfI_9, mpI_9, mfI_10, mpI_10, mfI_11, mpI_11, mfN_12, mfZ_13, mpZ_13, mfZ_14, mpZ_14, mfN_15, mfN_16, mfN_17, mfN_18, mfN_19, mfN_20, mfI_21, mpI_21, mfI_22, mpI_22, mfN_23, mfN_24, mfN_25, mfN_26, mfN_27, mfN_28, mfN_29, mfI_30, mpI_30, mfN_31, mfN_32, mfN_33, mfN_34, mfN_35, mfN_36, mfN_37, mfI_38, mpI_38, mfN_39, mfI_40, mpI_40, mfI_41, mpI_41, wr_f, reduceCtorEq, false_implies, true_implies, forall_const, true_and, and_true, eq_self]
          exact hK _ (P1.wr (f := 1)) FL.wr
        · have w3' : isW B N (nx B N a) kwCr = true := w3
          rw [if_pos w3'] at hK
          exact ok72 hA hW h4 hR hw (tw_NM ha hk).2.1 hK (kd := 2) (by decide) a1 P1 t1 n4 f1 h18 n5 rfl
      · have w2' : isW B N (nx B N a) kwBl = true := w2
        rw [if_pos w2'] at hK
        exact ok72 hA hW h4 hR hw (tw_NM ha hk).2.1 hK (kd := 1) (by decide) a1 P1 t1 n4 f1 h18 n5 rfl
    · have w1' : isW B N (nx B N a) kwCo = true := w1
      rw [if_pos w1'] at hK
      exact ok72 hA hW h4 hR hw (tw_NM ha hk).2.1 hK (kd := 0) (by decide) a1 P1 t1 n4 f1 h18 n5 rfl
  · simp only [mfI_0, mpI_0, mfN_1, mfI_2, mpI_2, mfI_3, mpI_3, mfI_4, mpI_4, mfI_5, mpI_5, mfI_6, mpI_6, mfI_7, mpI_7, mfI_8, mpI_8, mfI_9, mpI_9, mfI_10, mpI_10, mfI_11, mpI_11, mfN_12, mfZ_13, mpZ_13, mfZ_14, mpZ_14, mfN_15, mfN_16, mfN_17, mfN_18, mfN_19, mfN_20, mfI_21, mpI_21, mfI_22, mpI_22, mfN_23, mfN_24, mfN_25, mfN_26, mfN_27, mfN_28, mfN_29, mfI_30, mpI_30, mfN_31, mfN_32, mfN_33, mfN_34, mfN_35, mfN_36, mfN_37, mfI_38, mpI_38, mfN_39, mfI_40, mpI_40, mfI_41, mpI_41, wr_f, reduceCtorEq, false_implies, true_implies, forall_const, true_and, and_true, eq_self]
    refine hK _ (Pm.wr (f := 1) Pm.rf) ?_
    have : pieL B N a T ls = .inl (1, a) := by unfold pieL ckNm; rw [n1, ck_f]
    rw [this]; exact FL.wr
  · simp only [mfI_0, mpI_0, mfN_1, mfI_2, mpI_2, mfI_3, mpI_3, mfI_4, mpI_4, mfI_5, mpI_5, mfI_6, mpI_6, mfI_7, mpI_7, mfI_8, mpI_8, mfI_9, mpI_9, mfI_10, mpI_10, mfI_11, mpI_11, mfN_12, mfZ_13, mpZ_13, mfZ_14, mpZ_14, mfN_15, mfN_16, mfN_17, mfN_18, mfN_19, mfN_20, mfI_21, mpI_21, mfI_22, mpI_22, mfN_23, mfN_24, mfN_25, mfN_26, mfN_27, mfN_28, mfN_29, mfI_30, mpI_30, mfN_31, mfN_32, mfN_33, mfN_34, mfN_35, mfN_36, mfN_37, mfI_38, mpI_38, mfN_39, mfI_40, mpI_40, mfI_41, mpI_41, wr_f, reduceCtorEq, false_implies, true_implies, forall_const, true_and, and_true, eq_self]
    refine hK _ (Pm.wr (f := 3) Pm.rf) ?_
    have : pieL B N a T ls = .inl (3, a) := by unfold pieL ckNm; rw [n1, ck_t, n2]; rfl
    rw [this]; exact FL.wr
theorem s_X12_layLine (hA : okA m A) {a : Nat} (ha : a ≤ N) (hW : WFT T) (hG : GD (allL T) ls) (h8 : ls.length < 8) (hS : PSt B N a T ls S) {K : Hp → Prop} (hK : ∀ S', Pm S S' → PO B N (layL B N a T ls) S' → K (mh m A S' ρ)) : C_X12_layLine l G (d + 20) m (mh m A S ρ) K := by
  obtain ⟨ht, hT, hf, hR, hw⟩ := hS
  have hV := allL_VL hW
  have h60 := eK_lt (B := B) (N := N) (a := a)
  refine m_X12_layLine rv_m ?_
  simp only [F_X12_layLine, mfI_0, mpI_0, mfN_1, mfI_2, mpI_2, mfI_3, mpI_3, mfI_4, mpI_4, mfI_5, mpI_5, mfI_6, mpI_6, mfI_7, mpI_7, mfI_8, mpI_8, mfI_9, mpI_9, mfI_10, mpI_10, mfI_11, mpI_11, mfN_12, mfZ_13, mpZ_13, mfZ_14, mpZ_14, mfN_15, mfN_16, mfN_17, mfN_18, mfN_19, mfN_20, mfI_21, mpI_21, mfI_22, mpI_22, mfN_23, mfN_24, mfN_25, mfN_26, mfN_27, mfN_28, mfN_29, mfI_30, mpI_30, mfN_31, mfN_32, mfN_33, mfN_34, mfN_35, mfN_36, mfN_37, mfI_38, mpI_38, mfN_39, mfI_40, mpI_40, mfI_41, mpI_41, hf, reduceCtorEq, false_implies, true_implies, forall_const, true_and, and_true, eq_self, hT.2.2.1]
  rw [show (3 : Int32) = nI 3 from rfl, nt_eq (by omega) (by decide)]
  refine ⟨fun h3 => ?_, fun h3 => ?_⟩
  · refine s_X12_layLays (d := d + 15) hA (Or.inr rfl) hR hW fun S1 g1 g2 => ?_
    have P1 : Pm S S1 := Pm.of g1 (by decide) (by simp) (by decide)
    have h224 := g2.1
    have t1 := ht.pm P1
    have T1 : TkA B N a S1 := hT.sm g1 (by decide) (by decide) (by decide) (by decide) (by decide) (by decide)
    have f1 : S1.2.1 13 = false := (g1.2.1 13 (by simp)).trans hf
    have h16 : S1.2.2.1 16 = S.2.2.1 16 := g1.2.2.1 16 (by decide)
    have h18 : S1.2.2.1 18 = S.2.2.1 18 := g1.2.2.1 18 (by decide)
    have hR1 : TR T (S1.2.2.1 16) := by rw [h16]; exact hR
    have h7 : S1.1 7 = nI (tV B N a) := T1.2.2.2.2 h3
    have hv := tV_lt ht.2.2.1 ha h3
    have r0 : S1.2.2.1 18 0 = nI ls.length := by rw [h18]; exact hw.1
    have r1 : ∀ k v, ls[k]? = some v → S1.2.2.1 18 (1 + k) = nI v := fun k v hkv => by
      rw [h18]
      have := hw.2.1 k v hkv
      rw [show 0 + 1 + k = 1 + k by omega] at this
      exact this
    have e0 : layL B N a T ls = (match (allL T)[tV B N a]? with | none => .inl (7, a) | some e => ck (myE T e (tkn (allL T) ls) (ls.length % 2)) 7 a (.inr (nx B N a, T, ls ++ [tV B N a]))) := by
      unfold layL; rw [decide_eq_true h3, ck_t]; rfl
    rw [e0] at hK
    have hz : ∀ n k, k + n = ls.length → ∃ q, Z_X12_layLine_38 l G (d + 19) K q m (nI (tkn (allL T) (ls.take k))) (nI k) (mh m A S1 ρ) := by
      intro n
      induction n with
      | zero =>
        intro k hk
        refine ⟨1, ?_⟩
        simp only [Z_X12_layLine_38, F_X12_layLine_38, F_X12_layLine_105, mfI_0, mpI_0, mfN_1, mfI_2, mpI_2, mfI_3, mpI_3, mfI_4, mpI_4, mfI_5, mpI_5, mfI_6, mpI_6, mfI_7, mpI_7, mfI_8, mpI_8, mfI_9, mpI_9, mfI_10, mpI_10, mfI_11, mpI_11, mfN_12, mfZ_13, mpZ_13, mfZ_14, mpZ_14, mfN_15, mfN_16, mfN_17, mfN_18, mfN_19, mfN_20, mfI_21, mpI_21, mfI_22, mpI_22, mfN_23, mfN_24, mfN_25, mfN_26, mfN_27, mfN_28, mfN_29, mfI_30, mpI_30, mfN_31, mfN_32, mfN_33, mfN_34, mfN_35, mfN_36, mfN_37, mfI_38, mpI_38, mfN_39, mfI_40, mpI_40, mfI_41, mpI_41, mgI_1 hA, msI_1 hA, mgI_12 hA, msI_12 hA, mgI_15 hA, msI_15 hA, mgI_16 hA, msI_16 hA, mgI_17 hA, msI_17 hA, mgI_18 hA, msI_18 hA, mgI_19 hA, msI_19 hA, mgI_20 hA, msI_20 hA, mgI_23 hA, msI_23 hA, mgI_24 hA, msI_24 hA, mgI_25 hA, msI_25 hA, mgI_26 hA, msI_26 hA, mgI_27 hA, msI_27 hA, mgI_28 hA, msI_28 hA, mgI_29 hA, msI_29 hA, mgI_31 hA, msI_31 hA, mgI_32 hA, msI_32 hA, mgI_33 hA, msI_33 hA, mgI_34 hA, msI_34 hA, mgI_35 hA, msI_35 hA, mgI_36 hA, msI_36 hA, mgI_39 hA, msI_39 hA, mgJ hA, msJ hA, show (0 : Int32).toNatClampNeg = 0 from rfl, r0, h7, g2.2.1, T1.1]
        rw [nt_le (by omega) (by omega), nt_le (by omega) (by omega), show (2 : Int32) = nI 2 from rfl, nt_rem (by omega) (by decide) (by decide), List.take_of_length_le (by omega)]
        refine ⟨(vin 0 (by decide) (by decide)), fun _ => ⟨fun h5 => ?_, fun h5 => ⟨(vin 0 (by decide) (by decide)), by decide, ?_⟩⟩, fun hc => absurd (by omega) hc⟩
        · refine s_X12_wrong (d := d + 18) f1 (hK _ (P1.wr (f := 7)) ?_)
          rw [List.getElem?_eq_none (by omega)]
          exact FL.wr
        · obtain ⟨e, he⟩ : ∃ e, (allL T)[tV B N a]? = some e := ⟨_, List.getElem?_eq_getElem (by omega)⟩
          obtain ⟨⟨p, hp⟩, -, -, -, -⟩ := hV _ e he
          simp only [he] at hK
          have htk := tkn_lt hV ls
          refine s_X12_mayIn (d := d + 17) hA (Or.inr rfl) hR1 hW g2 he hp (by omega) (Nat.mod_lt _ (by decide)) ⟨fun hm => ?_, fun hm => ?_⟩
          · rw [hm, ck_t] at hK
            have c1 : (nI (1 + ls.length)).toNatClampNeg = 1 + ls.length := nI_clamp (by omega)
            have e1 : up_ (S1.2.2.1 18) (1 + ls.length) (nI (tV B N a)) 0 = nI ls.length := (up_ne (by omega)).trans r0
            simp only [mfI_0, mpI_0, mfN_1, mfI_2, mpI_2, mfI_3, mpI_3, mfI_4, mpI_4, mfI_5, mpI_5, mfI_6, mpI_6, mfI_7, mpI_7, mfI_8, mpI_8, mfI_9, mpI_9, mfI_10, mpI_10, mfI_11, mpI_11, mfN_12, mfZ_13, mpZ_13, mfZ_14, mpZ_14, mfN_15, mfN_16, mfN_17, mfN_18, mfN_19, mfN_20, mfI_21, mpI_21, mfI_22, mpI_22, mfN_23, mfN_24, mfN_25, mfN_26, mfN_27, mfN_28, mfN_29, mfI_30, mpI_30, mfN_31, mfN_32, mfN_33, mfN_34, mfN_35, mfN_36, mfN_37, mfI_38, mpI_38, mfN_39, mfI_40, mpI_40, mfI_41, mpI_41, mgI_1 hA, msI_1 hA, mgI_12 hA, msI_12 hA, mgI_15 hA, msI_15 hA, mgI_16 hA, msI_16 hA, mgI_17 hA, msI_17 hA, mgI_18 hA, msI_18 hA, mgI_19 hA, msI_19 hA, mgI_20 hA, msI_20 hA, mgI_23 hA, msI_23 hA, mgI_24 hA, msI_24 hA, mgI_25 hA, msI_25 hA, mgI_26 hA, msI_26 hA, mgI_27 hA, msI_27 hA, mgI_28 hA, msI_28 hA, mgI_29 hA, msI_29 hA, mgI_31 hA, msI_31 hA, mgI_32 hA, msI_32 hA, mgI_33 hA, msI_33 hA, mgI_34 hA, msI_34 hA, mgI_35 hA, msI_35 hA, mgI_36 hA, msI_36 hA, mgI_39 hA, msI_39 hA, mgJ hA, msJ hA, ms_i, ms_i2, ms_b1, ms_b, ms_b2, ms_a1, ms_a2, ms_a, ms_a3, ms_j1, ms_j2, ms_j3, ms_j, ↓reduceIte, Nat.reduceEqDiff, show (0 : Int32).toNatClampNeg = 0 from rfl, r0, h7, show (1 : Int32) + nI ls.length = nI (1 + ls.length) from nt_add 1 _, c1, e1, show nI ls.length + 1 = nI (ls.length + 1) from nt_add _ 1]
            have t2 := (t1.a16 (k := 18) (g := up_ (S1.2.2.1 18) (1 + ls.length) (nI (tV B N a))) (by decide)).a16 (k := 18) (g := up_ (up_ (S1.2.2.1 18) (1 + ls.length) (nI (tV B N a))) 0 (nI (ls.length + 1))) (by decide)
            have T2 := (T1.a16 (k := 18) (g := up_ (S1.2.2.1 18) (1 + ls.length) (nI (tV B N a))) (by decide)).a16 (k := 18) (g := up_ (up_ (S1.2.2.1 18) (1 + ls.length) (nI (tV B N a))) 0 (nI (ls.length + 1))) (by decide)
            have P2 : Pm S (seta (seta S1 18 (up_ (S1.2.2.1 18) (1 + ls.length) (nI (tV B N a)))) 18 (up_ (up_ (S1.2.2.1 18) (1 + ls.length) (nI (tV B N a))) 0 (nI (ls.length + 1)))) := (P1.a (by decide)).a (by decide)
            refine ⟨(vin 0 (by decide) (by decide)), (nt_in (by omega)).mpr (by omega), (vin 0 (by decide) (by decide)), (vin 0 (by decide) (by decide)), s_X12_nx (d := d + 17) hA ha t2 T2 fun S2 y1 y2 => ?_⟩
            refine hK S2 (P2.nx y1) ⟨t2.nx y1, y2, (y1.2.1 13 (by simp)).trans f1, ?_, ?_⟩
            · rw [y1.2.2.1 16 (by decide)]; simp only [ms_i, ms_i2, ms_b1, ms_b, ms_b2, ms_a1, ms_a2, ms_a, ms_a3, ms_j1, ms_j2, ms_j3, ms_j, ↓reduceIte, Nat.reduceEqDiff]; exact hR1
            · rw [y1.2.2.1 18 (by decide)]
              simp only [ms_i, ms_i2, ms_b1, ms_b, ms_b2, ms_a1, ms_a2, ms_a, ms_a3, ms_j1, ms_j2, ms_j3, ms_j, ↓reduceIte, Nat.reduceEqDiff]
              refine ⟨?_, fun k v hkv => ?_, ?_⟩
              · rw [up_eq, List.length_append]; rfl
              · rw [up_ne (by omega)]
                by_cases hkl : k < ls.length
                · replace hkv : (ls ++ [tV B N a])[k]? = some v := hkv
                  rw [List.getElem?_append_left hkl] at hkv
                  rw [up_ne (by omega), show 0 + 1 + k = 1 + k by omega]
                  exact r1 k v hkv
                · replace hkv : (ls ++ [tV B N a])[k]? = some v := hkv
                  have := (List.getElem?_eq_some_iff.mp hkv).1
                  rw [List.length_append, List.length_cons, List.length_nil] at this
                  obtain rfl : k = ls.length := by omega
                  simp only [List.getElem?_concat_length, Option.some.injEq] at hkv
                  subst hkv
                  rw [Nat.zero_add, up_eq]
              · rw [up_ne (by omega), up_ne (by omega), h18]
                exact hw.2.2
          · rw [hm, ck_f] at hK
            simp only [mfI_0, mpI_0, mfN_1, mfI_2, mpI_2, mfI_3, mpI_3, mfI_4, mpI_4, mfI_5, mpI_5, mfI_6, mpI_6, mfI_7, mpI_7, mfI_8, mpI_8, mfI_9, mpI_9, mfI_10, mpI_10, mfI_11, mpI_11, mfN_12, mfZ_13, mpZ_13, mfZ_14, mpZ_14, mfN_15, mfN_16, mfN_17, mfN_18, mfN_19, mfN_20, mfI_21, mpI_21, mfI_22, mpI_22, mfN_23, mfN_24, mfN_25, mfN_26, mfN_27, mfN_28, mfN_29, mfI_30, mpI_30, mfN_31, mfN_32, mfN_33, mfN_34, mfN_35, mfN_36, mfN_37, mfI_38, mpI_38, mfN_39, mfI_40, mpI_40, mfI_41, mpI_41, T1.1]
            exact s_X12_wrong (d := d + 18) f1 (hK _ (P1.wr (f := 7)) FL.wr)
      | succ n ih =>
        intro k hk
        obtain ⟨v, hvk⟩ : ∃ v, ls[k]? = some v := ⟨_, List.getElem?_eq_getElem (by omega)⟩
        obtain ⟨e, he, -⟩ := hG k v hvk
        have hvl := (List.getElem?_eq_some_iff.mp he).1
        obtain ⟨-, -, -, -, -, g5, -⟩ := g2.2.2 v e he
        obtain ⟨q, hq⟩ := ih (k + 1) (by omega)
        have et : ls.take (k + 1) = ls.take k ++ [v] := by rw [List.take_add_one, hvk]; rfl
        rw [et, tkn_snoc, sqN_at he] at hq
        refine ⟨q + 1, ?_⟩
        simp only [Z_X12_layLine_38, F_X12_layLine_38, F_X12_layLine_105, mfI_0, mpI_0, mfN_1, mfI_2, mpI_2, mfI_3, mpI_3, mfI_4, mpI_4, mfI_5, mpI_5, mfI_6, mpI_6, mfI_7, mpI_7, mfI_8, mpI_8, mfI_9, mpI_9, mfI_10, mpI_10, mfI_11, mpI_11, mfN_12, mfZ_13, mpZ_13, mfZ_14, mpZ_14, mfN_15, mfN_16, mfN_17, mfN_18, mfN_19, mfN_20, mfI_21, mpI_21, mfI_22, mpI_22, mfN_23, mfN_24, mfN_25, mfN_26, mfN_27, mfN_28, mfN_29, mfI_30, mpI_30, mfN_31, mfN_32, mfN_33, mfN_34, mfN_35, mfN_36, mfN_37, mfI_38, mpI_38, mfN_39, mfI_40, mpI_40, mfI_41, mpI_41, mgI_1 hA, msI_1 hA, mgI_12 hA, msI_12 hA, mgI_15 hA, msI_15 hA, mgI_16 hA, msI_16 hA, mgI_17 hA, msI_17 hA, mgI_18 hA, msI_18 hA, mgI_19 hA, msI_19 hA, mgI_20 hA, msI_20 hA, mgI_23 hA, msI_23 hA, mgI_24 hA, msI_24 hA, mgI_25 hA, msI_25 hA, mgI_26 hA, msI_26 hA, mgI_27 hA, msI_27 hA, mgI_28 hA, msI_28 hA, mgI_29 hA, msI_29 hA, mgI_31 hA, msI_31 hA, mgI_32 hA, msI_32 hA, mgI_33 hA, msI_33 hA, mgI_34 hA, msI_34 hA, mgI_35 hA, msI_35 hA, mgI_36 hA, msI_36 hA, mgI_39 hA, msI_39 hA, mgJ hA, msJ hA, show (0 : Int32).toNatClampNeg = 0 from rfl, r0, show (1 : Int32) + nI k = nI (1 + k) from nt_add 1 k, show nI k + 1 = nI (k + 1) from nt_add k 1, nI_clamp (show 1 + k < 2 ^ 31 by omega), r1 k v hvk, nI_clamp (show v < 2 ^ 31 by omega), g5, nt_or]
        rw [nt_le (by omega) (by omega)]
        exact ⟨(vin 0 (by decide) (by decide)), fun hc => by omega, fun _ => ⟨(nt_in (by omega)).mpr (by omega), (nt_in (by omega)).mpr (by omega), hq⟩⟩
    exact hz ls.length 0 (by omega)
  · simp only [hT.1]
    refine s_X12_wrong (d := d + 18) hf (hK _ (Pm.wr (f := 1) Pm.rf) ?_)
    have : layL B N a T ls = .inl (1, a) := by unfold layL; rw [decide_eq_false h3, ck_f]
    rw [this]; exact FL.wr
end PRP
