/-! a line, a text, a table in the model -/
def n_table (Z : ST) (v : Int32) : Int32 × ST := if inR v 0 (zN Z) then (match prs (zB Z) v.toNatClampNeg with
  | .inl (f, p) => (-1, (zB Z, 0, f, p, 4, zT Z, zW Z, zU Z, zI Z))
  | .inr (_, T, ls) => (nI (allL T).length, (zB Z, 0, 0, 0, 0, some T, (ls, 0), [], []))) else (-1, zt Z 2)
theorem sel0 {c : Prop} [Decidable c] {P : Bool → Prop} (h : P (decide c)) : (¬ c → P false) ∧ (c → P true) := ⟨fun h1 => by rwa [decide_eq_false h1] at h, fun h1 => by rwa [decide_eq_true h1] at h⟩
theorem sel1 {c : Prop} [Decidable c] {P : Bool → Prop} (h : P (!decide c)) : (c → P false) ∧ (¬ c → P true) := ⟨fun h1 => by rwa [decide_eq_true h1] at h, fun h1 => by rwa [decide_eq_false h1] at h⟩
section TAB
variable {l : Launch} {G : GG} {d m : Nat} {A : Nat → Nat} {S : MS} {ρ : Hp} {B : Nat → Nat} {N : Nat} {T : TB} {ls : List Nat}
theorem PSt.nx {a : Nat} {S' : MS} (h : PSt B N a T ls S) (h1 : Sm [4, 5, 6, 7, 8] [] [12] S S') (h2 : TkA B N (Jvm.Pilot.CCoinsLaidLaw_law_r4080_fdb2f8.nx B N a) S') : PSt B N (Jvm.Pilot.CCoinsLaidLaw_law_r4080_fdb2f8.nx B N a) T ls S' := ⟨h.1.nx h1, h2, (h1.2.1 13 (by simp)).trans h.2.2.1, by rw [h1.2.2.1 16 (by decide)]; exact h.2.2.2.1, by rw [h1.2.2.1 18 (by decide)]; exact h.2.2.2.2⟩
theorem s_X12_readLine (hA : okA m A) {a : Nat} (hI : PI N a T ls) (hS : PSt B N a T ls S) {K : Hp → Prop} (hK : ∀ S', Pm S S' → PO B N (linL B N a T ls) S' → K (mh m A S' ρ)) : C_X12_readLine l G (d + 25) m (mh m A S ρ) K := by
  have hSc := hS
  obtain ⟨ht, hT, hf, hR, hw⟩ := hS
  obtain ⟨ha, hW, hG, h0, h8⟩ := hI
  have a1 := nx_le (B := B) ha
  have b3 := hW.1.1
  have p4 := hW.2.1.1
  have f0 := hR.1.1
  have hnw : ∀ {S' : MS}, Sm [4, 5, 6, 7, 8] [] [12] S S' → Pm S S' := fun h => Pm.nx Pm.rf h
  have hwr : ∀ (f : Nat) (R : PR), R = .inl (f, a) → PO B N R (wr S (nI f) a) := fun f R h => by rw [h]; exact FL.wr
  have fin : isW B N a kwT = false → isW B N a kwBo = false → isW B N a kwJu = false → isW B N a kwPi = false → ∀ can th, can = decide (ls.length < 8) → th = T.1.1 → F_X12_readLine_166 l G (d + 24) m m (gK G 28) can th (mh m A S ρ) K := by
    intro w1 w2 w3 w4 can th hc hth
    have e0 : linL B N a T ls = if isW B N a kwLa then ck (decide (ls.length < 8)) 5 a (ck T.1.1 6 a (layL B N (nx B N a) T ls)) else .inl (1, a) := by
      unfold linL; rw [if_neg (by rw [w1]; decide), if_neg (by rw [w2]; decide), if_neg (by rw [w3]; decide), if_neg (by rw [w4]; decide)]
    rw [e0] at hK
    simp only [F_X12_readLine_166, F_X12_readLine_189]
    refine s_X12_begins (d := d + 18) hA (j := 28) rfl ha ht hT hf (fun w5 c1 c2 S' s1 s2 => ?_) (fun w5 c1 => ?_) (fun w5 c1 c2 => ?_) (fun w5 => ?_)
    · have w5' : isW B N a kwLa = true := w5
      rw [if_pos w5', ← hc, c1, ck_t, ← hth, c2, ck_t] at hK
      simp only [reduceCtorEq, false_implies, true_implies, forall_const, true_and, and_true, eq_self]
      exact s_X12_layLine (d := d + 4) hA a1 hW hG (by rw [c1] at hc; simpa using hc.symm) (hSc.nx s1 s2) fun S'' u1 u2 => hK S'' ((hnw s1).tr u1) u2
    · have w5' : isW B N a kwLa = true := w5
      rw [if_pos w5', ← hc, c1, ck_f] at hK
      simp only [reduceCtorEq, false_implies, true_implies, forall_const, true_and, and_true, eq_self]
      exact s_X12_layLine_f wr_f (hK _ (Pm.wr (f := 5) Pm.rf) FL.wr)
    · have w5' : isW B N a kwLa = true := w5
      rw [if_pos w5', ← hc, c1, ck_t, ← hth, c2, ck_f] at hK
      simp only [reduceCtorEq, false_implies, true_implies, forall_const, true_and, and_true, eq_self]
      exact s_X12_layLine_f wr_f (hK _ (Pm.wr (f := 6) Pm.rf) FL.wr)
    · have w5' : isW B N a kwLa = false := w5
      rw [if_neg (by rw [w5']; decide)] at hK
      simp only [reduceCtorEq, false_implies, true_implies, forall_const, true_and, and_true, eq_self, mfI_0, mpI_0, mfN_1, mfI_2, mpI_2, mfI_3, mpI_3, mfI_4, mpI_4, mfI_5, mpI_5, mfI_6, mpI_6, mfI_7, mpI_7, mfI_8, mpI_8, mfI_9, mpI_9, mfI_10, mpI_10, mfI_11, mpI_11, mfN_12, mfZ_13, mpZ_13, mfZ_14, mpZ_14, mfN_15, mfN_16, mfN_17, mfN_18, mfN_19, mfN_20, mfI_21, mpI_21, mfI_22, mpI_22, mfN_23, mfN_24, mfN_25, mfN_26, mfN_27, mfN_28, mfN_29, mfI_30, mpI_30, mfN_31, mfN_32, mfN_33, mfN_34, mfN_35, mfN_36, mfN_37, mfI_38, mpI_38, mfN_39, mfI_40, mpI_40, mfI_41, mpI_41, hT.1]
      exact s_X12_wrong (d := d + 23) hf (hK _ (Pm.wr (f := 1) Pm.rf) FL.wr)
  have pie : isW B N a kwT = false → isW B N a kwBo = false → isW B N a kwJu = false → ∀ can no, can = decide (T.2.2.1.length < 4) → no = ls.isEmpty → F_X12_readLine_117 l G (d + 24) m no m (gK G 27) can (mh m A S ρ) K := by
    intro w1 w2 w3 can no hc hno
    simp only [F_X12_readLine_117, F_X12_readLine_189]
    have e0 : isW B N a kwPi = true → linL B N a T ls = ck (decide (T.2.2.1.length < 4)) 5 a (ck ls.isEmpty 6 a (pieL B N (nx B N a) T ls)) := fun w4 => by
      unfold linL; rw [if_neg (by rw [w1]; decide), if_neg (by rw [w2]; decide), if_neg (by rw [w3]; decide), if_pos w4]
    refine s_X12_begins (d := d + 18) hA (j := 27) rfl ha ht hT hf (fun w5 c1 c2 S' s1 s2 => ?_) (fun w5 c1 => ?_) (fun w5 c1 c2 => ?_) (fun w5 => ?_)
    · rw [e0 w5, ← hc, c1, ck_t, ← hno, c2, ck_t] at hK
      simp only [reduceCtorEq, false_implies, true_implies, forall_const, true_and, and_true, eq_self]
      exact s_X12_pieceLine (d := d + 4) hA a1 hW (by rw [c1] at hc; simpa using hc.symm) (hSc.nx s1 s2) fun S'' u1 u2 => hK S'' ((hnw s1).tr u1) u2
    · rw [e0 w5, ← hc, c1, ck_f] at hK
      simp only [reduceCtorEq, false_implies, true_implies, forall_const, true_and, and_true, eq_self]
      exact s_X12_pieceLine_f wr_f (hK _ (Pm.wr (f := 5) Pm.rf) FL.wr)
    · rw [e0 w5, ← hc, c1, ck_t, ← hno, c2, ck_f] at hK
      simp only [reduceCtorEq, false_implies, true_implies, forall_const, true_and, and_true, eq_self]
      exact s_X12_pieceLine_f wr_f (hK _ (Pm.wr (f := 6) Pm.rf) FL.wr)
    · have w4 : isW B N a kwPi = false := w5
      simp only [reduceCtorEq, false_implies, true_implies, forall_const, true_and, and_true, eq_self, mfI_0, mpI_0, mfN_1, mfI_2, mpI_2, mfI_3, mpI_3, mfI_4, mpI_4, mfI_5, mpI_5, mfI_6, mpI_6, mfI_7, mpI_7, mfI_8, mpI_8, mfI_9, mpI_9, mfI_10, mpI_10, mfI_11, mpI_11, mfN_12, mfZ_13, mpZ_13, mfZ_14, mpZ_14, mfN_15, mfN_16, mfN_17, mfN_18, mfN_19, mfN_20, mfI_21, mpI_21, mfI_22, mpI_22, mfN_23, mfN_24, mfN_25, mfN_26, mfN_27, mfN_28, mfN_29, mfI_30, mpI_30, mfN_31, mfN_32, mfN_33, mfN_34, mfN_35, mfN_36, mfN_37, mfI_38, mpI_38, mfN_39, mfI_40, mpI_40, mfI_41, mpI_41, mgI_1 hA, msI_1 hA, mgI_12 hA, msI_12 hA, mgI_15 hA, msI_15 hA, mgI_16 hA, msI_16 hA, mgI_17 hA, msI_17 hA, mgI_18 hA, msI_18 hA, mgI_19 hA, msI_19 hA, mgI_20 hA, msI_20 hA, mgI_23 hA, msI_23 hA, mgI_24 hA, msI_24 hA, mgI_25 hA, msI_25 hA, mgI_26 hA, msI_26 hA, mgI_27 hA, msI_27 hA, mgI_28 hA, msI_28 hA, mgI_29 hA, msI_29 hA, mgI_31 hA, msI_31 hA, mgI_32 hA, msI_32 hA, mgI_33 hA, msI_33 hA, mgI_34 hA, msI_34 hA, mgI_35 hA, msI_35 hA, mgI_36 hA, msI_36 hA, mgI_39 hA, msI_39 hA, mgJ hA, msJ hA, show (0 : Int32).toNatClampNeg = 0 from rfl, show nI 0 = (0 : Int32) from rfl, show S.2.2.1 18 0 = nI ls.length from hw.1]
      refine ⟨(vin 0 (by decide) (by decide)), sel1 (P := fun b => F_X12_readLine_151 l G (d + 24) m m (gK G 28) b (mh m A S ρ) K) ?_⟩
      simp only [F_X12_readLine_151, mfI_0, mpI_0, mfN_1, mfI_2, mpI_2, mfI_3, mpI_3, mfI_4, mpI_4, mfI_5, mpI_5, mfI_6, mpI_6, mfI_7, mpI_7, mfI_8, mpI_8, mfI_9, mpI_9, mfI_10, mpI_10, mfI_11, mpI_11, mfN_12, mfZ_13, mpZ_13, mfZ_14, mpZ_14, mfN_15, mfN_16, mfN_17, mfN_18, mfN_19, mfN_20, mfI_21, mpI_21, mfI_22, mpI_22, mfN_23, mfN_24, mfN_25, mfN_26, mfN_27, mfN_28, mfN_29, mfI_30, mpI_30, mfN_31, mfN_32, mfN_33, mfN_34, mfN_35, mfN_36, mfN_37, mfI_38, mpI_38, mfN_39, mfI_40, mpI_40, mfI_41, mpI_41, mgI_1 hA, msI_1 hA, mgI_12 hA, msI_12 hA, mgI_15 hA, msI_15 hA, mgI_16 hA, msI_16 hA, mgI_17 hA, msI_17 hA, mgI_18 hA, msI_18 hA, mgI_19 hA, msI_19 hA, mgI_20 hA, msI_20 hA, mgI_23 hA, msI_23 hA, mgI_24 hA, msI_24 hA, mgI_25 hA, msI_25 hA, mgI_26 hA, msI_26 hA, mgI_27 hA, msI_27 hA, mgI_28 hA, msI_28 hA, mgI_29 hA, msI_29 hA, mgI_31 hA, msI_31 hA, mgI_32 hA, msI_32 hA, mgI_33 hA, msI_33 hA, mgI_34 hA, msI_34 hA, mgI_35 hA, msI_35 hA, mgI_36 hA, msI_36 hA, mgI_39 hA, msI_39 hA, mgJ hA, msJ hA, show (0 : Int32).toNatClampNeg = 0 from rfl, f0]
      refine ⟨(vin 0 (by decide) (by decide)), sel0 (P := fun b => F_X12_readLine_166 l G (d + 24) m m (gK G 28) _ b (mh m A S ρ) K) ?_⟩
      refine fin w1 w2 w3 w4 _ _ ?_ ?_
      · rw [show (8 : Int32) = nI 8 from rfl, Bool.eq_iff_iff]
        simp only [Bool.not_eq_true', decide_eq_false_iff_not, decide_eq_true_eq]
        rw [nt_le (by decide) (by omega)]
        omega
      · cases T.1.1 <;> rfl
  have boa : isW B N a kwT = false → ∀ can no, can = decide (T.2.1.length < 3) → no = ls.isEmpty → F_X12_readLine_65 l G (d + 24) m no m (gK G 25) can (mh m A S ρ) K := by
    intro w1 can no hc hno
    simp only [F_X12_readLine_65, F_X12_readLine_189]
    have e0 : isW B N a kwBo = true → linL B N a T ls = ck (decide (T.2.1.length < 3)) 5 a (ck ls.isEmpty 6 a (boaL B N (nx B N a) T ls)) := fun w4 => by
      unfold linL; rw [if_neg (by rw [w1]; decide), if_pos w4]
    refine s_X12_begins (d := d + 18) hA (j := 25) rfl ha ht hT hf (fun w5 c1 c2 S' s1 s2 => ?_) (fun w5 c1 => ?_) (fun w5 c1 c2 => ?_) (fun w5 => ?_)
    · rw [e0 w5, ← hc, c1, ck_t, ← hno, c2, ck_t] at hK
      simp only [reduceCtorEq, false_implies, true_implies, forall_const, true_and, and_true, eq_self]
      exact s_X12_boardLine (d := d + 4) hA a1 hW (by rw [c1] at hc; simpa using hc.symm) (hSc.nx s1 s2) fun S'' u1 u2 => hK S'' ((hnw s1).tr u1) u2
    · rw [e0 w5, ← hc, c1, ck_f] at hK
      simp only [reduceCtorEq, false_implies, true_implies, forall_const, true_and, and_true, eq_self]
      exact s_X12_boardLine_f wr_f (hK _ (Pm.wr (f := 5) Pm.rf) FL.wr)
    · rw [e0 w5, ← hc, c1, ck_t, ← hno, c2, ck_f] at hK
      simp only [reduceCtorEq, false_implies, true_implies, forall_const, true_and, and_true, eq_self]
      exact s_X12_boardLine_f wr_f (hK _ (Pm.wr (f := 6) Pm.rf) FL.wr)
    · have w2 : isW B N a kwBo = false := w5
      have e1 : isW B N a kwJu = true → linL B N a T ls = ck ls.isEmpty 6 a (jugL B N (nx B N a) T ls) := fun w4 => by
        unfold linL; rw [if_neg (by rw [w1]; decide), if_neg (by rw [w2]; decide), if_pos w4]
      simp only [reduceCtorEq, false_implies, true_implies, forall_const, true_and, and_true, eq_self]
      refine s_X12_begins (d := d + 18) hA (j := 26) rfl ha ht hT hf (fun w6 c1 c2 S' s1 s2 => ?_) (fun w6 c1 => absurd c1 (by decide)) (fun w6 c1 c2 => ?_) (fun w6 => ?_)
      · rw [e1 w6, ← hno, c2, ck_t] at hK
        simp only [reduceCtorEq, false_implies, true_implies, forall_const, true_and, and_true, eq_self]
        exact s_X12_jugLine (d := d + 4) hA a1 hW (hSc.nx s1 s2) fun S'' u1 u2 => hK S'' ((hnw s1).tr u1) u2
      · rw [e1 w6, ← hno, c2, ck_f] at hK
        simp only [reduceCtorEq, false_implies, true_implies, forall_const, true_and, and_true, eq_self]
        exact s_X12_jugLine_f wr_f (hK _ (Pm.wr (f := 6) Pm.rf) FL.wr)
      · have w3 : isW B N a kwJu = false := w6
        simp only [reduceCtorEq, false_implies, true_implies, forall_const, true_and, and_true, eq_self, mfI_0, mpI_0, mfN_1, mfI_2, mpI_2, mfI_3, mpI_3, mfI_4, mpI_4, mfI_5, mpI_5, mfI_6, mpI_6, mfI_7, mpI_7, mfI_8, mpI_8, mfI_9, mpI_9, mfI_10, mpI_10, mfI_11, mpI_11, mfN_12, mfZ_13, mpZ_13, mfZ_14, mpZ_14, mfN_15, mfN_16, mfN_17, mfN_18, mfN_19, mfN_20, mfI_21, mpI_21, mfI_22, mpI_22, mfN_23, mfN_24, mfN_25, mfN_26, mfN_27, mfN_28, mfN_29, mfI_30, mpI_30, mfN_31, mfN_32, mfN_33, mfN_34, mfN_35, mfN_36, mfN_37, mfI_38, mpI_38, mfN_39, mfI_40, mpI_40, mfI_41, mpI_41, mgI_1 hA, msI_1 hA, mgI_12 hA, msI_12 hA, mgI_15 hA, msI_15 hA, mgI_16 hA, msI_16 hA, mgI_17 hA, msI_17 hA, mgI_18 hA, msI_18 hA, mgI_19 hA, msI_19 hA, mgI_20 hA, msI_20 hA, mgI_23 hA, msI_23 hA, mgI_24 hA, msI_24 hA, mgI_25 hA, msI_25 hA, mgI_26 hA, msI_26 hA, mgI_27 hA, msI_27 hA, mgI_28 hA, msI_28 hA, mgI_29 hA, msI_29 hA, mgI_31 hA, msI_31 hA, mgI_32 hA, msI_32 hA, mgI_33 hA, msI_33 hA, mgI_34 hA, msI_34 hA, mgI_35 hA, msI_35 hA, mgI_36 hA, msI_36 hA, mgI_39 hA, msI_39 hA, mgJ hA, msJ hA, show (4 : Int32).toNatClampNeg = 4 from rfl, hR.2.1.2.1]
        refine ⟨(vin 4 (by decide) (by decide)), sel1 (P := fun b => F_X12_readLine_117 l G (d + 24) m no m (gK G 27) b (mh m A S ρ) K) ?_⟩
        refine pie w1 w2 w3 _ _ ?_ hno
        rw [show (4 : Int32) = nI 4 from rfl, Bool.eq_iff_iff]
        simp only [Bool.not_eq_true', decide_eq_false_iff_not, decide_eq_true_eq]
        rw [nt_le (by decide) (by omega)]
        omega
  have tab : ∀ can no, can = (!T.1.1) → no = ls.isEmpty → F_X12_readLine_32 l G (d + 24) m no m (gK G 21) can (mh m A S ρ) K := by
    intro can no hc hno
    simp only [F_X12_readLine_32, F_X12_readLine_189]
    have e0 : isW B N a kwT = true → linL B N a T ls = ck (!T.1.1) 3 a (tabL B N (nx B N a) T ls) := fun w4 => by
      unfold linL; rw [if_pos w4]
    refine s_X12_begins (d := d + 18) hA (j := 21) rfl ha ht hT hf (fun w5 c1 c2 S' s1 s2 => ?_) (fun w5 c1 => ?_) (fun w5 c1 c2 => absurd c2 (by decide)) (fun w5 => ?_)
    · rw [e0 w5, ← hc, c1, ck_t] at hK
      simp only [reduceCtorEq, false_implies, true_implies, forall_const, true_and, and_true, eq_self]
      rw [c1] at hc
      exact s_X12_tableLine (d := d + 4) hA a1 (hSc.nx s1 s2) (h0 (by simpa using hc.symm)).1 fun S'' u1 u2 => hK S'' ((hnw s1).tr u1) u2
    · rw [e0 w5, ← hc, c1, ck_f] at hK
      simp only [reduceCtorEq, false_implies, true_implies, forall_const, true_and, and_true, eq_self]
      exact s_X12_tableLine_f wr_f (hK _ (Pm.wr (f := 3) Pm.rf) FL.wr)
    · have w1 : isW B N a kwT = false := w5
      simp only [reduceCtorEq, false_implies, true_implies, forall_const, true_and, and_true, eq_self, mfI_0, mpI_0, mfN_1, mfI_2, mpI_2, mfI_3, mpI_3, mfI_4, mpI_4, mfI_5, mpI_5, mfI_6, mpI_6, mfI_7, mpI_7, mfI_8, mpI_8, mfI_9, mpI_9, mfI_10, mpI_10, mfI_11, mpI_11, mfN_12, mfZ_13, mpZ_13, mfZ_14, mpZ_14, mfN_15, mfN_16, mfN_17, mfN_18, mfN_19, mfN_20, mfI_21, mpI_21, mfI_22, mpI_22, mfN_23, mfN_24, mfN_25, mfN_26, mfN_27, mfN_28, mfN_29, mfI_30, mpI_30, mfN_31, mfN_32, mfN_33, mfN_34, mfN_35, mfN_36, mfN_37, mfI_38, mpI_38, mfN_39, mfI_40, mpI_40, mfI_41, mpI_41, mgI_1 hA, msI_1 hA, mgI_12 hA, msI_12 hA, mgI_15 hA, msI_15 hA, mgI_16 hA, msI_16 hA, mgI_17 hA, msI_17 hA, mgI_18 hA, msI_18 hA, mgI_19 hA, msI_19 hA, mgI_20 hA, msI_20 hA, mgI_23 hA, msI_23 hA, mgI_24 hA, msI_24 hA, mgI_25 hA, msI_25 hA, mgI_26 hA, msI_26 hA, mgI_27 hA, msI_27 hA, mgI_28 hA, msI_28 hA, mgI_29 hA, msI_29 hA, mgI_31 hA, msI_31 hA, mgI_32 hA, msI_32 hA, mgI_33 hA, msI_33 hA, mgI_34 hA, msI_34 hA, mgI_35 hA, msI_35 hA, mgI_36 hA, msI_36 hA, mgI_39 hA, msI_39 hA, mgJ hA, msJ hA, show (3 : Int32).toNatClampNeg = 3 from rfl, hR.2.1.1]
      refine ⟨(vin 3 (by decide) (by decide)), sel1 (P := fun b => F_X12_readLine_65 l G (d + 24) m no m (gK G 25) b (mh m A S ρ) K) ?_⟩
      refine boa w1 _ _ ?_ hno
      rw [show (3 : Int32) = nI 3 from rfl, Bool.eq_iff_iff]
      simp only [Bool.not_eq_true', decide_eq_false_iff_not, decide_eq_true_eq]
      rw [nt_le (by decide) (by omega)]
      omega
  refine m_X12_readLine rv_m ?_
  simp only [F_X12_readLine, mfI_0, mpI_0, mfN_1, mfI_2, mpI_2, mfI_3, mpI_3, mfI_4, mpI_4, mfI_5, mpI_5, mfI_6, mpI_6, mfI_7, mpI_7, mfI_8, mpI_8, mfI_9, mpI_9, mfI_10, mpI_10, mfI_11, mpI_11, mfN_12, mfZ_13, mpZ_13, mfZ_14, mpZ_14, mfN_15, mfN_16, mfN_17, mfN_18, mfN_19, mfN_20, mfI_21, mpI_21, mfI_22, mpI_22, mfN_23, mfN_24, mfN_25, mfN_26, mfN_27, mfN_28, mfN_29, mfI_30, mpI_30, mfN_31, mfN_32, mfN_33, mfN_34, mfN_35, mfN_36, mfN_37, mfI_38, mpI_38, mfN_39, mfI_40, mpI_40, mfI_41, mpI_41, mgI_1 hA, msI_1 hA, mgI_12 hA, msI_12 hA, mgI_15 hA, msI_15 hA, mgI_16 hA, msI_16 hA, mgI_17 hA, msI_17 hA, mgI_18 hA, msI_18 hA, mgI_19 hA, msI_19 hA, mgI_20 hA, msI_20 hA, mgI_23 hA, msI_23 hA, mgI_24 hA, msI_24 hA, mgI_25 hA, msI_25 hA, mgI_26 hA, msI_26 hA, mgI_27 hA, msI_27 hA, mgI_28 hA, msI_28 hA, mgI_29 hA, msI_29 hA, mgI_31 hA, msI_31 hA, mgI_32 hA, msI_32 hA, mgI_33 hA, msI_33 hA, mgI_34 hA, msI_34 hA, mgI_35 hA, msI_35 hA, mgI_36 hA, msI_36 hA, mgI_39 hA, msI_39 hA, mgJ hA, msJ hA, show (0 : Int32).toNatClampNeg = 0 from rfl, show S.2.2.1 18 0 = nI ls.length from hw.1]
  refine ⟨(vin 0 (by decide) (by decide)), sel0 (P := fun b => F_X12_readLine_14 l G (d + 24) m b (mh m A S ρ) K) ?_⟩
  simp only [F_X12_readLine_14, mfI_0, mpI_0, mfN_1, mfI_2, mpI_2, mfI_3, mpI_3, mfI_4, mpI_4, mfI_5, mpI_5, mfI_6, mpI_6, mfI_7, mpI_7, mfI_8, mpI_8, mfI_9, mpI_9, mfI_10, mpI_10, mfI_11, mpI_11, mfN_12, mfZ_13, mpZ_13, mfZ_14, mpZ_14, mfN_15, mfN_16, mfN_17, mfN_18, mfN_19, mfN_20, mfI_21, mpI_21, mfI_22, mpI_22, mfN_23, mfN_24, mfN_25, mfN_26, mfN_27, mfN_28, mfN_29, mfI_30, mpI_30, mfN_31, mfN_32, mfN_33, mfN_34, mfN_35, mfN_36, mfN_37, mfI_38, mpI_38, mfN_39, mfI_40, mpI_40, mfI_41, mpI_41, mgI_1 hA, msI_1 hA, mgI_12 hA, msI_12 hA, mgI_15 hA, msI_15 hA, mgI_16 hA, msI_16 hA, mgI_17 hA, msI_17 hA, mgI_18 hA, msI_18 hA, mgI_19 hA, msI_19 hA, mgI_20 hA, msI_20 hA, mgI_23 hA, msI_23 hA, mgI_24 hA, msI_24 hA, mgI_25 hA, msI_25 hA, mgI_26 hA, msI_26 hA, mgI_27 hA, msI_27 hA, mgI_28 hA, msI_28 hA, mgI_29 hA, msI_29 hA, mgI_31 hA, msI_31 hA, mgI_32 hA, msI_32 hA, mgI_33 hA, msI_33 hA, mgI_34 hA, msI_34 hA, mgI_35 hA, msI_35 hA, mgI_36 hA, msI_36 hA, mgI_39 hA, msI_39 hA, mgJ hA, msJ hA, show (0 : Int32).toNatClampNeg = 0 from rfl, f0]
  refine ⟨(vin 0 (by decide) (by decide)), sel0 (P := fun b => F_X12_readLine_32 l G (d + 24) m _ m (gK G 21) b (mh m A S ρ) K) ?_⟩
  refine tab _ _ ?_ ?_
  · cases T.1.1 <;> rfl
  · rw [Bool.eq_iff_iff, decide_eq_true_eq, nt_0 (by omega), List.isEmpty_iff, List.length_eq_zero_iff]
theorem s_X12_forget (hA : okA m A) {K : Hp → Prop} (hK : ∀ S', Gm [] S S' → (∀ T L, MEM T L S') → K (mh m A S' ρ)) : C_X12_forget l G (d + 1) m (mh m A S ρ) K := by
  refine m_X12_forget rv_m ?_
  simp only [F_X12_forget]
  have hz : ∀ r k (S' : MS), k + r = 32768 → Gm [] S S' → (∀ a, 31 ≤ a → a ≤ 35 → ∀ j, j < k → S'.2.2.1 a j = -1) → (∀ j, j < k → S'.2.2.2 j = -1) → Z_X12_forget_2 l G d K (r + 1) m (nI k) (mh m A S' ρ) := by
    intro r
    induction r with
    | zero =>
      intro k S' hk h1 h2 h3
      obtain rfl : k = 32768 := by omega
      simp only [Z_X12_forget_2, F_X12_forget_2]
      refine ⟨fun _ => hK S' h1 fun T L => ⟨fun a a1 a2 tk who t1 t2 => Or.inl (h2 a a1 a2 _ (sd_lt t1 t2)), fun tk who t1 t2 => Or.inl (h3 _ (sd_lt t1 t2))⟩, fun hc => absurd ((nt_le (a := 32768) (b := 32768) (by decide) (by decide)).mpr (by decide)) hc⟩
    | succ r ih =>
      intro k S' hk h1 h2 h3
      have hin : vp_in (nI k) 32768 := (nt_in (by omega)).mpr (by omega)
      rw [show r + 1 + 1 = (r + 1) + 1 from rfl, Z_X12_forget_2]
      simp only [F_X12_forget_2, mfI_0, mpI_0, mfN_1, mfI_2, mpI_2, mfI_3, mpI_3, mfI_4, mpI_4, mfI_5, mpI_5, mfI_6, mpI_6, mfI_7, mpI_7, mfI_8, mpI_8, mfI_9, mpI_9, mfI_10, mpI_10, mfI_11, mpI_11, mfN_12, mfZ_13, mpZ_13, mfZ_14, mpZ_14, mfN_15, mfN_16, mfN_17, mfN_18, mfN_19, mfN_20, mfI_21, mpI_21, mfI_22, mpI_22, mfN_23, mfN_24, mfN_25, mfN_26, mfN_27, mfN_28, mfN_29, mfI_30, mpI_30, mfN_31, mfN_32, mfN_33, mfN_34, mfN_35, mfN_36, mfN_37, mfI_38, mpI_38, mfN_39, mfI_40, mpI_40, mfI_41, mpI_41, mgI_1 hA, msI_1 hA, mgI_12 hA, msI_12 hA, mgI_15 hA, msI_15 hA, mgI_16 hA, msI_16 hA, mgI_17 hA, msI_17 hA, mgI_18 hA, msI_18 hA, mgI_19 hA, msI_19 hA, mgI_20 hA, msI_20 hA, mgI_23 hA, msI_23 hA, mgI_24 hA, msI_24 hA, mgI_25 hA, msI_25 hA, mgI_26 hA, msI_26 hA, mgI_27 hA, msI_27 hA, mgI_28 hA, msI_28 hA, mgI_29 hA, msI_29 hA, mgI_31 hA, msI_31 hA, mgI_32 hA, msI_32 hA, mgI_33 hA, msI_33 hA, mgI_34 hA, msI_34 hA, mgI_35 hA, msI_35 hA, mgI_36 hA, msI_36 hA, mgI_39 hA, msI_39 hA, mgJ hA, msJ hA, nI_clamp (show k < 2 ^ 31 by omega), show nI k + 1 = nI (k + 1) from nt_add k 1, ms_i, ms_i2, ms_b1, ms_b, ms_b2, ms_a1, ms_a2, ms_a, ms_a3, ms_j1, ms_j2, ms_j3, ms_j, ↓reduceIte, Nat.reduceEqDiff]
      rw [show (32768 : Int32) = nI 32768 from rfl, nt_le (by omega) (by omega)]
      refine ⟨fun hc => by omega, fun _ => ⟨hin, hin, hin, hin, hin, hin, ih (k + 1) _ (by omega) ⟨h1.1, h1.2.1, fun j hj => ?_⟩ (fun a a1 a2 j hj => ?_) fun j hj => ?_⟩⟩
      · simp only [ms_i, ms_i2, ms_b1, ms_b, ms_b2, ms_a1, ms_a2, ms_a, ms_a3, ms_j1, ms_j2, ms_j3, ms_j, ↓reduceIte, Nat.reduceEqDiff]
        rw [if_neg (by omega), if_neg (by omega), if_neg (by omega), if_neg (by omega), if_neg (by omega)]
        exact h1.2.2 j hj
      · have hu : ∀ b, 31 ≤ b → b ≤ 35 → up_ (S'.2.2.1 b) k (-1) j = -1 := fun b b1 b2 => by
          by_cases e : j = k
          · rw [e, up_eq]
          · rw [up_ne e]; exact h2 b b1 b2 j (by omega)
        simp only [ms_i, ms_i2, ms_b1, ms_b, ms_b2, ms_a1, ms_a2, ms_a, ms_a3, ms_j1, ms_j2, ms_j3, ms_j, ↓reduceIte, Nat.reduceEqDiff]
        by_cases e1 : a = 35
        · rw [if_pos e1]; exact hu 35 (by decide) (by decide)
        · rw [if_neg e1]
          by_cases e2 : a = 34
          · rw [if_pos e2]; exact hu 34 (by decide) (by decide)
          · rw [if_neg e2]
            by_cases e3 : a = 33
            · rw [if_pos e3]; exact hu 33 (by decide) (by decide)
            · rw [if_neg e3]
              by_cases e4 : a = 32
              · rw [if_pos e4]; exact hu 32 (by decide) (by decide)
              · rw [if_neg e4, if_pos (by omega)]; exact hu 31 (by decide) (by decide)
      · simp only [ms_i, ms_i2, ms_b1, ms_b, ms_b2, ms_a1, ms_a2, ms_a, ms_a3, ms_j1, ms_j2, ms_j3, ms_j, ↓reduceIte, Nat.reduceEqDiff]
        by_cases e : j = k
        · rw [e, up_eq]
        · rw [up_ne e]; exact h3 j (by omega)
  exact ⟨_, hz 32768 0 S (by omega) Gm.rf (fun a _ _ j hj => by omega) fun j hj => by omega⟩
/-- the lines of a text, then its end -/
theorem z_lines (hA : okA m A) {S0 : MS} {K : Int32 → Hp → Prop} {R : PR} (hE : ∀ S', Pm S0 S' → PO B N R S' → F_X12_table_191 l G (d + 39) m (mh m A S' ρ) K) : ∀ n a T ls S1, PI N a T ls → N - a < n → Pm S0 S1 → PO B N (linL B N a T ls) S1 → lnsL B N n a T ls = R → Z_X12_table_97 l G (d + 39) K n m (mh m A S1 ρ) := by
  intro n
  induction n with
  | zero => intro a T ls S1 _ h; omega
  | succ n ih =>
    intro a T ls S1 hI hn hP hO hR
    have hl := PG.linL (B := B) hI
    simp only [lnsL] at hR
    simp only [Z_X12_table_97, F_X12_table_97]
    cases hr : linL B N a T ls with
    | inl x =>
      obtain ⟨f, p⟩ := x
      rw [hr] at hO hR
      simp only at hR
      subst hR
      have h13 : S1.2.1 13 = true := hO.1
      simp only [F_X12_table_124, F_X12_table_147, mfI_0, mpI_0, mfN_1, mfI_2, mpI_2, mfI_3, mpI_3, mfI_4, mpI_4, mfI_5, mpI_5, mfI_6, mpI_6, mfI_7, mpI_7, mfI_8, mpI_8, mfI_9, mpI_9, mfI_10, mpI_10, mfI_11, mpI_11, mfN_12, mfZ_13, mpZ_13, mfZ_14, mpZ_14, mfN_15, mfN_16, mfN_17, mfN_18, mfN_19, mfN_20, mfI_21, mpI_21, mfI_22, mpI_22, mfN_23, mfN_24, mfN_25, mfN_26, mfN_27, mfN_28, mfN_29, mfI_30, mpI_30, mfN_31, mfN_32, mfN_33, mfN_34, mfN_35, mfN_36, mfN_37, mfI_38, mpI_38, mfN_39, mfI_40, mpI_40, mfI_41, mpI_41, h13, reduceCtorEq, false_implies, true_implies, forall_const, true_and, and_true, eq_self]
      exact hE S1 hP hO
    | inr x =>
      obtain ⟨a', T', ls'⟩ := x
      rw [hr] at hO hR hl
      simp only at hR
      obtain ⟨⟨g1, g2⟩, g3⟩ := hl
      have g4 := nx_gt hI.1 (show eK B N a ≠ 0 by rw [g3 _ _ _ rfl]; decide)
      have hO' : PSt B N a' T' ls' S1 := hO
      obtain ⟨ht, hT, hf, hTR, hw⟩ := hO'
      have h60 := eK_lt (B := B) (N := N) (a := a')
      have b3 := g2.2.1.1.1
      have p4 := g2.2.1.2.1.1
      have end147 : eK B N a' = 0 → endL a' T' ls' = R → F_X12_table_147 l G (d + 39) m (mh m A S1 ρ) K := by
        intro k0 hR2
        unfold endL at hR2
        have bad : (T'.1.1 && (!T'.2.1.isEmpty && !T'.2.2.1.isEmpty)) = false → F_X12_table_181 l G (d + 39) m (mh m A S1 ρ) K := by
          intro hb
          rw [hb, ck_f] at hR2
          subst hR2
          simp only [F_X12_table_181, mfI_0, mpI_0, mfN_1, mfI_2, mpI_2, mfI_3, mpI_3, mfI_4, mpI_4, mfI_5, mpI_5, mfI_6, mpI_6, mfI_7, mpI_7, mfI_8, mpI_8, mfI_9, mpI_9, mfI_10, mpI_10, mfI_11, mpI_11, mfN_12, mfZ_13, mpZ_13, mfZ_14, mpZ_14, mfN_15, mfN_16, mfN_17, mfN_18, mfN_19, mfN_20, mfI_21, mpI_21, mfI_22, mpI_22, mfN_23, mfN_24, mfN_25, mfN_26, mfN_27, mfN_28, mfN_29, mfI_30, mpI_30, mfN_31, mfN_32, mfN_33, mfN_34, mfN_35, mfN_36, mfN_37, mfI_38, mpI_38, mfN_39, mfI_40, mpI_40, mfI_41, mpI_41, hT.1]
          exact s_X12_wrong (d := d + 38) hf (hE _ (hP.wr (f := 6)) FL.wr)
        simp only [F_X12_table_147, mfI_0, mpI_0, mfN_1, mfI_2, mpI_2, mfI_3, mpI_3, mfI_4, mpI_4, mfI_5, mpI_5, mfI_6, mpI_6, mfI_7, mpI_7, mfI_8, mpI_8, mfI_9, mpI_9, mfI_10, mpI_10, mfI_11, mpI_11, mfN_12, mfZ_13, mpZ_13, mfZ_14, mpZ_14, mfN_15, mfN_16, mfN_17, mfN_18, mfN_19, mfN_20, mfI_21, mpI_21, mfI_22, mpI_22, mfN_23, mfN_24, mfN_25, mfN_26, mfN_27, mfN_28, mfN_29, mfI_30, mpI_30, mfN_31, mfN_32, mfN_33, mfN_34, mfN_35, mfN_36, mfN_37, mfI_38, mpI_38, mfN_39, mfI_40, mpI_40, mfI_41, mpI_41, mgI_1 hA, msI_1 hA, mgI_12 hA, msI_12 hA, mgI_15 hA, msI_15 hA, mgI_16 hA, msI_16 hA, mgI_17 hA, msI_17 hA, mgI_18 hA, msI_18 hA, mgI_19 hA, msI_19 hA, mgI_20 hA, msI_20 hA, mgI_23 hA, msI_23 hA, mgI_24 hA, msI_24 hA, mgI_25 hA, msI_25 hA, mgI_26 hA, msI_26 hA, mgI_27 hA, msI_27 hA, mgI_28 hA, msI_28 hA, mgI_29 hA, msI_29 hA, mgI_31 hA, msI_31 hA, mgI_32 hA, msI_32 hA, mgI_33 hA, msI_33 hA, mgI_34 hA, msI_34 hA, mgI_35 hA, msI_35 hA, mgI_36 hA, msI_36 hA, mgI_39 hA, msI_39 hA, mgJ hA, msJ hA, hf, reduceCtorEq, false_implies, true_implies, forall_const, true_and, and_true, eq_self, show (0 : Int32).toNatClampNeg = 0 from rfl, show (3 : Int32).toNatClampNeg = 3 from rfl, show (4 : Int32).toNatClampNeg = 4 from rfl, hTR.1.1, hTR.2.1.1, hTR.2.1.2.1]
        rw [nt_0 (show T'.2.1.length < 2 ^ 31 by omega), nt_0 (show T'.2.2.1.length < 2 ^ 31 by omega)]
        refine ⟨(vin 0 (by decide) (by decide)), fun h5 => bad ?_, fun h5 => ⟨(vin 3 (by decide) (by decide)), fun h6 => bad ?_, fun h6 => ⟨(vin 4 (by decide) (by decide)), fun h7 => ?_, fun h7 => bad ?_⟩⟩⟩
        · cases e : T'.1.1 with
          | true => rw [e] at h5; exact absurd h5 (by decide)
          | false => rfl
        · rw [List.length_eq_zero_iff.mp h6]; simp
        · have e1 : T'.1.1 = true := by
            cases e : T'.1.1 with
            | true => rfl
            | false => rw [e] at h5; exact absurd rfl h5
          have e2 : T'.2.1.isEmpty = false := by rw [List.isEmpty_eq_false_iff]; exact fun e => h6 (by rw [e]; rfl)
          have e3 : T'.2.2.1.isEmpty = false := by rw [List.isEmpty_eq_false_iff]; exact fun e => h7 (by rw [e]; rfl)
          rw [e1, e2, e3] at hR2
          subst hR2
          exact hE S1 hP ⟨ht, hT, hf, hTR, hw⟩
        · rw [List.length_eq_zero_iff.mp h7]; simp
      simp only [mfI_0, mpI_0, mfN_1, mfI_2, mpI_2, mfI_3, mpI_3, mfI_4, mpI_4, mfI_5, mpI_5, mfI_6, mpI_6, mfI_7, mpI_7, mfI_8, mpI_8, mfI_9, mpI_9, mfI_10, mpI_10, mfI_11, mpI_11, mfN_12, mfZ_13, mpZ_13, mfZ_14, mpZ_14, mfN_15, mfN_16, mfN_17, mfN_18, mfN_19, mfN_20, mfI_21, mpI_21, mfI_22, mpI_22, mfN_23, mfN_24, mfN_25, mfN_26, mfN_27, mfN_28, mfN_29, mfI_30, mpI_30, mfN_31, mfN_32, mfN_33, mfN_34, mfN_35, mfN_36, mfN_37, mfI_38, mpI_38, mfN_39, mfI_40, mpI_40, mfI_41, mpI_41, hf, reduceCtorEq, false_implies, true_implies, forall_const, true_and, and_true, eq_self, hT.2.2.1]
      rw [show (59 : Int32) = nI 59 from rfl, nt_eq (by omega) (by decide)]
      refine ⟨fun h5 => ?_, fun h5 => ?_⟩
      · simp only [F_X12_table_124, mfI_0, mpI_0, mfN_1, mfI_2, mpI_2, mfI_3, mpI_3, mfI_4, mpI_4, mfI_5, mpI_5, mfI_6, mpI_6, mfI_7, mpI_7, mfI_8, mpI_8, mfI_9, mpI_9, mfI_10, mpI_10, mfI_11, mpI_11, mfN_12, mfZ_13, mpZ_13, mfZ_14, mpZ_14, mfN_15, mfN_16, mfN_17, mfN_18, mfN_19, mfN_20, mfI_21, mpI_21, mfI_22, mpI_22, mfN_23, mfN_24, mfN_25, mfN_26, mfN_27, mfN_28, mfN_29, mfI_30, mpI_30, mfN_31, mfN_32, mfN_33, mfN_34, mfN_35, mfN_36, mfN_37, mfI_38, mpI_38, mfN_39, mfI_40, mpI_40, mfI_41, mpI_41, hf, reduceCtorEq, false_implies, true_implies, forall_const, true_and, and_true, eq_self, hT.2.2.1, hT.1]
        rw [nt_0 (show eK B N a' < 2 ^ 31 by omega)]
        refine ⟨fun h6 => ?_, fun h6 => ?_⟩
        · rw [if_pos h6] at hR
          exact end147 h6 hR
        · rw [if_neg h6, if_neg h5] at hR
          subst hR
          refine s_X12_wrong (d := d + 38) hf ?_
          simp only [F_X12_table_147, mfI_0, mpI_0, mfN_1, mfI_2, mpI_2, mfI_3, mpI_3, mfI_4, mpI_4, mfI_5, mpI_5, mfI_6, mpI_6, mfI_7, mpI_7, mfI_8, mpI_8, mfI_9, mpI_9, mfI_10, mpI_10, mfI_11, mpI_11, mfN_12, mfZ_13, mpZ_13, mfZ_14, mpZ_14, mfN_15, mfN_16, mfN_17, mfN_18, mfN_19, mfN_20, mfI_21, mpI_21, mfI_22, mpI_22, mfN_23, mfN_24, mfN_25, mfN_26, mfN_27, mfN_28, mfN_29, mfI_30, mpI_30, mfN_31, mfN_32, mfN_33, mfN_34, mfN_35, mfN_36, mfN_37, mfI_38, mpI_38, mfN_39, mfI_40, mpI_40, mfI_41, mpI_41, wr_f, reduceCtorEq, false_implies, true_implies, forall_const, true_and, and_true, eq_self]
          exact hE _ (hP.wr (f := 1)) FL.wr
      · rw [if_neg (by omega), if_pos h5] at hR
        refine s_X12_nx (d := d + 37) hA g2.1 ht hT fun S2 m1 m2 => ?_
        have hI2 : PI N (nx B N a') T' ls' := ⟨nx_le g2.1, g2.2⟩
        refine s_X12_readLine (d := d + 14) hA hI2 (PSt.nx hO m1 m2) fun S3 n1 n2 => ?_
        refine ih (nx B N a') T' ls' S3 hI2 ?_ ((hP.nx m1).tr n1) n2 hR
        have := nx_ge (B := B) g2.1
        have := nx_le (B := B) g2.1
        omega
theorem TR.lt {f f' : Nat → Int32} (hW : WFT T) (h : TR T f) (hf : ∀ i, i < 100 → f' i = f i) : TR T f' := by
  obtain ⟨⟨a1, a2, a3⟩, ⟨b1, b2, b3⟩, ⟨c1, c2⟩, e1, e2, e3, e4⟩ := h
  have hb := hW.1.1
  have hp := hW.2.1.1
  refine ⟨⟨(hf _ (by decide)).trans a1, (hf _ (by decide)).trans a2, (hf _ (by decide)).trans a3⟩, ⟨(hf _ (by decide)).trans b1, (hf _ (by decide)).trans b2, (hf _ (by decide)).trans b3⟩, ⟨(hf _ (by decide)).trans c1, (hf _ (by decide)).trans c2⟩, fun k b hk => ?_, fun k p hk => ?_, fun n w hw => ?_, fun n hn hw => (hf _ (by omega)).trans (e4 n hn hw)⟩
  · obtain ⟨q1, q2, q3⟩ := e1 k b hk
    have := (List.getElem?_eq_some_iff.mp hk).1
    exact ⟨(hf _ (by omega)).trans q1, (hf _ (by omega)).trans q2, (hf _ (by omega)).trans q3⟩
  · obtain ⟨q1, q2, q3, q4, q5⟩ := e2 k p hk
    have := (List.getElem?_eq_some_iff.mp hk).1
    exact ⟨(hf _ (by omega)).trans q1, (hf _ (by omega)).trans q2, (hf _ (by omega)).trans q3, (hf _ (by omega)).trans q4, (hf _ (by omega)).trans q5⟩
  · obtain ⟨q1, q2⟩ := e3 n w hw
    obtain ⟨n1, n2⟩ := nms_NM hW hw
    have := n1.2.1
    exact ⟨(hf _ (by omega)).trans q1, fun i hi => (hf _ (by omega)).trans (q2 i hi)⟩
theorem p_X12_table (hA : okA m A) {Z : ST} (hZ : VZ Z) (hM : MI Z S) {v : Int32} {K : Int32 → Hp → Prop} (hK : ∀ S', MI (n_table Z v).2 S' → K (n_table Z v).1 (mh m A S' ρ)) : C_X12_table l G (d + 40) m v (mh m A S ρ) K := by
  have h900 := hZ.2.1
  refine m_X12_table rv_m ?_
  simp only [F_X12_table]
  refine s_X12_clear ?_
  have h0 := hM.cl
  have c2 : (seti (seti S 0 0) 11 0).1 2 = nI (zN Z) := h0.1.1
  simp only [n_table] at hK
  simp only [mfI_0, mpI_0, mfN_1, mfI_2, mpI_2, mfI_3, mpI_3, mfI_4, mpI_4, mfI_5, mpI_5, mfI_6, mpI_6, mfI_7, mpI_7, mfI_8, mpI_8, mfI_9, mpI_9, mfI_10, mpI_10, mfI_11, mpI_11, mfN_12, mfZ_13, mpZ_13, mfZ_14, mpZ_14, mfN_15, mfN_16, mfN_17, mfN_18, mfN_19, mfN_20, mfI_21, mpI_21, mfI_22, mpI_22, mfN_23, mfN_24, mfN_25, mfN_26, mfN_27, mfN_28, mfN_29, mfI_30, mpI_30, mfN_31, mfN_32, mfN_33, mfN_34, mfN_35, mfN_36, mfN_37, mfI_38, mpI_38, mfN_39, mfI_40, mpI_40, mfI_41, mpI_41, c2]
  refine s_X12_inR 0 (zN Z) ?_
  cases hv : inR v 0 (zN Z) with
  | false =>
    simp only [hv, Bool.false_eq_true, if_false] at hK
    simp only [reduceCtorEq, false_implies, true_implies, forall_const, true_and, and_true, eq_self]
    exact s_X12_no (hK _ (h0.tr 2 (by decide)))
  | true =>
    obtain ⟨n, rfl, -, hn⟩ := inR_some (by decide) (by omega) hv
    simp only [hv, if_true, nI_clamp (show n < 2 ^ 31 by omega)] at hK
    simp only [reduceCtorEq, false_implies, true_implies, forall_const, true_and, and_true, eq_self, mfI_0, mpI_0, mfN_1, mfI_2, mpI_2, mfI_3, mpI_3, mfI_4, mpI_4, mfI_5, mpI_5, mfI_6, mpI_6, mfI_7, mpI_7, mfI_8, mpI_8, mfI_9, mpI_9, mfI_10, mpI_10, mfI_11, mpI_11, mfN_12, mfZ_13, mpZ_13, mfZ_14, mpZ_14, mfN_15, mfN_16, mfN_17, mfN_18, mfN_19, mfN_20, mfI_21, mpI_21, mfI_22, mpI_22, mfN_23, mfN_24, mfN_25, mfN_26, mfN_27, mfN_28, mfN_29, mfI_30, mpI_30, mfN_31, mfN_32, mfN_33, mfN_34, mfN_35, mfN_36, mfN_37, mfI_38, mpI_38, mfN_39, mfI_40, mpI_40, mfI_41, mpI_41]
    -- the state at the begin of reading
    have hend : ∀ S', Sm [2, 3, 4, 5, 6, 7, 8, 9, 10, 30] [13] [12, 16, 18, 23, 24, 25, 26, 27, 28, 29] (seti (seti S 0 0) 11 0) S' → S'.1 2 = 0 → S'.1 9 = 0 ∨ S'.2.1 13 = true → PO (zB Z) n (prs (zB Z) n) S' → F_X12_table_191 l G (d + 39) m (mh m A S' ρ) K := by
      intro S' hS h2 h9 hO
      have hpe := PE_prs (B := zB Z) (N := n)
      obtain ⟨s1, s2, s3, s4⟩ := hS
      simp only [F_X12_table_191, F_X12_table_213]
      cases hr : prs (zB Z) n with
      | inl x =>
        obtain ⟨f, p⟩ := x
        rw [hr] at hO hpe
        simp only [hr] at hK
        obtain ⟨o1, o2, o3⟩ := hO
        have hfin : ∀ S'' : MS, Sm [30] [] [23, 24, 25, 26, 27, 28, 29] S' S'' → (∀ T, zT Z = some T → GS T (allL T) S'') → MI (zB Z, 0, f, p, 4, zT Z, zW Z, zU Z, zI Z) (seti S'' 11 4) := by
          intro S'' hS2 hGS
          obtain ⟨u1, u2, u3, u4⟩ := hS2
          refine ⟨⟨(u1 2 (by decide)).trans h2, fun j hj => absurd hj (Nat.not_lt_zero j)⟩, ⟨(u1 9 (by decide)).trans o2, fun _ => (u1 10 (by decide)).trans o3, rfl⟩, ⟨?_, ?_⟩, ?_, ?_, ?_, ?_⟩
          · exact ((u1 21 (by decide)).trans (s1 21 (by decide))).trans h0.2.2.1.1
          · exact ((u1 22 (by decide)).trans (s1 22 (by decide))).trans h0.2.2.1.2
          · intro k w hw
            have e : S''.2.2.1 19 = (seti (seti S 0 0) 11 0).2.2.1 19 := (u3 19 (by decide)).trans (s3 19 (by decide))
            show RW w (S''.2.2.1 19) _
            rw [e]; exact h0.2.2.2.1 k w hw
          · intro k w hw
            have e : S''.2.2.1 20 = (seti (seti S 0 0) 11 0).2.2.1 20 := (u3 20 (by decide)).trans (s3 20 (by decide))
            show RW w (S''.2.2.1 20) _
            rw [e]; exact h0.2.2.2.2.1 k w hw
          · exact ((u2 14 (by simp)).trans (s2 14 (by decide))).trans h0.2.2.2.2.2.1
          · intro T hT
            have e : S''.2.2.1 17 = (seti (seti S 0 0) 11 0).2.2.1 17 := (u3 17 (by decide)).trans (s3 17 (by decide))
            refine ⟨(hGS T hT).i (by decide), ?_⟩
            show RW (zW Z) (S''.2.2.1 17) 0
            rw [e]; exact (h0.so hT).2.2
        simp only [mfI_0, mpI_0, mfN_1, mfI_2, mpI_2, mfI_3, mpI_3, mfI_4, mpI_4, mfI_5, mpI_5, mfI_6, mpI_6, mfI_7, mpI_7, mfI_8, mpI_8, mfI_9, mpI_9, mfI_10, mpI_10, mfI_11, mpI_11, mfN_12, mfZ_13, mpZ_13, mfZ_14, mpZ_14, mfN_15, mfN_16, mfN_17, mfN_18, mfN_19, mfN_20, mfI_21, mpI_21, mfI_22, mpI_22, mfN_23, mfN_24, mfN_25, mfN_26, mfN_27, mfN_28, mfN_29, mfI_30, mpI_30, mfN_31, mfN_32, mfN_33, mfN_34, mfN_35, mfN_36, mfN_37, mfI_38, mpI_38, mfN_39, mfI_40, mpI_40, mfI_41, mpI_41, o1, reduceCtorEq, false_implies, true_implies, forall_const, true_and, and_true, eq_self]
        have e14 : S'.2.1 14 = (zT Z).isSome := (s2 14 (by decide)).trans h0.2.2.2.2.2.1
        cases hT : zT Z with
        | none =>
          rw [hT] at e14
          have e14' : S'.2.1 14 = false := e14
          simp only [e14', reduceCtorEq, false_implies, true_implies, forall_const, true_and, and_true, eq_self]
          rw [hT] at hK
          refine s_X12_no (hK _ ?_)
          have := hfin S' Sm.rf (fun T h => by rw [hT] at h; cases h)
          rw [hT] at this
          exact this
        | some T =>
          rw [hT] at e14
          have e14' : S'.2.1 14 = true := e14
          simp only [e14', reduceCtorEq, false_implies, true_implies, forall_const, true_and, and_true, eq_self]
          obtain ⟨g14, gS, gW⟩ := h0.so hT
          obtain ⟨hW, hV, hG, htk, hwho, -⟩ := hZ.so hT
          have hR15 : TR T (S'.2.2.1 15) := by rw [s3 15 (by decide)]; exact gS.1
          refine s_X12_layLays (d := d + 35) hA (Or.inl rfl) hR15 hW fun S'' u1 u2 => s_X12_no (hK _ ?_)
          have hGS2 : GS T (allL T) S'' := by
            refine ⟨by rw [u1.2.2.1 15 (by decide)]; exact hR15, u2, fun k a b tk who t1 t2 => ?_, fun tk who t1 t2 => ?_⟩
            · rw [u1.2.2.1 k (by simp; omega), s3 k (by simp; omega)]
              exact gS.2.2.1 k a b tk who t1 t2
            · rw [u1.2.2.2, s4]
              exact gS.2.2.2 tk who t1 t2
          have := hfin S'' u1 (fun T' h => by rw [hT] at h; cases h; exact hGS2)
          rw [hT] at this
          rw [hT]
          exact this
      | inr x =>
        obtain ⟨a, T, ls⟩ := x
        rw [hr] at hO hpe
        simp only [hr] at hK
        obtain ⟨ht, hT, hf, hTR, hw⟩ := hO
        obtain ⟨hT0, hG, hl8⟩ := hpe
        have hW := hT0.1
        have h9' : S'.1 9 = 0 := by
          rcases h9 with h | h
          · exact h
          · rw [hf] at h; cases h
        simp only [mfI_0, mpI_0, mfN_1, mfI_2, mpI_2, mfI_3, mpI_3, mfI_4, mpI_4, mfI_5, mpI_5, mfI_6, mpI_6, mfI_7, mpI_7, mfI_8, mpI_8, mfI_9, mpI_9, mfI_10, mpI_10, mfI_11, mpI_11, mfN_12, mfZ_13, mpZ_13, mfZ_14, mpZ_14, mfN_15, mfN_16, mfN_17, mfN_18, mfN_19, mfN_20, mfI_21, mpI_21, mfI_22, mpI_22, mfN_23, mfN_24, mfN_25, mfN_26, mfN_27, mfN_28, mfN_29, mfI_30, mpI_30, mfN_31, mfN_32, mfN_33, mfN_34, mfN_35, mfN_36, mfN_37, mfI_38, mpI_38, mfN_39, mfI_40, mpI_40, mfI_41, mpI_41, hf, reduceCtorEq, false_implies, true_implies, forall_const, true_and, and_true, eq_self]
        refine s_X12_copy (kf := 16) (kt := 15) (a := 0) (b := 0) (n := 100) (d := d + 38) hA (by decide) (by decide) (by decide) (by decide) (by decide) (by decide) (by decide) (by decide) ?_
        simp only [mfI_0, mpI_0, mfN_1, mfI_2, mpI_2, mfI_3, mpI_3, mfI_4, mpI_4, mfI_5, mpI_5, mfI_6, mpI_6, mfI_7, mpI_7, mfI_8, mpI_8, mfI_9, mpI_9, mfI_10, mpI_10, mfI_11, mpI_11, mfN_12, mfZ_13, mpZ_13, mfZ_14, mpZ_14, mfN_15, mfN_16, mfN_17, mfN_18, mfN_19, mfN_20, mfI_21, mpI_21, mfI_22, mpI_22, mfN_23, mfN_24, mfN_25, mfN_26, mfN_27, mfN_28, mfN_29, mfI_30, mpI_30, mfN_31, mfN_32, mfN_33, mfN_34, mfN_35, mfN_36, mfN_37, mfI_38, mpI_38, mfN_39, mfI_40, mpI_40, mfI_41, mpI_41]
        refine s_X12_copy (kf := 18) (kt := 17) (a := 0) (b := 0) (n := 16) (d := d + 38) hA (by decide) (by decide) (by decide) (by decide) (by decide) (by decide) (by decide) (by decide) ?_
        simp only [mfI_0, mpI_0, mfN_1, mfI_2, mpI_2, mfI_3, mpI_3, mfI_4, mpI_4, mfI_5, mpI_5, mfI_6, mpI_6, mfI_7, mpI_7, mfI_8, mpI_8, mfI_9, mpI_9, mfI_10, mpI_10, mfI_11, mpI_11, mfN_12, mfZ_13, mpZ_13, mfZ_14, mpZ_14, mfN_15, mfN_16, mfN_17, mfN_18, mfN_19, mfN_20, mfI_21, mpI_21, mfI_22, mpI_22, mfN_23, mfN_24, mfN_25, mfN_26, mfN_27, mfN_28, mfN_29, mfI_30, mpI_30, mfN_31, mfN_32, mfN_33, mfN_34, mfN_35, mfN_36, mfN_37, mfI_38, mpI_38, mfN_39, mfI_40, mpI_40, mfI_41, mpI_41]
        refine s_X12_layLays (d := d + 35) hA (Or.inl rfl) (T := T) ?_ hW fun S'' u1 u2 => ?_
        · simp only [ms_i, ms_i2, ms_b1, ms_b, ms_b2, ms_a1, ms_a2, ms_a, ms_a3, ms_j1, ms_j2, ms_j3, ms_j, ↓reduceIte, Nat.reduceEqDiff]
          refine hTR.lt hW fun i hi => ?_
          rw [fb_put_in (by omega) (by omega), Nat.sub_zero, Nat.zero_add]
        · refine s_X12_forget (d := d + 38) hA fun S3 v1 v2 => ?_
          have h30 : S3.1 30 = nI (allL T).length := (v1.1 30 (by simp)).trans u2.2.1
          simp only [mfI_0, mpI_0, mfN_1, mfI_2, mpI_2, mfI_3, mpI_3, mfI_4, mpI_4, mfI_5, mpI_5, mfI_6, mpI_6, mfI_7, mpI_7, mfI_8, mpI_8, mfI_9, mpI_9, mfI_10, mpI_10, mfI_11, mpI_11, mfN_12, mfZ_13, mpZ_13, mfZ_14, mpZ_14, mfN_15, mfN_16, mfN_17, mfN_18, mfN_19, mfN_20, mfI_21, mpI_21, mfI_22, mpI_22, mfN_23, mfN_24, mfN_25, mfN_26, mfN_27, mfN_28, mfN_29, mfI_30, mpI_30, mfN_31, mfN_32, mfN_33, mfN_34, mfN_35, mfN_36, mfN_37, mfI_38, mpI_38, mfN_39, mfI_40, mpI_40, mfI_41, mpI_41, h30]
          refine hK S3 ?_
          obtain ⟨w1, w2, w3⟩ := v1
          obtain ⟨u1a, u1b, u1c, u1d⟩ := u1
          refine ⟨⟨?_, fun j hj => absurd hj (Nat.not_lt_zero j)⟩, ⟨?_, fun h => absurd (show (0 : Nat) = 4 from h) (by decide), ?_⟩, ⟨?_, ?_⟩, fun k u hu => ?_, fun k u hu => ?_, ?_, fun T' hT' => ?_⟩
          · exact ((w1 2 (by simp)).trans (u1a 2 (by decide))).trans h2
          · exact ((w1 9 (by simp)).trans (u1a 9 (by decide))).trans h9'
          · exact ((w1 11 (by simp)).trans (u1a 11 (by decide))).trans (s1 11 (by decide))
          · exact (w1 21 (by simp)).trans (u1a 21 (by decide))
          · exact (w1 22 (by simp)).trans (u1a 22 (by decide))
          · cases (show ([] : List RO)[k]? = some u from hu)
          · cases (show ([] : List RO)[k]? = some u from hu)
          · rw [w2]; exact u1b 14 (by simp)
          · cases hT'
            refine ⟨⟨?_, u2.cg (w1 30 (by simp)) fun j a b => w3 j (by omega), v2 T (allL T)⟩, ?_⟩
            · rw [w3 15 (by decide), u1c 15 (by decide)]
              simp only [ms_i, ms_i2, ms_b1, ms_b, ms_b2, ms_a1, ms_a2, ms_a, ms_a3, ms_j1, ms_j2, ms_j3, ms_j, ↓reduceIte, Nat.reduceEqDiff]
              refine hTR.lt hW fun i hi => ?_
              rw [fb_put_in (by omega) (by omega), Nat.sub_zero, Nat.zero_add]
            · rw [w3 17 (by decide), u1c 17 (by decide)]
              simp only [ms_i, ms_i2, ms_b1, ms_b, ms_b2, ms_a1, ms_a2, ms_a, ms_a3, ms_j1, ms_j2, ms_j3, ms_j, ↓reduceIte, Nat.reduceEqDiff]
              exact RW.put (by show ls.length ≤ 14; omega) hw
    have hz39 : ∀ r k (S' : MS), k + r = 100 → Sm [2, 3, 4, 5, 6, 7, 8, 9, 10, 30] [13] [12, 16, 18, 23, 24, 25, 26, 27, 28, 29] (seti (seti S 0 0) 11 0) S' → S'.1 2 = 0 → S'.1 9 = 0 → S'.2.1 13 = false → (∀ j, j < k → S'.2.2.1 16 j = 0) → Z_X12_table_39 l G (d + 39) K (r + 1) m (nI n) (nI k) (mh m A S' ρ) := by
      intro r
      induction r with
      | zero =>
        intro k S' hk hS h2 h9 h13 h16
        obtain rfl : k = 100 := by omega
        have hz60 : ∀ r k (S' : MS), k + r = 16 → Sm [2, 3, 4, 5, 6, 7, 8, 9, 10, 30] [13] [12, 16, 18, 23, 24, 25, 26, 27, 28, 29] (seti (seti S 0 0) 11 0) S' → S'.1 2 = 0 → S'.1 9 = 0 → S'.2.1 13 = false → (∀ j, j < 100 → S'.2.2.1 16 j = 0) → (∀ j, j < k → S'.2.2.1 18 j = 0) → Z_X12_table_60 l G (d + 39) K (r + 1) m (nI n) (nI k) (mh m A S' ρ) := by
          intro r
          induction r with
          | zero =>
            intro k S' hk hS h2 h9 h13 h16 h18
            obtain rfl : k = 16 := by omega
            simp only [Z_X12_table_60, F_X12_table_60, mfI_0, mpI_0, mfN_1, mfI_2, mpI_2, mfI_3, mpI_3, mfI_4, mpI_4, mfI_5, mpI_5, mfI_6, mpI_6, mfI_7, mpI_7, mfI_8, mpI_8, mfI_9, mpI_9, mfI_10, mpI_10, mfI_11, mpI_11, mfN_12, mfZ_13, mpZ_13, mfZ_14, mpZ_14, mfN_15, mfN_16, mfN_17, mfN_18, mfN_19, mfN_20, mfI_21, mpI_21, mfI_22, mpI_22, mfN_23, mfN_24, mfN_25, mfN_26, mfN_27, mfN_28, mfN_29, mfI_30, mpI_30, mfN_31, mfN_32, mfN_33, mfN_34, mfN_35, mfN_36, mfN_37, mfI_38, mpI_38, mfN_39, mfI_40, mpI_40, mfI_41, mpI_41]
            refine ⟨fun _ => ?_, fun hc => absurd ((nt_le (a := 16) (b := 16) (by decide) (by decide)).mpr (by decide)) hc⟩
            have hS2 : Sm [2, 3, 4, 5, 6, 7, 8, 9, 10, 30] [13] [12, 16, 18, 23, 24, 25, 26, 27, 28, 29] (seti (seti S 0 0) 11 0) (seti (seti S' 3 (nI n)) 5 0) := (hS.i (by decide)).i (by decide)
            have ht : TXT (zB Z) n (seti (seti S' 3 (nI n)) 5 0) := by
              refine ⟨by omega, rfl, hZ.1, fun j hj => ?_⟩
              show S'.2.2.1 1 j = _
              rw [hS.2.2.1 1 (by decide)]
              exact h0.1.2 j (by show j < zN Z; omega)
            refine s_X12_next (d := d + 37) hA (k := 0) (Nat.zero_le _) rfl ht fun S1 m1 m2 => ?_
            have hP1 : PSt (zB Z) n (tA (zB Z) n 0) TB0 [] S1 := by
              refine ⟨ht.nx m1, m2, (m1.2.1 13 (by simp)).trans h13, ?_, ?_⟩
              · rw [m1.2.2.1 16 (by decide)]
                simp only [ms_i, ms_i2, ms_b1, ms_b, ms_b2, ms_a1, ms_a2, ms_a, ms_a3, ms_j1, ms_j2, ms_j3, ms_j, ↓reduceIte, Nat.reduceEqDiff]
                refine ⟨⟨h16 0 (by decide), h16 1 (by decide), h16 2 (by decide)⟩, ⟨h16 3 (by decide), h16 4 (by decide), h16 5 (by decide)⟩, ⟨?_, h16 16 (by decide)⟩, fun k b hk => by simp [TB0] at hk, fun k b hk => by simp [TB0] at hk, fun q w hw => ?_, fun q hq _ => h16 _ (by omega)⟩
                · rw [h16 6 (by decide)]; rfl
                · unfold nms TB0 at hw
                  split at hw <;> simp at hw
              · rw [m1.2.2.1 18 (by decide)]
                simp only [ms_i, ms_i2, ms_b1, ms_b, ms_b2, ms_a1, ms_a2, ms_a, ms_a3, ms_j1, ms_j2, ms_j3, ms_j, ↓reduceIte, Nat.reduceEqDiff]
                exact ⟨h18 0 (by decide), fun k v hv => by simp at hv, h18 15 (by decide)⟩
            refine s_X12_readLine (d := d + 14) hA PI_0 hP1 fun S2 n1 n2 => ?_
            refine ⟨_, z_lines (S0 := S1) hA (R := prs (zB Z) n) (fun S3 q1 q2 => ?_) (n + 1) _ _ _ S2 PI_0 (by omega) n1 n2 rfl⟩
            have hS3 : Sm [2, 3, 4, 5, 6, 7, 8, 9, 10, 30] [13] [12, 16, 18, 23, 24, 25, 26, 27, 28, 29] S1 S3 := q1.1.mo (by decide) (by decide) (by decide)
            refine hend S3 ((hS2.tr (m1.mo (by decide) (by simp) (by decide))).tr hS3) ?_ ?_ q2
            · exact ((q1.1.1 2 (by decide)).trans (m1.1 2 (by decide))).trans h2
            · cases hr : prs (zB Z) n with
              | inl x => right; rw [hr] at q2; exact q2.1
              | inr x =>
                left
                rw [hr] at q2
                exact ((q1.2 q2.2.2.1).1.trans (m1.1 9 (by decide))).trans h9
          | succ r ih =>
            intro k S' hk hS h2 h9 h13 h16 h18
            rw [show r + 1 + 1 = (r + 1) + 1 from rfl, Z_X12_table_60]
            simp only [F_X12_table_60, mfI_0, mpI_0, mfN_1, mfI_2, mpI_2, mfI_3, mpI_3, mfI_4, mpI_4, mfI_5, mpI_5, mfI_6, mpI_6, mfI_7, mpI_7, mfI_8, mpI_8, mfI_9, mpI_9, mfI_10, mpI_10, mfI_11, mpI_11, mfN_12, mfZ_13, mpZ_13, mfZ_14, mpZ_14, mfN_15, mfN_16, mfN_17, mfN_18, mfN_19, mfN_20, mfI_21, mpI_21, mfI_22, mpI_22, mfN_23, mfN_24, mfN_25, mfN_26, mfN_27, mfN_28, mfN_29, mfI_30, mpI_30, mfN_31, mfN_32, mfN_33, mfN_34, mfN_35, mfN_36, mfN_37, mfI_38, mpI_38, mfN_39, mfI_40, mpI_40, mfI_41, mpI_41, mgI_1 hA, msI_1 hA, mgI_12 hA, msI_12 hA, mgI_15 hA, msI_15 hA, mgI_16 hA, msI_16 hA, mgI_17 hA, msI_17 hA, mgI_18 hA, msI_18 hA, mgI_19 hA, msI_19 hA, mgI_20 hA, msI_20 hA, mgI_23 hA, msI_23 hA, mgI_24 hA, msI_24 hA, mgI_25 hA, msI_25 hA, mgI_26 hA, msI_26 hA, mgI_27 hA, msI_27 hA, mgI_28 hA, msI_28 hA, mgI_29 hA, msI_29 hA, mgI_31 hA, msI_31 hA, mgI_32 hA, msI_32 hA, mgI_33 hA, msI_33 hA, mgI_34 hA, msI_34 hA, mgI_35 hA, msI_35 hA, mgI_36 hA, msI_36 hA, mgI_39 hA, msI_39 hA, mgJ hA, msJ hA, nI_clamp (show k < 2 ^ 31 by omega), show nI k + 1 = nI (k + 1) from nt_add k 1]
            rw [show (16 : Int32) = nI 16 from rfl, nt_le (by decide) (by omega)]
            refine ⟨fun hc => by omega, fun _ => ⟨(nt_in (by omega)).mpr (by omega), ih (k + 1) _ (by omega) (hS.a (by decide)) h2 h9 h13 (fun j hj => ?_) fun j hj => ?_⟩⟩
            · simp only [ms_i, ms_i2, ms_b1, ms_b, ms_b2, ms_a1, ms_a2, ms_a, ms_a3, ms_j1, ms_j2, ms_j3, ms_j, ↓reduceIte, Nat.reduceEqDiff]; exact h16 j hj
            · simp only [ms_i, ms_i2, ms_b1, ms_b, ms_b2, ms_a1, ms_a2, ms_a, ms_a3, ms_j1, ms_j2, ms_j3, ms_j, ↓reduceIte, Nat.reduceEqDiff]
              by_cases e : j = k
              · rw [e, up_eq]
              · rw [up_ne e]; exact h18 j (by omega)
        simp only [Z_X12_table_39, F_X12_table_39]
        exact ⟨fun _ => ⟨_, hz60 16 0 S' (by omega) hS h2 h9 h13 h16 fun j hj => by omega⟩, fun hc => absurd ((nt_le (a := 100) (b := 100) (by decide) (by decide)).mpr (by decide)) hc⟩
      | succ r ih =>
        intro k S' hk hS h2 h9 h13 h16
        rw [show r + 1 + 1 = (r + 1) + 1 from rfl, Z_X12_table_39]
        simp only [F_X12_table_39, mfI_0, mpI_0, mfN_1, mfI_2, mpI_2, mfI_3, mpI_3, mfI_4, mpI_4, mfI_5, mpI_5, mfI_6, mpI_6, mfI_7, mpI_7, mfI_8, mpI_8, mfI_9, mpI_9, mfI_10, mpI_10, mfI_11, mpI_11, mfN_12, mfZ_13, mpZ_13, mfZ_14, mpZ_14, mfN_15, mfN_16, mfN_17, mfN_18, mfN_19, mfN_20, mfI_21, mpI_21, mfI_22, mpI_22, mfN_23, mfN_24, mfN_25, mfN_26, mfN_27, mfN_28, mfN_29, mfI_30, mpI_30, mfN_31, mfN_32, mfN_33, mfN_34, mfN_35, mfN_36, mfN_37, mfI_38, mpI_38, mfN_39, mfI_40, mpI_40, mfI_41, mpI_41, mgI_1 hA, msI_1 hA, mgI_12 hA, msI_12 hA, mgI_15 hA, msI_15 hA, mgI_16 hA, msI_16 hA, mgI_17 hA, msI_17 hA, mgI_18 hA, msI_18 hA, mgI_19 hA, msI_19 hA, mgI_20 hA, msI_20 hA, mgI_23 hA, msI_23 hA, mgI_24 hA, msI_24 hA, mgI_25 hA, msI_25 hA, mgI_26 hA, msI_26 hA, mgI_27 hA, msI_27 hA, mgI_28 hA, msI_28 hA, mgI_29 hA, msI_29 hA, mgI_31 hA, msI_31 hA, mgI_32 hA, msI_32 hA, mgI_33 hA, msI_33 hA, mgI_34 hA, msI_34 hA, mgI_35 hA, msI_35 hA, mgI_36 hA, msI_36 hA, mgI_39 hA, msI_39 hA, mgJ hA, msJ hA, nI_clamp (show k < 2 ^ 31 by omega), show nI k + 1 = nI (k + 1) from nt_add k 1]
        rw [show (100 : Int32) = nI 100 from rfl, nt_le (by decide) (by omega)]
        refine ⟨fun hc => by omega, fun _ => ⟨(nt_in (by omega)).mpr (by omega), ih (k + 1) _ (by omega) (hS.a (by decide)) h2 h9 h13 fun j hj => ?_⟩⟩
        simp only [ms_i, ms_i2, ms_b1, ms_b, ms_b2, ms_a1, ms_a2, ms_a, ms_a3, ms_j1, ms_j2, ms_j3, ms_j, ↓reduceIte, Nat.reduceEqDiff]
        by_cases e : j = k
        · rw [e, up_eq]
        · rw [up_ne e]; exact h16 j (by omega)
    exact ⟨_, hz39 100 0 _ (by omega) (((Sm.rf.i (by decide)).i (by decide)).b (by decide)) rfl rfl rfl fun j hj => by omega⟩
end TAB
