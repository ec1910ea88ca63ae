/-! THE MODEL, method by method: what each comes to -/
theorem ms_i (S : MS) (k : Nat) (v : Int32) (j : Nat) : (seti S k v).1 j = if j = k then v else S.1 j := rfl
theorem ms_i2 (S : MS) (k : Nat) (v : Int32) : (seti S k v).2 = S.2 := rfl
theorem ms_b1 (S : MS) (k : Nat) (v : Bool) : (setb S k v).1 = S.1 := rfl
theorem ms_b (S : MS) (k : Nat) (v : Bool) (j : Nat) : (setb S k v).2.1 j = if j = k then v else S.2.1 j := rfl
theorem ms_b2 (S : MS) (k : Nat) (v : Bool) : (setb S k v).2.2 = S.2.2 := rfl
theorem ms_a1 (S : MS) (k : Nat) (f : Nat → Int32) : (seta S k f).1 = S.1 := rfl
theorem ms_a2 (S : MS) (k : Nat) (f : Nat → Int32) : (seta S k f).2.1 = S.2.1 := rfl
theorem ms_a (S : MS) (k : Nat) (f : Nat → Int32) (j : Nat) : (seta S k f).2.2.1 j = if j = k then f else S.2.2.1 j := rfl
theorem ms_a3 (S : MS) (k : Nat) (f : Nat → Int32) : (seta S k f).2.2.2 = S.2.2.2 := rfl
theorem up_eq {α : Type} (f : Nat → α) (k : Nat) (x : α) : up_ f k x k = x := if_pos rfl
theorem up_ne {α : Type} {f : Nat → α} {k j : Nat} {x : α} (h : j ≠ k) : up_ f k x j = f j := if_neg h
theorem ms_j1 (S : MS) (f : Nat → Int64) : (setj S f).1 = S.1 := rfl
theorem ms_j2 (S : MS) (f : Nat → Int64) : (setj S f).2.1 = S.2.1 := rfl
theorem ms_j3 (S : MS) (f : Nat → Int64) : (setj S f).2.2.1 = S.2.2.1 := rfl
theorem ms_j (S : MS) (f : Nat → Int64) : (setj S f).2.2.2 = f := rfl
theorem kif {σ : Hp} {K : Bool → Hp → Prop} {b c : Bool} (h : K b σ) (e : b = c) : K c σ := e ▸ h
section M1
variable {l : Launch} {G : GG} {d m : Nat} {A : Nat → Nat} {S : MS} {ρ : Hp}
theorem s_X12_clear {K : Hp → Prop} (h : K (mh m A (seti (seti S 0 0) 11 0) ρ)) : C_X12_clear l G (d + 1) m (mh m A S ρ) K := by
  refine m_X12_clear rv_m ?_
  simp only [F_X12_clear, mfI_0, mpI_0, mfN_1, mfI_2, mpI_2, mfI_3, mpI_3, mfI_4, mpI_4, mfI_5, mpI_5, mfI_6, mpI_6, mfI_7, mpI_7, mfI_8, mpI_8, mfI_9, mpI_9, mfI_10, mpI_10, mfI_11, mpI_11, mfN_12, mfZ_13, mpZ_13, mfZ_14, mpZ_14, mfN_15, mfN_16, mfN_17, mfN_18, mfN_19, mfN_20, mfI_21, mpI_21, mfI_22, mpI_22, mfN_23, mfN_24, mfN_25, mfN_26, mfN_27, mfN_28, mfN_29, mfI_30, mpI_30, mfN_31, mfN_32, mfN_33, mfN_34, mfN_35, mfN_36, mfN_37, mfI_38, mpI_38, mfN_39, mfI_40, mpI_40, mfI_41, mpI_41]
  exact h
theorem s_X12_no {w : Int32} {K : Int32 → Hp → Prop} (h : K (-1) (mh m A (seti S 11 w) ρ)) : C_X12_no l G (d + 1) m w (mh m A S ρ) K := by
  refine m_X12_no rv_m ?_
  simp only [F_X12_no, mfI_0, mpI_0, mfN_1, mfI_2, mpI_2, mfI_3, mpI_3, mfI_4, mpI_4, mfI_5, mpI_5, mfI_6, mpI_6, mfI_7, mpI_7, mfI_8, mpI_8, mfI_9, mpI_9, mfI_10, mpI_10, mfI_11, mpI_11, mfN_12, mfZ_13, mpZ_13, mfZ_14, mpZ_14, mfN_15, mfN_16, mfN_17, mfN_18, mfN_19, mfN_20, mfI_21, mpI_21, mfI_22, mpI_22, mfN_23, mfN_24, mfN_25, mfN_26, mfN_27, mfN_28, mfN_29, mfI_30, mpI_30, mfN_31, mfN_32, mfN_33, mfN_34, mfN_35, mfN_36, mfN_37, mfI_38, mpI_38, mfN_39, mfI_40, mpI_40, mfI_41, mpI_41]
  exact h
theorem s_X12_isNot {w : Int32} {K : Bool → Hp → Prop} (h : K false (mh m A (seti S 11 w) ρ)) : C_X12_isNot l G (d + 1) m w (mh m A S ρ) K := by
  refine m_X12_isNot rv_m ?_
  simp only [F_X12_isNot, mfI_0, mpI_0, mfN_1, mfI_2, mpI_2, mfI_3, mpI_3, mfI_4, mpI_4, mfI_5, mpI_5, mfI_6, mpI_6, mfI_7, mpI_7, mfI_8, mpI_8, mfI_9, mpI_9, mfI_10, mpI_10, mfI_11, mpI_11, mfN_12, mfZ_13, mpZ_13, mfZ_14, mpZ_14, mfN_15, mfN_16, mfN_17, mfN_18, mfN_19, mfN_20, mfI_21, mpI_21, mfI_22, mpI_22, mfN_23, mfN_24, mfN_25, mfN_26, mfN_27, mfN_28, mfN_29, mfI_30, mpI_30, mfN_31, mfN_32, mfN_33, mfN_34, mfN_35, mfN_36, mfN_37, mfI_38, mpI_38, mfN_39, mfI_40, mpI_40, mfI_41, mpI_41]
  exact h
theorem s_X12_within {v lo hi : Int32} {σ : Hp} {K : Bool → Hp → Prop} (h : K (decide (¬ v < lo ∧ ¬ hi < v)) σ) : C_X12_within l G (d + 1) v lo hi σ K := by
  refine m_X12_within ?_
  simp only [F_X12_within_15, F_X12_within_14, F_X12_within]
  refine ⟨fun h1 => ?_, fun h1 => ⟨fun h2 => ?_, fun h2 => ?_⟩⟩
  · exact kif h (by simp [h1])
  · exact kif h (by simp [h2])
  · exact kif h (by simp [h1, h2])
theorem s_X12_hasBit {a k : Nat} (ha : a < 2 ^ 31) (hk : k < 31) {σ : Hp} {K : Bool → Hp → Prop} (h : K (a.testBit k) σ) : C_X12_hasBit l G (d + 1) (nI a) (nI k) σ K := by
  refine m_X12_hasBit ?_
  simp only [F_X12_hasBit_14, F_X12_hasBit, nt_bit ha hk]
  exact ⟨fun h1 => kif h (by simpa using h1), fun h1 => kif h h1⟩
/-- what look answers -/
def lk (B : Nat → Nat) (N k : Nat) : Int32 := if k < N then nI (B k) else -1
def smallI (x : Int32) : Bool := decide (¬ x < 97 ∧ ¬ 122 < x)
def digitI (x : Int32) : Bool := decide (¬ x < 48 ∧ ¬ 57 < x)
/-- the text on the tape -/
def TXT (B : Nat → Nat) (N : Nat) (S : MS) : Prop := N ≤ 900 ∧ S.1 3 = nI N ∧ (∀ j, B j < 256) ∧ ∀ j, j < N → S.2.2.1 1 j = nI (B j)
theorem s_X12_look (hA : okA m A) {B : Nat → Nat} {N k : Nat} (hk : k < 2 ^ 31) (ht : TXT B N S) {K : Int32 → Hp → Prop} (h : K (lk B N k) (mh m A S ρ)) : C_X12_look l G (d + 1) m (nI k) (mh m A S ρ) K := by
  obtain ⟨h1, h2, h3, h4⟩ := ht
  refine m_X12_look rv_m ?_
  simp only [F_X12_look_18, F_X12_look, mfI_0, mpI_0, mfN_1, mfI_2, mpI_2, mfI_3, mpI_3, mfI_4, mpI_4, mfI_5, mpI_5, mfI_6, mpI_6, mfI_7, mpI_7, mfI_8, mpI_8, mfI_9, mpI_9, mfI_10, mpI_10, mfI_11, mpI_11, mfN_12, mfZ_13, mpZ_13, mfZ_14, mpZ_14, mfN_15, mfN_16, mfN_17, mfN_18, mfN_19, mfN_20, mfI_21, mpI_21, mfI_22, mpI_22, mfN_23, mfN_24, mfN_25, mfN_26, mfN_27, mfN_28, mfN_29, mfI_30, mpI_30, mfN_31, mfN_32, mfN_33, mfN_34, mfN_35, mfN_36, mfN_37, mfI_38, mpI_38, mfN_39, mfI_40, mpI_40, mfI_41, mpI_41, mgI_1 hA, msI_1 hA, mgI_12 hA, msI_12 hA, mgI_15 hA, msI_15 hA, mgI_16 hA, msI_16 hA, mgI_17 hA, msI_17 hA, mgI_18 hA, msI_18 hA, mgI_19 hA, msI_19 hA, mgI_20 hA, msI_20 hA, mgI_23 hA, msI_23 hA, mgI_24 hA, msI_24 hA, mgI_25 hA, msI_25 hA, mgI_26 hA, msI_26 hA, mgI_27 hA, msI_27 hA, mgI_28 hA, msI_28 hA, mgI_29 hA, msI_29 hA, mgI_31 hA, msI_31 hA, mgI_32 hA, msI_32 hA, mgI_33 hA, msI_33 hA, mgI_34 hA, msI_34 hA, mgI_35 hA, msI_35 hA, mgI_36 hA, msI_36 hA, mgI_39 hA, msI_39 hA, mgJ hA, msJ hA, h2, nt_le (show N < 2 ^ 31 by omega) hk, nt_in hk, nI_clamp hk]
  unfold lk at h
  refine ⟨fun h5 => ?_, fun h5 => ⟨by omega, ?_⟩⟩
  · rwa [if_neg (by omega)] at h
  · rw [if_pos (by omega)] at h
    rwa [h4 k (by omega)]
theorem s_X12_isSmall {v : Int32} {σ : Hp} {K : Bool → Hp → Prop} (h : K (smallI v) σ) : C_X12_isSmall l G (d + 1) v σ K := by
  refine m_X12_isSmall ?_
  simp only [F_X12_isSmall_17, F_X12_isSmall_16, F_X12_isSmall]
  unfold smallI at h
  refine ⟨fun h1 => ?_, fun h1 => ⟨fun h2 => ?_, fun h2 => ?_⟩⟩
  · exact kif h (by simp [h1])
  · exact kif h (by simp [h2])
  · exact kif h (by simp [h1, h2])
theorem s_X12_isDigit {v : Int32} {σ : Hp} {K : Bool → Hp → Prop} (h : K (digitI v) σ) : C_X12_isDigit l G (d + 1) v σ K := by
  refine m_X12_isDigit ?_
  simp only [F_X12_isDigit_17, F_X12_isDigit_16, F_X12_isDigit]
  unfold digitI at h
  refine ⟨fun h1 => ?_, fun h1 => ⟨fun h2 => ?_, fun h2 => ?_⟩⟩
  · exact kif h (by simp [h1])
  · exact kif h (by simp [h2])
  · exact kif h (by simp [h1, h2])
end M1
