/-! which lays may be, in the model -/
def frE (T : TB) (e : LY) (tk : Nat) : Bool := decide (tk &&& e.2.2.2.2.2.1 = 0) && (!T.1.2.2 || decide (tk &&& e.2.2.2.2.2.2 = 0))
def ow (T : TB) (e : LY) : Nat := ((T.2.2.1[e.1]?).map fun p => p.2.2.2.2.1).getD 0
def myE (T : TB) (e : LY) (tk who : Nat) : Bool := frE T e tk && (decide (ow T e = 0) || decide (ow T e = who + 1))
section MAY
variable {l : Launch} {G : GG} {d m : Nat} {A : Nat → Nat} {S : MS} {ρ : Hp} {T : TB} {kb : Nat} {L : List LY}
theorem s_X12_isFree (hA : okA m A) (hb : kb = 15 ∨ kb = 16) (hR : TR T (S.2.2.1 kb)) (hL : LR L S) {i tk : Nat} {e : LY} (he : L[i]? = some e) (htk : tk < 2 ^ 31) {K : Bool → Hp → Prop} (h : K (frE T e tk) (mh m A S ρ)) : C_X12_isFree l G (d + 1) m (A kb) (nI tk) (nI i) (mh m A S ρ) K := by
  have hi := (List.getElem?_eq_some_iff.mp he).1
  have h224 := hL.1
  obtain ⟨-, -, -, -, -, g5, g6⟩ := hL.2.2 i e he
  have hin : vp_in (nI i) 224 := (nt_in (by omega)).mpr (by omega)
  refine m_X12_isFree rv_m ?_
  simp only [F_X12_isFree, F_X12_isFree_28, F_X12_isFree_32, F_X12_isFree_33, mfI_0, mpI_0, mfN_1, mfI_2, mpI_2, mfI_3, mpI_3, mfI_4, mpI_4, mfI_5, mpI_5, mfI_6, mpI_6, mfI_7, mpI_7, mfI_8, mpI_8, mfI_9, mpI_9, mfI_10, mpI_10, mfI_11, mpI_11, mfN_12, mfZ_13, mpZ_13, mfZ_14, mpZ_14, mfN_15, mfN_16, mfN_17, mfN_18, mfN_19, mfN_20, mfI_21, mpI_21, mfI_22, mpI_22, mfN_23, mfN_24, mfN_25, mfN_26, mfN_27, mfN_28, mfN_29, mfI_30, mpI_30, mfN_31, mfN_32, mfN_33, mfN_34, mfN_35, mfN_36, mfN_37, mfI_38, mpI_38, mfN_39, mfI_40, mpI_40, mfI_41, mpI_41, mgI_1 hA, msI_1 hA, mgI_12 hA, msI_12 hA, mgI_15 hA, msI_15 hA, mgI_16 hA, msI_16 hA, mgI_17 hA, msI_17 hA, mgI_18 hA, msI_18 hA, mgI_19 hA, msI_19 hA, mgI_20 hA, msI_20 hA, mgI_23 hA, msI_23 hA, mgI_24 hA, msI_24 hA, mgI_25 hA, msI_25 hA, mgI_26 hA, msI_26 hA, mgI_27 hA, msI_27 hA, mgI_28 hA, msI_28 hA, mgI_29 hA, msI_29 hA, mgI_31 hA, msI_31 hA, mgI_32 hA, msI_32 hA, mgI_33 hA, msI_33 hA, mgI_34 hA, msI_34 hA, mgI_35 hA, msI_35 hA, mgI_36 hA, msI_36 hA, mgI_39 hA, msI_39 hA, mgJ hA, msJ hA, mgI_b hA hb, nI_clamp (show i < 2 ^ 31 by omega), g5, g6, nt_and0 htk, show (2 : Int32).toNatClampNeg = 2 from rfl, hR.1.2.2]
  unfold frE at h
  refine ⟨hin, fun h1 => kif h (by simp [h1]), fun h1 => ⟨(nt_in (a := 2) (by decide)).mpr (by decide), fun h2 => ?_, fun h2 => ?_⟩⟩
  · have h3 : T.1.2.2 = false := bi_inj (b := false) h2
    exact kif h (by simp [h1, h3])
  · have h3 : T.1.2.2 = true := by
      cases h4 : T.1.2.2 with
      | true => rfl
      | false => rw [h4] at h2; exact absurd rfl h2
    exact ⟨hin, fun h4 => kif h (by simp [h3, h4]), fun h4 => kif h (by simp [h1, h4])⟩
theorem s_X12_mayIn (hA : okA m A) (hb : kb = 15 ∨ kb = 16) (hR : TR T (S.2.2.1 kb)) (hW : WFT T) (hL : LR L S) {i tk who : Nat} {e : LY} {p : PC} (he : L[i]? = some e) (hp : T.2.2.1[e.1]? = some p) (htk : tk < 2 ^ 31) (hwho : who < 2) {K : Bool → Hp → Prop} (h : K (myE T e tk who) (mh m A S ρ)) : C_X12_mayIn l G (d + 2) m (A kb) (nI tk) (nI who) (nI i) (mh m A S ρ) K := by
  have hi := (List.getElem?_eq_some_iff.mp he).1
  have h224 := hL.1
  obtain ⟨hk, -, -, -, -, -, ho⟩ := WFP.bd hW hp
  obtain ⟨g0, -⟩ := hL.2.2 i e he
  have g4 := (hR.2.2.2.2.1 _ p hp).2.2.2.2
  have hin : vp_in (nI i) 224 := (nt_in (by omega)).mpr (by omega)
  have hin2 : vp_in (nI (33 + e.1)) 100 := (nt_in (by omega)).mpr (by omega)
  have how : ow T e = p.2.2.2.2.1 := by simp [ow, hp]
  unfold myE at h
  rw [how] at h
  refine m_X12_mayIn rv_m ?_
  simp only [F_X12_mayIn, F_X12_mayIn_44, F_X12_mayIn_48, F_X12_mayIn_49]
  refine s_X12_isFree hA hb hR hL he htk ?_
  simp only [mfI_0, mpI_0, mfN_1, mfI_2, mpI_2, mfI_3, mpI_3, mfI_4, mpI_4, mfI_5, mpI_5, mfI_6, mpI_6, mfI_7, mpI_7, mfI_8, mpI_8, mfI_9, mpI_9, mfI_10, mpI_10, mfI_11, mpI_11, mfN_12, mfZ_13, mpZ_13, mfZ_14, mpZ_14, mfN_15, mfN_16, mfN_17, mfN_18, mfN_19, mfN_20, mfI_21, mpI_21, mfI_22, mpI_22, mfN_23, mfN_24, mfN_25, mfN_26, mfN_27, mfN_28, mfN_29, mfI_30, mpI_30, mfN_31, mfN_32, mfN_33, mfN_34, mfN_35, mfN_36, mfN_37, mfI_38, mpI_38, mfN_39, mfI_40, mpI_40, mfI_41, mpI_41, mgI_1 hA, msI_1 hA, mgI_12 hA, msI_12 hA, mgI_15 hA, msI_15 hA, mgI_16 hA, msI_16 hA, mgI_17 hA, msI_17 hA, mgI_18 hA, msI_18 hA, mgI_19 hA, msI_19 hA, mgI_20 hA, msI_20 hA, mgI_23 hA, msI_23 hA, mgI_24 hA, msI_24 hA, mgI_25 hA, msI_25 hA, mgI_26 hA, msI_26 hA, mgI_27 hA, msI_27 hA, mgI_28 hA, msI_28 hA, mgI_29 hA, msI_29 hA, mgI_31 hA, msI_31 hA, mgI_32 hA, msI_32 hA, mgI_33 hA, msI_33 hA, mgI_34 hA, msI_34 hA, mgI_35 hA, msI_35 hA, mgI_36 hA, msI_36 hA, mgI_39 hA, msI_39 hA, mgJ hA, msJ hA, mgI_b hA hb, nI_clamp (show i < 2 ^ 31 by omega), g0, show (33 + nI e.1 : Int32) = nI (33 + e.1) from nt_add 33 _, nI_clamp (show 33 + e.1 < 2 ^ 31 by omega), g4, show (nI who + 1 : Int32) = nI (who + 1) from nt_add who 1, nt_0 (show p.2.2.2.2.1 < 2 ^ 31 by omega), nt_eq (show p.2.2.2.2.1 < 2 ^ 31 by omega) (show who + 1 < 2 ^ 31 by omega)]
  refine ⟨fun h1 => kif h (by simp [h1]), fun h1 => ⟨hin, hin2, fun h2 => kif h (by simp [h1, h2]), fun h2 => ⟨hin, hin2, fun h3 => kif h (by simp [h2, h3]), fun h3 => kif h (by simp [h1, h3])⟩⟩⟩
/-- a stand: what is taken, who is next -/
def sd (tk who : Nat) : Nat := tk + 16384 * who
theorem s_X12_takenOf {tk who : Nat} (htk : tk < 16384) (hwho : who < 2) {σ : Hp} {K : Int32 → Hp → Prop} (h : K (nI tk) σ) : C_X12_takenOf l G (d + 1) (nI (sd tk who)) σ K := by
  refine m_X12_takenOf ?_
  simp only [F_X12_takenOf]
  rw [show (16383 : Int32) = nI (2 ^ 14 - 1) from rfl, fa_mask, show sd tk who % 2 ^ 14 = tk by unfold sd; omega]
  exact h
theorem s_X12_whoOf {tk who : Nat} (htk : tk < 16384) (hwho : who < 2) {σ : Hp} {K : Int32 → Hp → Prop} (h : K (nI who) σ) : C_X12_whoOf l G (d + 1) (nI (sd tk who)) σ K := by
  refine m_X12_whoOf ?_
  simp only [F_X12_whoOf]
  rw [show (14 : Int32) &&& 31 = nI 14 by decide, nt_shr (by unfold sd; omega) (by decide), show sd tk who / 2 ^ 14 = who by unfold sd; omega]
  exact h
theorem s_X12_mayBe (hA : okA m A) (hR : TR T (S.2.2.1 15)) (hW : WFT T) (hL : LR L S) {i tk who : Nat} {e : LY} {p : PC} (he : L[i]? = some e) (hp : T.2.2.1[e.1]? = some p) (htk : tk < 16384) (hwho : who < 2) {K : Bool → Hp → Prop} (h : K (myE T e tk who) (mh m A S ρ)) : C_X12_mayBe l G (d + 3) m (nI (sd tk who)) (nI i) (mh m A S ρ) K := by
  refine m_X12_mayBe rv_m ?_
  simp only [F_X12_mayBe, mfI_0, mpI_0, mfN_1, mfI_2, mpI_2, mfI_3, mpI_3, mfI_4, mpI_4, mfI_5, mpI_5, mfI_6, mpI_6, mfI_7, mpI_7, mfI_8, mpI_8, mfI_9, mpI_9, mfI_10, mpI_10, mfI_11, mpI_11, mfN_12, mfZ_13, mpZ_13, mfZ_14, mpZ_14, mfN_15, mfN_16, mfN_17, mfN_18, mfN_19, mfN_20, mfI_21, mpI_21, mfI_22, mpI_22, mfN_23, mfN_24, mfN_25, mfN_26, mfN_27, mfN_28, mfN_29, mfI_30, mpI_30, mfN_31, mfN_32, mfN_33, mfN_34, mfN_35, mfN_36, mfN_37, mfI_38, mpI_38, mfN_39, mfI_40, mpI_40, mfI_41, mpI_41]
  refine s_X12_takenOf (d := d + 1) htk hwho (s_X12_whoOf (d := d + 1) htk hwho ?_)
  exact s_X12_mayIn hA (Or.inl rfl) hR hW hL he hp (by omega) hwho h
theorem within_iff {v : Int32} {n : Nat} (hn : n < 2 ^ 31) : decide (¬ v < 0 ∧ ¬ (nI n - 1) < v) = decide (¬ v < 0 ∧ v < nI n) := by
  rw [Bool.eq_iff_iff, decide_eq_true_eq, decide_eq_true_eq]
  have e : (nI n - 1 : Int32).toInt = (n : Int) - 1 := by
    rw [fb_subI] <;> rw [nI_toInt hn] <;> simp <;> omega
  rw [fa_lt, fa_lt, fa_lt, e, nI_toInt hn]
  simp
  omega
theorem s_X12_isLay_no {v : Int32} (hT : S.2.1 14 = false) {K : Bool → Hp → Prop} (h : K false (mh m A S ρ)) : C_X12_isLay l G (d + 1) m v (mh m A S ρ) K := by
  refine m_X12_isLay rv_m ?_
  simp only [F_X12_isLay, F_X12_isLay_25, F_X12_isLay_26, mfI_0, mpI_0, mfN_1, mfI_2, mpI_2, mfI_3, mpI_3, mfI_4, mpI_4, mfI_5, mpI_5, mfI_6, mpI_6, mfI_7, mpI_7, mfI_8, mpI_8, mfI_9, mpI_9, mfI_10, mpI_10, mfI_11, mpI_11, mfN_12, mfZ_13, mpZ_13, mfZ_14, mpZ_14, mfN_15, mfN_16, mfN_17, mfN_18, mfN_19, mfN_20, mfI_21, mpI_21, mfI_22, mpI_22, mfN_23, mfN_24, mfN_25, mfN_26, mfN_27, mfN_28, mfN_29, mfI_30, mpI_30, mfN_31, mfN_32, mfN_33, mfN_34, mfN_35, mfN_36, mfN_37, mfI_38, mpI_38, mfN_39, mfI_40, mpI_40, mfI_41, mpI_41, hT]
  exact ⟨fun _ => h, fun hc => absurd hc (by decide)⟩
theorem s_X12_isLay {v : Int32} (hT : S.2.1 14 = true) (hL : LR L S) {K : Bool → Hp → Prop} (h : K (decide (¬ v < 0 ∧ v < nI L.length)) (mh m A S ρ)) : C_X12_isLay l G (d + 2) m v (mh m A S ρ) K := by
  have h224 := hL.1
  refine m_X12_isLay rv_m ?_
  simp only [F_X12_isLay, F_X12_isLay_25, F_X12_isLay_26, mfI_0, mpI_0, mfN_1, mfI_2, mpI_2, mfI_3, mpI_3, mfI_4, mpI_4, mfI_5, mpI_5, mfI_6, mpI_6, mfI_7, mpI_7, mfI_8, mpI_8, mfI_9, mpI_9, mfI_10, mpI_10, mfI_11, mpI_11, mfN_12, mfZ_13, mpZ_13, mfZ_14, mpZ_14, mfN_15, mfN_16, mfN_17, mfN_18, mfN_19, mfN_20, mfI_21, mpI_21, mfI_22, mpI_22, mfN_23, mfN_24, mfN_25, mfN_26, mfN_27, mfN_28, mfN_29, mfI_30, mpI_30, mfN_31, mfN_32, mfN_33, mfN_34, mfN_35, mfN_36, mfN_37, mfI_38, mpI_38, mfN_39, mfI_40, mpI_40, mfI_41, mpI_41, hT, hL.2.1]
  refine ⟨fun hc => absurd hc (by decide), fun _ => s_X12_within ?_⟩
  rw [within_iff (by omega)]
  exact ⟨fun h1 => kif h h1, fun h1 => kif h h1⟩
theorem s_X12_isBoard_no {v : Int32} (hT : S.2.1 14 = false) {K : Bool → Hp → Prop} (h : K false (mh m A S ρ)) : C_X12_isBoard l G (d + 1) m v (mh m A S ρ) K := by
  refine m_X12_isBoard rv_m ?_
  simp only [F_X12_isBoard, F_X12_isBoard_27, F_X12_isBoard_28, mfI_0, mpI_0, mfN_1, mfI_2, mpI_2, mfI_3, mpI_3, mfI_4, mpI_4, mfI_5, mpI_5, mfI_6, mpI_6, mfI_7, mpI_7, mfI_8, mpI_8, mfI_9, mpI_9, mfI_10, mpI_10, mfI_11, mpI_11, mfN_12, mfZ_13, mpZ_13, mfZ_14, mpZ_14, mfN_15, mfN_16, mfN_17, mfN_18, mfN_19, mfN_20, mfI_21, mpI_21, mfI_22, mpI_22, mfN_23, mfN_24, mfN_25, mfN_26, mfN_27, mfN_28, mfN_29, mfI_30, mpI_30, mfN_31, mfN_32, mfN_33, mfN_34, mfN_35, mfN_36, mfN_37, mfI_38, mpI_38, mfN_39, mfI_40, mpI_40, mfI_41, mpI_41, hT]
  exact ⟨fun _ => h, fun hc => absurd hc (by decide)⟩
theorem s_X12_isBoard (hA : okA m A) {v : Int32} (hT : S.2.1 14 = true) (hR : TR T (S.2.2.1 15)) (hW : WFT T) {K : Bool → Hp → Prop} (h : K (decide (¬ v < 0 ∧ v < nI T.2.1.length)) (mh m A S ρ)) : C_X12_isBoard l G (d + 2) m v (mh m A S ρ) K := by
  have h3 := hW.1.1
  refine m_X12_isBoard rv_m ?_
  simp only [F_X12_isBoard, F_X12_isBoard_27, F_X12_isBoard_28, mfI_0, mpI_0, mfN_1, mfI_2, mpI_2, mfI_3, mpI_3, mfI_4, mpI_4, mfI_5, mpI_5, mfI_6, mpI_6, mfI_7, mpI_7, mfI_8, mpI_8, mfI_9, mpI_9, mfI_10, mpI_10, mfI_11, mpI_11, mfN_12, mfZ_13, mpZ_13, mfZ_14, mpZ_14, mfN_15, mfN_16, mfN_17, mfN_18, mfN_19, mfN_20, mfI_21, mpI_21, mfI_22, mpI_22, mfN_23, mfN_24, mfN_25, mfN_26, mfN_27, mfN_28, mfN_29, mfI_30, mpI_30, mfN_31, mfN_32, mfN_33, mfN_34, mfN_35, mfN_36, mfN_37, mfI_38, mpI_38, mfN_39, mfI_40, mpI_40, mfI_41, mpI_41, mgI_1 hA, msI_1 hA, mgI_12 hA, msI_12 hA, mgI_15 hA, msI_15 hA, mgI_16 hA, msI_16 hA, mgI_17 hA, msI_17 hA, mgI_18 hA, msI_18 hA, mgI_19 hA, msI_19 hA, mgI_20 hA, msI_20 hA, mgI_23 hA, msI_23 hA, mgI_24 hA, msI_24 hA, mgI_25 hA, msI_25 hA, mgI_26 hA, msI_26 hA, mgI_27 hA, msI_27 hA, mgI_28 hA, msI_28 hA, mgI_29 hA, msI_29 hA, mgI_31 hA, msI_31 hA, mgI_32 hA, msI_32 hA, mgI_33 hA, msI_33 hA, mgI_34 hA, msI_34 hA, mgI_35 hA, msI_35 hA, mgI_36 hA, msI_36 hA, mgI_39 hA, msI_39 hA, mgJ hA, msJ hA, hT, show (3 : Int32).toNatClampNeg = 3 from rfl, hR.2.1.1]
  refine ⟨fun hc => absurd hc (by decide), fun _ => ⟨(nt_in (a := 3) (by decide)).mpr (by decide), s_X12_within ?_⟩⟩
  rw [within_iff (by omega)]
  exact ⟨fun h1 => kif h h1, fun h1 => kif h h1⟩
end MAY
