/-! what the model remembers of stands; hasIt, soonestFrom, waysFrom, fewestFrom, mostFrom, lotFrom -/
def mv (k : Nat) (v : VT) : Int32 := if k = 31 then bi (wH v) else if k = 32 then nI (wN v) else if k = 33 then nI (wF v) else if k = 34 then nI (wM v) else nI (wL v)
def MEM (T : TB) (L : List LY) (S : MS) : Prop := (∀ k, 31 ≤ k → k ≤ 35 → ∀ tk who, tk < 16384 → who < 2 → S.2.2.1 k (sd tk who) = -1 ∨ S.2.2.1 k (sd tk who) = mv k (vl T L tk who)) ∧ ∀ tk who, tk < 16384 → who < 2 → S.2.2.2 (sd tk who) = -1 ∨ S.2.2.2 (sd tk who) = lN (wW (vl T L tk who))
def Gm (is : List Nat) (S S' : MS) : Prop := (∀ j, j ∉ is → S'.1 j = S.1 j) ∧ S'.2.1 = S.2.1 ∧ ∀ j, (j < 31 ∨ 36 ≤ j) → S'.2.2.1 j = S.2.2.1 j
theorem Gm.rf {is : List Nat} {S : MS} : Gm is S S := ⟨fun _ _ => rfl, rfl, fun _ _ => rfl⟩
theorem Gm.tr {is : List Nat} {S S' S'' : MS} (h : Gm is S S') (h' : Gm is S' S'') : Gm is S S'' := ⟨fun j hj => (h'.1 j hj).trans (h.1 j hj), h'.2.1.trans h.2.1, fun j hj => (h'.2.2 j hj).trans (h.2.2 j hj)⟩
theorem Gm.mo {is is' : List Nat} {S S' : MS} (h : Gm is S S') (h1 : ∀ j, j ∈ is → j ∈ is') : Gm is' S S' := ⟨fun j hj => h.1 j fun e => hj (h1 j e), h.2⟩
theorem Gm.m0 {is : List Nat} {S S' : MS} (h : Gm [] S S') : Gm is S S' := h.mo fun j hj => absurd hj (by simp)
def GS (T : TB) (L : List LY) (S : MS) : Prop := TR T (S.2.2.1 15) ∧ LR L S ∧ MEM T L S
theorem LR.cg {L : List LY} {S S' : MS} (h : LR L S) (h1 : S'.1 30 = S.1 30) (h2 : ∀ j, 23 ≤ j → j ≤ 29 → S'.2.2.1 j = S.2.2.1 j) : LR L S' := by
  refine ⟨h.1, h1.trans h.2.1, fun i e he => ?_⟩
  rw [h2 23 (by decide) (by decide), h2 24 (by decide) (by decide), h2 25 (by decide) (by decide), h2 26 (by decide) (by decide), h2 27 (by decide) (by decide), h2 28 (by decide) (by decide), h2 29 (by decide) (by decide)]
  exact h.2.2 i e he
theorem GS.cg {T : TB} {L : List LY} {S S' : MS} (h : GS T L S) (h1 : S'.1 30 = S.1 30) (h2 : ∀ j, 15 ≤ j → j ≤ 35 → j ≠ 16 → j ≠ 17 → j ≠ 18 → j ≠ 19 → j ≠ 20 → S'.2.2.1 j = S.2.2.1 j) (h3 : S'.2.2.2 = S.2.2.2) : GS T L S' := by
  refine ⟨?_, h.2.1.cg h1 fun j a b => h2 j (by omega) (by omega) (by omega) (by omega) (by omega) (by omega) (by omega), fun k a b => ?_, ?_⟩
  · rw [h2 15 (by decide) (by decide) (by decide) (by decide) (by decide) (by decide) (by decide)]; exact h.1
  · rw [h2 k (by omega) (by omega) (by omega) (by omega) (by omega) (by omega) (by omega)]; exact h.2.2.1 k a b
  · rw [h3]; exact h.2.2.2
theorem sd_inj {a b c e : Nat} (ha : a < 16384) (hc : c < 16384) (h : sd a b = sd c e) : a = c ∧ b = e := by unfold sd at h; omega
theorem sd_lt {tk who : Nat} (h : tk < 16384) (h2 : who < 2) : sd tk who < 32768 := by unfold sd; omega
section MEMO
variable {l : Launch} {G : GG} {m : Nat} {A : Nat → Nat} {S : MS} {ρ : Hp} {T : TB} {L : List LY}
theorem GS.up (h : GS T L S) {k tk who : Nat} (hk : 31 ≤ k ∧ k ≤ 35) (htk : tk < 16384) {x : Int32} (hx : x = mv k (vl T L tk who)) : GS T L (seta S k (up_ (S.2.2.1 k) (sd tk who) x)) ∧ Gm [] S (seta S k (up_ (S.2.2.1 k) (sd tk who) x)) := by
  subst hx
  refine ⟨⟨?_, h.2.1.cg rfl fun j a b => if_neg (by omega), fun k' a b tk' who' h1 h2 => ?_, h.2.2.2⟩, fun _ _ => rfl, rfl, fun j hj => if_neg (by omega)⟩
  · rw [ms_a, if_neg (by omega)]; exact h.1
  · rw [ms_a]
    split
    · rename_i e
      subst e
      by_cases e2 : sd tk' who' = sd tk who
      · obtain ⟨rfl, rfl⟩ := sd_inj h1 htk e2
        right
        rw [up_eq]
      · rw [up_ne e2]
        exact h.2.2.1 k' a b tk' who' h1 h2
    · exact h.2.2.1 k' a b tk' who' h1 h2
theorem GS.upj (h : GS T L S) {tk who : Nat} (htk : tk < 16384) {x : Int64} (hx : x = lN (wW (vl T L tk who))) : GS T L (setj S (up_ S.2.2.2 (sd tk who) x)) ∧ Gm [] S (setj S (up_ S.2.2.2 (sd tk who) x)) := by
  subst hx
  refine ⟨⟨h.1, h.2.1.cg rfl fun _ _ _ => rfl, h.2.2.1, fun tk' who' h1 h2 => ?_⟩, fun _ _ => rfl, rfl, fun _ _ => rfl⟩
  rw [ms_j]
  by_cases e2 : sd tk' who' = sd tk who
  · obtain ⟨rfl, rfl⟩ := sd_inj h1 htk e2
    right
    rw [up_eq]
  · rw [up_ne e2]
    exact h.2.2.2 tk' who' h1 h2
theorem mvs_at {tk who i : Nat} {e : LY} (he : L[i]? = some e) (hm : myE T e tk who = true) : e ∈ mvs T L tk who := List.mem_filter.mpr ⟨List.mem_of_getElem? he, hm⟩
theorem kid_at (hV : VL T L) {tk who i : Nat} {e : LY} (he : L[i]? = some e) (hm : myE T e tk who = true) (htk : tk < 16384) : fr (tk ||| eS e) < fr tk ∧ tk ||| eS e < 16384 := ⟨fr_mv hV (mvs_at he hm), Nat.or_lt_two_pow (n := 14) htk (hV i e he).2.2.2.1⟩
/-- the stands behind by lays from the k-th on -/
def kds (T : TB) (L : List LY) (tk who k : Nat) : List VT := ((L.drop k).filter fun e => myE T e tk who).map fun e => vl T L (tk ||| eS e) (1 - who)
theorem kds_0 (tk who : Nat) : kds T L tk who 0 = kids T L tk who := rfl
theorem kds_end {tk who k : Nat} (h : L.length ≤ k) : kds T L tk who k = [] := by rw [kds, List.drop_eq_nil_of_le h]; rfl
theorem kds_t {tk who k : Nat} {e : LY} (he : L[k]? = some e) (hm : myE T e tk who = true) : kds T L tk who k = vl T L (tk ||| eS e) (1 - who) :: kds T L tk who (k + 1) := by
  rw [kds, drop_at he, List.filter_cons, if_pos hm]; rfl
theorem kds_f {tk who k : Nat} {e : LY} (he : L[k]? = some e) (hm : myE T e tk who = false) : kds T L tk who k = kds T L tk who (k + 1) := by
  rw [kds, drop_at he, List.filter_cons, if_neg (by rw [hm]; decide)]; rfl
theorem kids_e {tk who : Nat} : (kids T L tk who).isEmpty = (mvs T L tk who).isEmpty := by unfold kids; cases mvs T L tk who <;> rfl
theorem nI_nm1 {n : Nat} (h : n < 2 ^ 31) : ¬ nI n = -1 := by
  intro e
  have := congrArg Int32.toInt e
  rw [nI_toInt h] at this
  have h3 : (-1 : Int32).toInt = -1 := by decide
  omega
theorem hasIt_step (hA : okA m A) (hW : WFT T) (hV : VL T L) {D tk who : Nat} (htk : tk < 16384) (hwho : who < 2) (IH : ∀ (S' : MS) tk' who' (K' : Bool → Hp → Prop), fr tk' < fr tk → tk' < 16384 → who' < 2 → GS T L S' → (∀ S'', Gm [] S' S'' → GS T L S'' → K' (wH (vl T L tk' who')) (mh m A S'' ρ)) → C_X12_hasIt l G (D + 5) m (nI (sd tk' who')) (mh m A S' ρ) K') (hS : GS T L S) {K : Bool → Hp → Prop} (hK : ∀ S', Gm [] S S' → GS T L S' → K (wH (vl T L tk who)) (mh m A S' ρ)) : C_X12_hasIt l G (D + 6) m (nI (sd tk who)) (mh m A S ρ) K := by
  have hsd := sd_lt htk hwho
  have h224 := hS.2.1.1
  have hin : vp_in (nI (sd tk who)) 32768 := (nt_in (by omega)).mpr hsd
  have hcl : (nI (sd tk who)).toNatClampNeg = sd tk who := nI_clamp (by omega)
  have h96 : ∀ S', Gm [] S S' → GS T L S' → S'.2.2.1 31 (sd tk who) = bi (wH (vl T L tk who)) → F_X12_hasIt_96 l G (D + 5) m (nI (sd tk who)) (mh m A S' ρ) K := by
    intro S' h1 h2 h3
    simp only [F_X12_hasIt_96, F_X12_hasIt_111, mfI_0, mpI_0, mfN_1, mfI_2, mpI_2, mfI_3, mpI_3, mfI_4, mpI_4, mfI_5, mpI_5, mfI_6, mpI_6, mfI_7, mpI_7, mfI_8, mpI_8, mfI_9, mpI_9, mfI_10, mpI_10, mfI_11, mpI_11, mfN_12, mfZ_13, mpZ_13, mfZ_14, mpZ_14, mfN_15, mfN_16, mfN_17, mfN_18, mfN_19, mfN_20, mfI_21, mpI_21, mfI_22, mpI_22, mfN_23, mfN_24, mfN_25, mfN_26, mfN_27, mfN_28, mfN_29, mfI_30, mpI_30, mfN_31, mfN_32, mfN_33, mfN_34, mfN_35, mfN_36, mfN_37, mfI_38, mpI_38, mfN_39, mfI_40, mpI_40, mfI_41, mpI_41, mgI_1 hA, msI_1 hA, mgI_12 hA, msI_12 hA, mgI_15 hA, msI_15 hA, mgI_16 hA, msI_16 hA, mgI_17 hA, msI_17 hA, mgI_18 hA, msI_18 hA, mgI_19 hA, msI_19 hA, mgI_20 hA, msI_20 hA, mgI_23 hA, msI_23 hA, mgI_24 hA, msI_24 hA, mgI_25 hA, msI_25 hA, mgI_26 hA, msI_26 hA, mgI_27 hA, msI_27 hA, mgI_28 hA, msI_28 hA, mgI_29 hA, msI_29 hA, mgI_31 hA, msI_31 hA, mgI_32 hA, msI_32 hA, mgI_33 hA, msI_33 hA, mgI_34 hA, msI_34 hA, mgI_35 hA, msI_35 hA, mgI_36 hA, msI_36 hA, mgI_39 hA, msI_39 hA, mgJ hA, msJ hA, hcl, h3]
    have hk := hK S' h1 h2
    refine ⟨hin, fun h4 => ?_, fun h4 => ?_⟩
    · cases e : wH (vl T L tk who) with
      | true => rw [e] at h4; exact absurd rfl h4
      | false => rwa [e] at hk
    · cases e : wH (vl T L tk who) with
      | true => rwa [e] at hk
      | false => rw [e] at h4; exact absurd h4 (by decide)
  have h81 : ∀ S', Gm [] S S' → GS T L S' → F_X12_hasIt_81 l G (D + 5) m (nI (sd tk who)) (wH (vl T L tk who)) (mh m A S' ρ) K := by
    intro S' h1 h2
    have h5 := fun (x : Int32) => h2.up (k := 31) (by decide) htk (who := who) (x := x)
    simp only [F_X12_hasIt_81, F_X12_hasIt_95, mfI_0, mpI_0, mfN_1, mfI_2, mpI_2, mfI_3, mpI_3, mfI_4, mpI_4, mfI_5, mpI_5, mfI_6, mpI_6, mfI_7, mpI_7, mfI_8, mpI_8, mfI_9, mpI_9, mfI_10, mpI_10, mfI_11, mpI_11, mfN_12, mfZ_13, mpZ_13, mfZ_14, mpZ_14, mfN_15, mfN_16, mfN_17, mfN_18, mfN_19, mfN_20, mfI_21, mpI_21, mfI_22, mpI_22, mfN_23, mfN_24, mfN_25, mfN_26, mfN_27, mfN_28, mfN_29, mfI_30, mpI_30, mfN_31, mfN_32, mfN_33, mfN_34, mfN_35, mfN_36, mfN_37, mfI_38, mpI_38, mfN_39, mfI_40, mpI_40, mfI_41, mpI_41, mgI_1 hA, msI_1 hA, mgI_12 hA, msI_12 hA, mgI_15 hA, msI_15 hA, mgI_16 hA, msI_16 hA, mgI_17 hA, msI_17 hA, mgI_18 hA, msI_18 hA, mgI_19 hA, msI_19 hA, mgI_20 hA, msI_20 hA, mgI_23 hA, msI_23 hA, mgI_24 hA, msI_24 hA, mgI_25 hA, msI_25 hA, mgI_26 hA, msI_26 hA, mgI_27 hA, msI_27 hA, mgI_28 hA, msI_28 hA, mgI_29 hA, msI_29 hA, mgI_31 hA, msI_31 hA, mgI_32 hA, msI_32 hA, mgI_33 hA, msI_33 hA, mgI_34 hA, msI_34 hA, mgI_35 hA, msI_35 hA, mgI_36 hA, msI_36 hA, mgI_39 hA, msI_39 hA, mgJ hA, msJ hA, hcl]
    refine ⟨fun h4 => ⟨hin, ?_⟩, fun h4 => ⟨hin, ?_⟩⟩
    · obtain ⟨a, b⟩ := h5 (bi false) (by rw [mv, if_pos rfl, h4])
      exact h96 _ (h1.tr b) a (by simp only [ms_i, ms_i2, ms_b1, ms_b, ms_b2, ms_a1, ms_a2, ms_a, ms_a3, ms_j1, ms_j2, ms_j3, ms_j, ↓reduceIte, Nat.reduceEqDiff, up_eq, h4])
    · obtain ⟨a, b⟩ := h5 (bi true) (by rw [mv, if_pos rfl, h4])
      exact h96 _ (h1.tr b) a (by simp only [ms_i, ms_i2, ms_b1, ms_b, ms_b2, ms_a1, ms_a2, ms_a, ms_a3, ms_j1, ms_j2, ms_j3, ms_j, ↓reduceIte, Nat.reduceEqDiff, up_eq, h4])
  have hz : ∀ r k S' (acc : Bool), k + r = L.length → Gm [] S S' → GS T L S' → (acc || (kds T L tk who k).any fun c => !wH c) = wH (vl T L tk who) → Z_X12_hasIt_35 l G (D + 5) K (r + 1) m (nI (sd tk who)) acc (nI k) (mh m A S' ρ) := by
    intro r
    induction r with
    | zero =>
      intro k S' acc hk h1 h2 h3
      simp only [Z_X12_hasIt_35, F_X12_hasIt_35, mfI_0, mpI_0, mfN_1, mfI_2, mpI_2, mfI_3, mpI_3, mfI_4, mpI_4, mfI_5, mpI_5, mfI_6, mpI_6, mfI_7, mpI_7, mfI_8, mpI_8, mfI_9, mpI_9, mfI_10, mpI_10, mfI_11, mpI_11, mfN_12, mfZ_13, mpZ_13, mfZ_14, mpZ_14, mfN_15, mfN_16, mfN_17, mfN_18, mfN_19, mfN_20, mfI_21, mpI_21, mfI_22, mpI_22, mfN_23, mfN_24, mfN_25, mfN_26, mfN_27, mfN_28, mfN_29, mfI_30, mpI_30, mfN_31, mfN_32, mfN_33, mfN_34, mfN_35, mfN_36, mfN_37, mfI_38, mpI_38, mfN_39, mfI_40, mpI_40, mfI_41, mpI_41, h2.2.1.2.1]
      rw [nt_le (by omega) (by omega)]
      rw [kds_end (by omega), List.any_nil, Bool.or_false] at h3
      subst h3
      exact ⟨fun _ => h81 S' h1 h2, fun hc => absurd (by omega) hc⟩
    | succ r ih =>
      intro k S' acc hk h1 h2 h3
      obtain ⟨e, he⟩ : ∃ e, L[k]? = some e := ⟨_, List.getElem?_eq_getElem (by omega)⟩
      obtain ⟨p, hp⟩ := (hV k e he).1
      have e1 : nI k + 1 = nI (k + 1) := nt_add k 1
      rw [show r + 1 + 1 = (r + 1) + 1 from rfl, Z_X12_hasIt_35]
      simp only [F_X12_hasIt_35, F_X12_hasIt_73, F_X12_hasIt_74, mfI_0, mpI_0, mfN_1, mfI_2, mpI_2, mfI_3, mpI_3, mfI_4, mpI_4, mfI_5, mpI_5, mfI_6, mpI_6, mfI_7, mpI_7, mfI_8, mpI_8, mfI_9, mpI_9, mfI_10, mpI_10, mfI_11, mpI_11, mfN_12, mfZ_13, mpZ_13, mfZ_14, mpZ_14, mfN_15, mfN_16, mfN_17, mfN_18, mfN_19, mfN_20, mfI_21, mpI_21, mfI_22, mpI_22, mfN_23, mfN_24, mfN_25, mfN_26, mfN_27, mfN_28, mfN_29, mfI_30, mpI_30, mfN_31, mfN_32, mfN_33, mfN_34, mfN_35, mfN_36, mfN_37, mfI_38, mpI_38, mfN_39, mfI_40, mpI_40, mfI_41, mpI_41, h2.2.1.2.1, e1]
      rw [nt_le (by omega) (by omega)]
      refine ⟨fun hc => by omega, fun _ => ⟨fun h4 => ?_, fun h4 => ?_⟩⟩
      · rw [h4, Bool.true_or] at h3
        rw [h4, h3]
        exact h81 S' h1 h2
      · subst h4
        refine s_X12_mayBe (d := D + 2) hA h2.1 hW h2.2.1 he hp htk hwho ?_
        rw [Bool.false_or] at h3
        refine ⟨fun hm => ?_, fun hm => ?_⟩
        · rw [kds_f he hm] at h3
          exact ih (k + 1) S' false (by omega) h1 h2 (by rwa [Bool.false_or])
        · rw [kds_t he hm, List.any_cons] at h3
          obtain ⟨q1, q2⟩ := kid_at hV he hm htk
          refine s_X12_behind (d := D + 4) hA h2.2.1 hV he htk hwho ?_
          refine IH S' _ _ _ q1 q2 (by omega) h2 fun S'' h5 h6 => ?_
          refine ⟨fun h7 => ?_, fun h7 => ?_⟩
          · rw [h7] at h3
            exact ih (k + 1) S'' false (by omega) (h1.tr h5) h6 h3
          · rw [h7] at h3
            exact ih (k + 1) S'' true (by omega) (h1.tr h5) h6 h3
  refine m_X12_hasIt rv_m ?_
  have hmem := hS.2.2.1 31 (by decide) (by decide) tk who htk hwho
  have h15 := hS.1.1.2.1
  simp only [F_X12_hasIt, F_X12_hasIt_31, F_X12_hasIt_32, mfI_0, mpI_0, mfN_1, mfI_2, mpI_2, mfI_3, mpI_3, mfI_4, mpI_4, mfI_5, mpI_5, mfI_6, mpI_6, mfI_7, mpI_7, mfI_8, mpI_8, mfI_9, mpI_9, mfI_10, mpI_10, mfI_11, mpI_11, mfN_12, mfZ_13, mpZ_13, mfZ_14, mpZ_14, mfN_15, mfN_16, mfN_17, mfN_18, mfN_19, mfN_20, mfI_21, mpI_21, mfI_22, mpI_22, mfN_23, mfN_24, mfN_25, mfN_26, mfN_27, mfN_28, mfN_29, mfI_30, mpI_30, mfN_31, mfN_32, mfN_33, mfN_34, mfN_35, mfN_36, mfN_37, mfI_38, mpI_38, mfN_39, mfI_40, mpI_40, mfI_41, mpI_41, mgI_1 hA, msI_1 hA, mgI_12 hA, msI_12 hA, mgI_15 hA, msI_15 hA, mgI_16 hA, msI_16 hA, mgI_17 hA, msI_17 hA, mgI_18 hA, msI_18 hA, mgI_19 hA, msI_19 hA, mgI_20 hA, msI_20 hA, mgI_23 hA, msI_23 hA, mgI_24 hA, msI_24 hA, mgI_25 hA, msI_25 hA, mgI_26 hA, msI_26 hA, mgI_27 hA, msI_27 hA, mgI_28 hA, msI_28 hA, mgI_29 hA, msI_29 hA, mgI_31 hA, msI_31 hA, mgI_32 hA, msI_32 hA, mgI_33 hA, msI_33 hA, mgI_34 hA, msI_34 hA, mgI_35 hA, msI_35 hA, mgI_36 hA, msI_36 hA, mgI_39 hA, msI_39 hA, mgJ hA, msJ hA, hcl]
  refine ⟨hin, fun h1 => ?_, fun _ => ?_⟩
  · rcases hmem with h2 | h2
    · rw [h2] at h1; exact absurd h1 (by decide)
    · exact h96 S Gm.rf hS h2
  · refine s_X12_isOver (d := D) hA hS.1 hW hS.2.1 hV htk hwho ?_
    have hv : wH (vl T L tk who) = hasS T.1.2.1 (kids T L tk who) := by rw [vl_eq hV]; rfl
    refine ⟨fun h2 => ?_, fun h2 => ?_⟩
    · refine ⟨L.length + 1, hz L.length 0 S false (by omega) Gm.rf hS ?_⟩
      rw [hv, hasS, kids_e, h2, if_neg (by decide), kds_0, Bool.false_or]
    · rw [hasS, kids_e, h2, if_pos rfl] at hv
      simp only [mfI_0, mpI_0, mfN_1, mfI_2, mpI_2, mfI_3, mpI_3, mfI_4, mpI_4, mfI_5, mpI_5, mfI_6, mpI_6, mfI_7, mpI_7, mfI_8, mpI_8, mfI_9, mpI_9, mfI_10, mpI_10, mfI_11, mpI_11, mfN_12, mfZ_13, mpZ_13, mfZ_14, mpZ_14, mfN_15, mfN_16, mfN_17, mfN_18, mfN_19, mfN_20, mfI_21, mpI_21, mfI_22, mpI_22, mfN_23, mfN_24, mfN_25, mfN_26, mfN_27, mfN_28, mfN_29, mfI_30, mpI_30, mfN_31, mfN_32, mfN_33, mfN_34, mfN_35, mfN_36, mfN_37, mfI_38, mpI_38, mfN_39, mfI_40, mpI_40, mfI_41, mpI_41, mgI_1 hA, msI_1 hA, mgI_12 hA, msI_12 hA, mgI_15 hA, msI_15 hA, mgI_16 hA, msI_16 hA, mgI_17 hA, msI_17 hA, mgI_18 hA, msI_18 hA, mgI_19 hA, msI_19 hA, mgI_20 hA, msI_20 hA, mgI_23 hA, msI_23 hA, mgI_24 hA, msI_24 hA, mgI_25 hA, msI_25 hA, mgI_26 hA, msI_26 hA, mgI_27 hA, msI_27 hA, mgI_28 hA, msI_28 hA, mgI_29 hA, msI_29 hA, mgI_31 hA, msI_31 hA, mgI_32 hA, msI_32 hA, mgI_33 hA, msI_33 hA, mgI_34 hA, msI_34 hA, mgI_35 hA, msI_35 hA, mgI_36 hA, msI_36 hA, mgI_39 hA, msI_39 hA, mgJ hA, msJ hA, show (1 : Int32).toNatClampNeg = 1 from rfl, h15]
      have h3 : (kids T L tk who) = [] := by
        have := kids_e (T := T) (L := L) (tk := tk) (who := who)
        rw [h2] at this
        simpa using this
      refine ⟨(vin 1 (by decide) (by decide)), fun h4 => ⟨L.length + 1, hz L.length 0 S false (by omega) Gm.rf hS ?_⟩, fun h4 => ⟨L.length + 1, hz L.length 0 S true (by omega) Gm.rf hS ?_⟩⟩
      · rw [hv, kds_0, h3]
        cases e : T.1.2.1 with
        | true => rw [e] at h4; exact absurd rfl h4
        | false => rfl
      · rw [hv, Bool.true_or]
        cases e : T.1.2.1 with
        | true => rfl
        | false => rw [e] at h4; exact absurd h4 (by decide)
theorem s_X12_hasIt (hA : okA m A) (hW : WFT T) (hV : VL T L) : ∀ n {d : Nat} {S : MS} {tk who : Nat}, fr tk ≤ n → tk < 16384 → who < 2 → GS T L S → ∀ {K : Bool → Hp → Prop}, (∀ S', Gm [] S S' → GS T L S' → K (wH (vl T L tk who)) (mh m A S' ρ)) → C_X12_hasIt l G (d + n + 6) m (nI (sd tk who)) (mh m A S ρ) K := by
  intro n
  induction n with
  | zero =>
    intro d S tk who hn htk hwho hS K hK
    exact hasIt_step (D := d) hA hW hV htk hwho (fun S' tk' who' K' h1 => absurd h1 (by omega)) hS hK
  | succ n ih =>
    intro d S tk who hn htk hwho hS K hK
    exact hasIt_step (D := d + (n + 1)) hA hW hV htk hwho (fun S' tk' who' K' h1 h2 h3 h4 h5 => by
      have := ih (d := d) (S := S') (tk := tk') (who := who') (by omega) h2 h3 h4 h5
      exact this) hS hK
end MEMO
