/-! the model's public readings -/
theorem tb_j {T : TB} (hW : WFT T) : T.2.2.2 < 2 ^ 14 := Nat.lt_of_lt_of_le hW.2.2 (Nat.pow_le_pow_right (by decide) hW.1.2.1)
def MI (Z : ST) (S : MS) : Prop :=
  (S.1 2 = nI (zN Z) ∧ ∀ j, j < zN Z → S.2.2.1 1 j = nI (zB Z j)) ∧ (S.1 9 = nI (zF Z) ∧ (zR Z = 4 → S.1 10 = nI (zP Z)) ∧ S.1 11 = nI (zR Z)) ∧ (S.1 21 = nI (zU Z).length ∧ S.1 22 = nI (zI Z).length) ∧
  (∀ k u, (zU Z)[k]? = some u → RW u (S.2.2.1 19) (16 * ((zU Z).length - 1 - k))) ∧ (∀ k u, (zI Z)[k]? = some u → RW u (S.2.2.1 20) (16 * k)) ∧
  (S.2.1 14 = (zT Z).isSome) ∧ ∀ T, zT Z = some T → GS T (allL T) S ∧ RW (zW Z) (S.2.2.1 17) 0
theorem MI.gm {Z : ST} {S S' : MS} (h : MI Z S) (hG : Gm [0, 38, 40, 41] S S') (hS : ∀ T, zT Z = some T → GS T (allL T) S') : MI Z S' := by
  obtain ⟨⟨a1, a2⟩, ⟨b1, b2, b3⟩, ⟨c1, c2⟩, e1, e2, f1, f2⟩ := h
  obtain ⟨g1, g2, g3⟩ := hG
  refine ⟨⟨(g1 2 (by decide)).trans a1, fun j hj => by rw [g3 1 (by decide)]; exact a2 j hj⟩, ⟨(g1 9 (by decide)).trans b1, fun h4 => (g1 10 (by decide)).trans (b2 h4), (g1 11 (by decide)).trans b3⟩, ⟨(g1 21 (by decide)).trans c1, (g1 22 (by decide)).trans c2⟩, fun k u hu => by rw [g3 19 (by decide)]; exact e1 k u hu, fun k u hu => by rw [g3 20 (by decide)]; exact e2 k u hu, by rw [g2]; exact f1, fun T hT => ⟨hS T hT, by rw [g3 17 (by decide)]; exact (f2 T hT).2⟩⟩
theorem GS.i {T : TB} {L : List LY} {S : MS} {k : Nat} {v : Int32} (h : GS T L S) (hk : k ≠ 30) : GS T L (seti S k v) := h.cg (if_neg fun e => hk e.symm) (fun _ _ _ _ _ _ _ _ => rfl) rfl
theorem MI.tr {Z : ST} {S : MS} (h : MI Z S) (w : Nat) (hw : w ≠ 4) : MI (zt Z w) (seti S 11 (nI w)) := by
  obtain ⟨⟨a1, a2⟩, ⟨b1, b2, b3⟩, ⟨c1, c2⟩, e1, e2, f1, f2⟩ := h
  exact ⟨⟨a1, a2⟩, ⟨b1, fun h4 => absurd h4 hw, rfl⟩, ⟨c1, c2⟩, e1, e2, f1, fun T hT => ⟨(f2 T hT).1.i (by decide), (f2 T hT).2⟩⟩
theorem MI.th {Z : ST} {S : MS} (h : MI Z S) (v : Int32) : MI Z (seti S 0 v) :=
  h.gm ⟨fun j hj => if_neg fun e => hj (by rw [e]; decide), rfl, fun _ _ => rfl⟩ fun T hT => (h.2.2.2.2.2.2 T hT).1.i (by decide)
theorem MI.cl {Z : ST} {S : MS} (h : MI Z S) : MI (zt Z 0) (seti (seti S 0 0) 11 0) := (h.th 0).tr 0 (by decide)
theorem MI.no {Z : ST} {S : MS} (h : MI Z S) (hT : zT Z = none) : S.2.1 14 = false := by rw [h.2.2.2.2.2.1, hT]; rfl
theorem VZ.so {Z : ST} (hZ : VZ Z) {T : TB} (hT : zT Z = some T) : WFT T ∧ VL T (allL T) ∧ GD (allL T) (zW Z).1 ∧ ztk Z T < 16384 ∧ zwh Z < 2 ∧ (zW Z).2 < 65537 := by
  have h := hZ.2.2.2.2.2.2.2
  rw [hT] at h
  exact ⟨h.1.1, allL_VL h.1.1, h.2.1.1, tkn_lt (allL_VL h.1.1) _, Nat.mod_lt _ (by decide), h.2.1.2⟩
theorem MI.so {Z : ST} {S : MS} (h : MI Z S) {T : TB} (hT : zT Z = some T) : S.2.1 14 = true ∧ GS T (allL T) S ∧ RW (zW Z) (S.2.2.1 17) 0 := ⟨by rw [h.2.2.2.2.2.1, hT]; rfl, h.2.2.2.2.2.2 T hT⟩
theorem allL_len {T : TB} {S : MS} (h : GS T (allL T) S) : (allL T).length < 2 ^ 31 := Nat.lt_of_le_of_lt h.2.1.1 (by decide)
theorem MI.g {Z : ST} {S S' : MS} {T : TB} (h : MI Z S) (hT : zT Z = some T) (hG : Gm [0, 38, 40, 41] S S') (hS : GS T (allL T) S') : MI Z S' := h.gm hG fun T' hT' => by
  rw [hT] at hT'; cases hT'; exact hS
theorem ix_dec (v : Int32) (n : Nat) : decide (¬ v < 0 ∧ v < nI n) = (ix v n).isSome := by
  unfold ix
  by_cases h : ¬ v < 0 ∧ v < nI n
  · rw [if_pos h, decide_eq_true h]; rfl
  · rw [if_neg h, decide_eq_false h]; rfl
theorem cnt_fold {f : LY → Bool} (es : List LY) (e : LY) : (e :: es).filter f = if f e then e :: es.filter f else es.filter f := List.filter_cons
section PUB
variable {l : Launch} {G : GG} {d m : Nat} {A : Nat → Nat} {S : MS} {ρ : Hp} {Z : ST}
theorem p_X12_lays (hA : okA m A) (hZ : VZ Z) (hM : MI Z S) {K : Int32 → Hp → Prop} (hK : ∀ S', MI (zt Z (q_lays Z).1) S' → K (q_lays Z).2 (mh m A S' ρ)) : C_X12_lays l G (d + 40) m (mh m A S ρ) K := by
  refine m_X12_lays rv_m ?_
  simp only [F_X12_lays_27, F_X12_lays]
  refine s_X12_clear ?_
  have h0 := hM.cl
  simp only [q_lays, onT, zvl] at hK
  cases hT : zT Z with
  | none =>
    simp only [hT] at hK
    simp only [mfZ_14, h0.no hT, reduceCtorEq, false_implies, true_implies, forall_const, true_and, and_true, eq_self]
    exact s_X12_no (hK _ (h0.tr 1 (by decide)))
  | some T =>
    simp only [hT] at hK
    obtain ⟨g14, gS, gW⟩ := h0.so hT
    obtain ⟨hW, hV, hG, htk, hwho, -⟩ := hZ.so hT
    simp only [mfZ_14, g14, reduceCtorEq, false_implies, true_implies, forall_const, true_and, and_true, eq_self]
    refine s_X12_standNow hA gS.2.1 hV gW hG ?_
    exact s_X12_manyMay hA gS.1 hW gS.2.1 hV htk hwho (hK _ h0)
theorem p_X12_taken (hA : okA m A) (hZ : VZ Z) (hM : MI Z S) {K : Int32 → Hp → Prop} (hK : ∀ S', MI (zt Z (q_taken Z).1) S' → K (q_taken Z).2 (mh m A S' ρ)) : C_X12_taken l G (d + 40) m (mh m A S ρ) K := by
  refine m_X12_taken rv_m ?_
  simp only [F_X12_taken_26, F_X12_taken]
  refine s_X12_clear ?_
  have h0 := hM.cl
  simp only [q_taken, onT, zvl] at hK
  cases hT : zT Z with
  | none =>
    simp only [hT] at hK
    simp only [mfZ_14, h0.no hT, reduceCtorEq, false_implies, true_implies, forall_const, true_and, and_true, eq_self]
    exact s_X12_no (hK _ (h0.tr 1 (by decide)))
  | some T =>
    simp only [hT] at hK
    obtain ⟨g14, gS, gW⟩ := h0.so hT
    obtain ⟨hW, hV, hG, htk, hwho, -⟩ := hZ.so hT
    simp only [mfZ_14, g14, reduceCtorEq, false_implies, true_implies, forall_const, true_and, and_true, eq_self]
    refine s_X12_standNow hA gS.2.1 hV gW hG ?_
    exact s_X12_takenOf htk hwho (hK _ h0)
theorem p_X12_over (hA : okA m A) (hZ : VZ Z) (hM : MI Z S) {K : Int32 → Hp → Prop} (hK : ∀ S', MI (zt Z (q_over Z).1) S' → K (q_over Z).2 (mh m A S' ρ)) : C_X12_over l G (d + 40) m (mh m A S ρ) K := by
  refine m_X12_over rv_m ?_
  simp only [F_X12_over_35, F_X12_over]
  refine s_X12_clear ?_
  have h0 := hM.cl
  simp only [q_over, onT, zvl] at hK
  cases hT : zT Z with
  | none =>
    simp only [hT] at hK
    simp only [mfZ_14, h0.no hT, reduceCtorEq, false_implies, true_implies, forall_const, true_and, and_true, eq_self]
    exact s_X12_no (hK _ (h0.tr 1 (by decide)))
  | some T =>
    simp only [hT] at hK
    obtain ⟨g14, gS, gW⟩ := h0.so hT
    obtain ⟨hW, hV, hG, htk, hwho, -⟩ := hZ.so hT
    simp only [mfZ_14, g14, reduceCtorEq, false_implies, true_implies, forall_const, true_and, and_true, eq_self]
    refine s_X12_standNow hA gS.2.1 hV gW hG ?_
    refine s_X12_isOver hA gS.1 hW gS.2.1 hV htk hwho ?_
    cases hb : (mvs T (allL T) (ztk Z T) (zwh Z)).isEmpty with
    | false =>
      have hb' := hb
      simp only [ztk, zwh] at hb'
      simp only [hb] at hK
      simp only [hb', reduceCtorEq, false_implies, true_implies, forall_const, true_and, and_true, eq_self]
      exact hK _ h0
    | true =>
      have hb' := hb
      simp only [ztk, zwh] at hb'
      simp only [hb] at hK
      simp only [hb', reduceCtorEq, false_implies, true_implies, forall_const, true_and, and_true, eq_self]
      exact hK _ h0
theorem p_X12_has (hA : okA m A) (hZ : VZ Z) (hM : MI Z S) {K : Int32 → Hp → Prop} (hK : ∀ S', MI (zt Z (q_has Z).1) S' → K (q_has Z).2 (mh m A S' ρ)) : C_X12_has l G (d + 40) m (mh m A S ρ) K := by
  refine m_X12_has rv_m ?_
  simp only [F_X12_has_35, F_X12_has]
  refine s_X12_clear ?_
  have h0 := hM.cl
  simp only [q_has, onT, zvl] at hK
  cases hT : zT Z with
  | none =>
    simp only [hT] at hK
    simp only [mfZ_14, h0.no hT, reduceCtorEq, false_implies, true_implies, forall_const, true_and, and_true, eq_self]
    exact s_X12_no (hK _ (h0.tr 1 (by decide)))
  | some T =>
    simp only [hT] at hK
    obtain ⟨g14, gS, gW⟩ := h0.so hT
    obtain ⟨hW, hV, hG, htk, hwho, -⟩ := hZ.so hT
    simp only [mfZ_14, g14, reduceCtorEq, false_implies, true_implies, forall_const, true_and, and_true, eq_self]
    refine s_X12_standNow hA gS.2.1 hV gW hG ?_
    refine s_X12_hasIt hA hW hV 14 (fr_le _) htk hwho gS fun S' g1 g2 => ?_
    cases hb : wH (vl T (allL T) (ztk Z T) (zwh Z)) with
    | false =>
      have hb' := hb
      simp only [ztk, zwh] at hb'
      simp only [hb] at hK
      simp only [hb', reduceCtorEq, false_implies, true_implies, forall_const, true_and, and_true, eq_self]
      exact hK _ (h0.g hT g1.m0 g2)
    | true =>
      have hb' := hb
      simp only [ztk, zwh] at hb'
      simp only [hb] at hK
      simp only [hb', reduceCtorEq, false_implies, true_implies, forall_const, true_and, and_true, eq_self]
      exact hK _ (h0.g hT g1.m0 g2)
theorem p_X12_soonest (hA : okA m A) (hZ : VZ Z) (hM : MI Z S) {K : Int32 → Hp → Prop} (hK : ∀ S', MI (zt Z (q_soonest Z).1) S' → K (q_soonest Z).2 (mh m A S' ρ)) : C_X12_soonest l G (d + 40) m (mh m A S ρ) K := by
  refine m_X12_soonest rv_m ?_
  simp only [F_X12_soonest_27, F_X12_soonest]
  refine s_X12_clear ?_
  have h0 := hM.cl
  simp only [q_soonest, onT, zvl] at hK
  cases hT : zT Z with
  | none =>
    simp only [hT] at hK
    simp only [mfZ_14, h0.no hT, reduceCtorEq, false_implies, true_implies, forall_const, true_and, and_true, eq_self]
    exact s_X12_no (hK _ (h0.tr 1 (by decide)))
  | some T =>
    simp only [hT] at hK
    obtain ⟨g14, gS, gW⟩ := h0.so hT
    obtain ⟨hW, hV, hG, htk, hwho, -⟩ := hZ.so hT
    simp only [mfZ_14, g14, reduceCtorEq, false_implies, true_implies, forall_const, true_and, and_true, eq_self]
    refine s_X12_standNow hA gS.2.1 hV gW hG ?_
    exact s_X12_soonestFrom hA hW hV 14 (fr_le _) htk hwho gS fun S' g1 g2 => hK _ (h0.g hT g1.m0 g2)
theorem p_X12_fewest (hA : okA m A) (hZ : VZ Z) (hM : MI Z S) {K : Int32 → Hp → Prop} (hK : ∀ S', MI (zt Z (q_fewest Z).1) S' → K (q_fewest Z).2 (mh m A S' ρ)) : C_X12_fewest l G (d + 40) m (mh m A S ρ) K := by
  refine m_X12_fewest rv_m ?_
  simp only [F_X12_fewest_27, F_X12_fewest]
  refine s_X12_clear ?_
  have h0 := hM.cl
  simp only [q_fewest, onT, zvl] at hK
  cases hT : zT Z with
  | none =>
    simp only [hT] at hK
    simp only [mfZ_14, h0.no hT, reduceCtorEq, false_implies, true_implies, forall_const, true_and, and_true, eq_self]
    exact s_X12_no (hK _ (h0.tr 1 (by decide)))
  | some T =>
    simp only [hT] at hK
    obtain ⟨g14, gS, gW⟩ := h0.so hT
    obtain ⟨hW, hV, hG, htk, hwho, -⟩ := hZ.so hT
    simp only [mfZ_14, g14, reduceCtorEq, false_implies, true_implies, forall_const, true_and, and_true, eq_self]
    refine s_X12_standNow hA gS.2.1 hV gW hG ?_
    exact s_X12_fewestFrom hA hW hV 14 (fr_le _) htk hwho gS fun S' g1 g2 => hK _ (h0.g hT g1.m0 g2)
theorem p_X12_most (hA : okA m A) (hZ : VZ Z) (hM : MI Z S) {K : Int32 → Hp → Prop} (hK : ∀ S', MI (zt Z (q_most Z).1) S' → K (q_most Z).2 (mh m A S' ρ)) : C_X12_most l G (d + 40) m (mh m A S ρ) K := by
  refine m_X12_most rv_m ?_
  simp only [F_X12_most_27, F_X12_most]
  refine s_X12_clear ?_
  have h0 := hM.cl
  simp only [q_most, onT, zvl] at hK
  cases hT : zT Z with
  | none =>
    simp only [hT] at hK
    simp only [mfZ_14, h0.no hT, reduceCtorEq, false_implies, true_implies, forall_const, true_and, and_true, eq_self]
    exact s_X12_no (hK _ (h0.tr 1 (by decide)))
  | some T =>
    simp only [hT] at hK
    obtain ⟨g14, gS, gW⟩ := h0.so hT
    obtain ⟨hW, hV, hG, htk, hwho, -⟩ := hZ.so hT
    simp only [mfZ_14, g14, reduceCtorEq, false_implies, true_implies, forall_const, true_and, and_true, eq_self]
    refine s_X12_standNow hA gS.2.1 hV gW hG ?_
    exact s_X12_mostFrom hA hW hV 14 (fr_le _) htk hwho gS fun S' g1 g2 => hK _ (h0.g hT g1.m0 g2)
theorem p_X12_lot (hA : okA m A) (hZ : VZ Z) (hM : MI Z S) {K : Int32 → Hp → Prop} (hK : ∀ S', MI (zt Z (q_lot Z).1) S' → K (q_lot Z).2 (mh m A S' ρ)) : C_X12_lot l G (d + 40) m (mh m A S ρ) K := by
  refine m_X12_lot rv_m ?_
  simp only [F_X12_lot_27, F_X12_lot]
  refine s_X12_clear ?_
  have h0 := hM.cl
  simp only [q_lot, onT, zvl] at hK
  cases hT : zT Z with
  | none =>
    simp only [hT] at hK
    simp only [mfZ_14, h0.no hT, reduceCtorEq, false_implies, true_implies, forall_const, true_and, and_true, eq_self]
    exact s_X12_no (hK _ (h0.tr 1 (by decide)))
  | some T =>
    simp only [hT] at hK
    obtain ⟨g14, gS, gW⟩ := h0.so hT
    obtain ⟨hW, hV, hG, htk, hwho, -⟩ := hZ.so hT
    simp only [mfZ_14, g14, reduceCtorEq, false_implies, true_implies, forall_const, true_and, and_true, eq_self]
    refine s_X12_standNow hA gS.2.1 hV gW hG ?_
    exact s_X12_lotFrom hA hW hV 14 (fr_le _) htk hwho gS fun S' g1 g2 => hK _ (h0.g hT g1.m0 g2)
theorem p_X12_good (hA : okA m A) (hZ : VZ Z) (hM : MI Z S) {K : Int32 → Hp → Prop} (hK : ∀ S', MI (zt Z (q_good Z).1) S' → K (q_good Z).2 (mh m A S' ρ)) : C_X12_good l G (d + 40) m (mh m A S ρ) K := by
  refine m_X12_good rv_m ?_
  simp only [F_X12_good_27, F_X12_good]
  refine s_X12_clear ?_
  have h0 := hM.cl
  simp only [q_good, onT, zvl] at hK
  cases hT : zT Z with
  | none =>
    simp only [hT] at hK
    simp only [mfZ_14, h0.no hT, reduceCtorEq, false_implies, true_implies, forall_const, true_and, and_true, eq_self]
    exact s_X12_no (hK _ (h0.tr 1 (by decide)))
  | some T =>
    simp only [hT] at hK
    obtain ⟨g14, gS, gW⟩ := h0.so hT
    obtain ⟨hW, hV, hG, htk, hwho, -⟩ := hZ.so hT
    simp only [mfZ_14, g14, reduceCtorEq, false_implies, true_implies, forall_const, true_and, and_true, eq_self]
    refine s_X12_standNow hA gS.2.1 hV gW hG ?_
    exact s_X12_goodOnes hA hW hV htk hwho gS fun S' g1 g2 _ => hK _ (h0.g hT (g1.mo (by decide)) g2)
theorem p_X12_best (hA : okA m A) (hZ : VZ Z) (hM : MI Z S) {K : Int32 → Hp → Prop} (hK : ∀ S', MI (zt Z (q_best Z).1) S' → K (q_best Z).2 (mh m A S' ρ)) : C_X12_best l G (d + 40) m (mh m A S ρ) K := by
  refine m_X12_best rv_m ?_
  simp only [F_X12_best]
  refine s_X12_clear ?_
  have h0 := hM.cl
  simp only [q_best, onT, zvl] at hK
  cases hT : zT Z with
  | none =>
    simp only [hT] at hK
    simp only [mfZ_14, h0.no hT, reduceCtorEq, false_implies, true_implies, forall_const, true_and, and_true, eq_self]
    exact s_X12_no (hK _ (h0.tr 1 (by decide)))
  | some T =>
    simp only [hT] at hK
    obtain ⟨g14, gS, gW⟩ := h0.so hT
    obtain ⟨hW, hV, hG, htk, hwho, -⟩ := hZ.so hT
    simp only [mfZ_14, g14, reduceCtorEq, false_implies, true_implies, forall_const, true_and, and_true, eq_self]
    refine s_X12_standNow hA gS.2.1 hV gW hG ?_
    refine s_X12_goodOnes hA hW hV htk hwho gS fun S' g1 g2 g3 => ?_
    simp only [mfI_38, g3]
    exact hK _ (h0.g hT (g1.mo (by decide)) g2)
theorem p_X12_ways (hA : okA m A) (hZ : VZ Z) (hM : MI Z S) {K : Int64 → Hp → Prop} (hK : ∀ S', MI (zt Z (q_ways Z).1) S' → K (q_ways Z).2 (mh m A S' ρ)) : C_X12_ways l G (d + 40) m (mh m A S ρ) K := by
  refine m_X12_ways rv_m ?_
  simp only [F_X12_ways_28, F_X12_ways]
  refine s_X12_clear ?_
  have h0 := hM.cl
  simp only [q_ways, onT, zvl] at hK
  cases hT : zT Z with
  | none =>
    simp only [hT] at hK
    simp only [mfZ_14, h0.no hT, reduceCtorEq, false_implies, true_implies, forall_const, true_and, and_true, eq_self]
    exact s_X12_no (hK _ (h0.tr 1 (by decide)))
  | some T =>
    simp only [hT] at hK
    obtain ⟨g14, gS, gW⟩ := h0.so hT
    obtain ⟨hW, hV, hG, htk, hwho, -⟩ := hZ.so hT
    simp only [mfZ_14, g14, reduceCtorEq, false_implies, true_implies, forall_const, true_and, and_true, eq_self]
    refine s_X12_standNow hA gS.2.1 hV gW hG ?_
    exact s_X12_waysFrom hA hW hV 14 (fr_le _) htk hwho gS fun S' g1 g2 => hK _ (h0.g hT g1.m0 g2)
theorem p_X12_lay (hA : okA m A) (hZ : VZ Z) (hM : MI Z S) {v w : Int32} {K : Int32 → Hp → Prop} (hK : ∀ S', MI (zt Z (q_lay Z v w).1) S' → K (q_lay Z v w).2 (mh m A S' ρ)) : C_X12_lay l G (d + 40) m v w (mh m A S ρ) K := by
  refine m_X12_lay rv_m ?_
  simp only [F_X12_lay]
  refine s_X12_clear ?_
  have h0 := hM.cl
  simp only [q_lay, onL, onT] at hK
  cases hT : zT Z with
  | none =>
    simp only [hT] at hK
    refine s_X12_isLay_no (h0.no hT) ?_
    simp only [reduceCtorEq, false_implies, true_implies, forall_const, true_and, and_true, eq_self]
    exact s_X12_no (hK _ (h0.tr 1 (by decide)))
  | some T =>
    simp only [hT] at hK
    obtain ⟨g14, gS, gW⟩ := h0.so hT
    obtain ⟨hW, hV, hG, htk, hwho, -⟩ := hZ.so hT
    refine s_X12_isLay g14 gS.2.1 ?_
    rw [ix_dec]
    cases hi : ix v (allL T).length with
    | none =>
      simp only [hi] at hK
      simp only [Option.isSome_none, reduceCtorEq, false_implies, true_implies, forall_const, true_and, and_true, eq_self]
      exact s_X12_no (hK _ (h0.tr 1 (by decide)))
    | some i =>
      obtain ⟨rfl, hil⟩ := ix_some (allL_len gS) hi
      obtain ⟨e, he⟩ : ∃ e, (allL T)[i]? = some e := ⟨_, List.getElem?_eq_getElem hil⟩
      simp only [hi, he] at hK
      obtain ⟨e0, e1, e2, e3, e4, e5, e6⟩ := gS.2.1.2.2 i e he
      have h224 := gS.2.1.1
      have hin : vp_in (nI i) 224 := (nt_in (by omega)).mpr (by omega)
      simp only [Option.isSome_some, reduceCtorEq, false_implies, true_implies, forall_const, true_and, and_true, eq_self, mfI_0, mpI_0, mfN_1, mfI_2, mpI_2, mfI_3, mpI_3, mfI_4, mpI_4, mfI_5, mpI_5, mfI_6, mpI_6, mfI_7, mpI_7, mfI_8, mpI_8, mfI_9, mpI_9, mfI_10, mpI_10, mfI_11, mpI_11, mfN_12, mfZ_13, mpZ_13, mfZ_14, mpZ_14, mfN_15, mfN_16, mfN_17, mfN_18, mfN_19, mfN_20, mfI_21, mpI_21, mfI_22, mpI_22, mfN_23, mfN_24, mfN_25, mfN_26, mfN_27, mfN_28, mfN_29, mfI_30, mpI_30, mfN_31, mfN_32, mfN_33, mfN_34, mfN_35, mfN_36, mfN_37, mfI_38, mpI_38, mfN_39, mfI_40, mpI_40, mfI_41, mpI_41, mgI_1 hA, msI_1 hA, mgI_12 hA, msI_12 hA, mgI_15 hA, msI_15 hA, mgI_16 hA, msI_16 hA, mgI_17 hA, msI_17 hA, mgI_18 hA, msI_18 hA, mgI_19 hA, msI_19 hA, mgI_20 hA, msI_20 hA, mgI_23 hA, msI_23 hA, mgI_24 hA, msI_24 hA, mgI_25 hA, msI_25 hA, mgI_26 hA, msI_26 hA, mgI_27 hA, msI_27 hA, mgI_28 hA, msI_28 hA, mgI_29 hA, msI_29 hA, mgI_31 hA, msI_31 hA, mgI_32 hA, msI_32 hA, mgI_33 hA, msI_33 hA, mgI_34 hA, msI_34 hA, mgI_35 hA, msI_35 hA, mgI_36 hA, msI_36 hA, mgI_39 hA, msI_39 hA, mgJ hA, msJ hA, nI_clamp (show i < 2 ^ 31 by omega)]
      refine ⟨fun h => ⟨hin, ?_⟩, fun h => ⟨hin, ?_⟩, fun h => ⟨hin, ?_⟩, fun h => ⟨hin, ?_⟩, fun h => ⟨hin, ?_⟩, fun h => ⟨hin, ?_⟩, fun n0 n1 n2 n3 n4 n5 => ?_⟩
      · subst h; rw [e0]; exact hK _ h0
      · subst h; rw [e1]; exact hK _ h0
      · subst h; rw [e2]; exact hK _ h0
      · subst h; rw [e3]; exact hK _ h0
      · subst h; rw [e4]; exact hK _ h0
      · subst h; rw [e5]; exact hK _ h0
      · simp only [n0, n1, n2, n3, n4, n5, if_false] at hK
        exact s_X12_no (hK _ (h0.tr 1 (by decide)))
theorem p_X12_may (hA : okA m A) (hZ : VZ Z) (hM : MI Z S) {v : Int32} {K : Int32 → Hp → Prop} (hK : ∀ S', MI (zt Z (q_may Z v).1) S' → K (q_may Z v).2 (mh m A S' ρ)) : C_X12_may l G (d + 40) m v (mh m A S ρ) K := by
  refine m_X12_may rv_m ?_
  simp only [F_X12_may_37, F_X12_may]
  refine s_X12_clear ?_
  have h0 := hM.cl
  simp only [q_may, onL, onT] at hK
  cases hT : zT Z with
  | none =>
    simp only [hT] at hK
    refine s_X12_isLay_no (h0.no hT) ?_
    simp only [reduceCtorEq, false_implies, true_implies, forall_const, true_and, and_true, eq_self]
    exact s_X12_no (hK _ (h0.tr 1 (by decide)))
  | some T =>
    simp only [hT] at hK
    obtain ⟨g14, gS, gW⟩ := h0.so hT
    obtain ⟨hW, hV, hG, htk, hwho, -⟩ := hZ.so hT
    refine s_X12_isLay g14 gS.2.1 ?_
    rw [ix_dec]
    cases hi : ix v (allL T).length with
    | none =>
      simp only [hi] at hK
      simp only [Option.isSome_none, reduceCtorEq, false_implies, true_implies, forall_const, true_and, and_true, eq_self]
      exact s_X12_no (hK _ (h0.tr 1 (by decide)))
    | some i =>
      obtain ⟨rfl, hil⟩ := ix_some (allL_len gS) hi
      obtain ⟨e, he⟩ : ∃ e, (allL T)[i]? = some e := ⟨_, List.getElem?_eq_getElem hil⟩
      obtain ⟨⟨p, hp⟩, -⟩ := hV i e he
      simp only [hi, he] at hK
      simp only [Option.isSome_some, reduceCtorEq, false_implies, true_implies, forall_const, true_and, and_true, eq_self]
      refine s_X12_standNow hA gS.2.1 hV gW hG ?_
      refine s_X12_mayBe hA gS.1 hW gS.2.1 he hp htk hwho ?_
      refine ⟨fun h => ?_, fun h => ?_⟩
      · have h1 : myE T e (ztk Z T) (zwh Z) = false := h
        rw [h1] at hK; exact hK _ h0
      · have h1 : myE T e (ztk Z T) (zwh Z) = true := h
        rw [h1] at hK; exact hK _ h0
theorem p_X12_across (hA : okA m A) (hZ : VZ Z) (hM : MI Z S) {v : Int32} {K : Int32 → Hp → Prop} (hK : ∀ S', MI (zt Z (q_across Z v).1) S' → K (q_across Z v).2 (mh m A S' ρ)) : C_X12_across l G (d + 40) m v (mh m A S ρ) K := by
  refine m_X12_across rv_m ?_
  simp only [F_X12_across_25, F_X12_across]
  refine s_X12_clear ?_
  have h0 := hM.cl
  simp only [q_across, onL, onT] at hK
  cases hT : zT Z with
  | none =>
    simp only [hT] at hK
    refine s_X12_isLay_no (h0.no hT) ?_
    simp only [reduceCtorEq, false_implies, true_implies, forall_const, true_and, and_true, eq_self]
    exact s_X12_no (hK _ (h0.tr 1 (by decide)))
  | some T =>
    simp only [hT] at hK
    obtain ⟨g14, gS, gW⟩ := h0.so hT
    obtain ⟨hW, hV, hG, htk, hwho, -⟩ := hZ.so hT
    refine s_X12_isLay g14 gS.2.1 ?_
    rw [ix_dec]
    cases hi : ix v (allL T).length with
    | none =>
      simp only [hi] at hK
      simp only [Option.isSome_none, reduceCtorEq, false_implies, true_implies, forall_const, true_and, and_true, eq_self]
      exact s_X12_no (hK _ (h0.tr 1 (by decide)))
    | some i =>
      obtain ⟨rfl, hil⟩ := ix_some (allL_len gS) hi
      obtain ⟨e, he⟩ : ∃ e, (allL T)[i]? = some e := ⟨_, List.getElem?_eq_getElem hil⟩
      simp only [hi, he] at hK
      simp only [Option.isSome_some, reduceCtorEq, false_implies, true_implies, forall_const, true_and, and_true, eq_self]
      exact s_X12_acrossOf hA gS.1 hW gS.2.1 hV he (hK _ h0)
theorem p_X12_layAt (hA : okA m A) (hZ : VZ Z) (hM : MI Z S) {v : Int32} {K : Int32 → Hp → Prop} (hK : ∀ S', MI (zt Z (q_layAt Z v).1) S' → K (q_layAt Z v).2 (mh m A S' ρ)) : C_X12_layAt l G (d + 40) m v (mh m A S ρ) K := by
  refine m_X12_layAt rv_m ?_
  simp only [F_X12_layAt_45, F_X12_layAt_29, F_X12_layAt_27, F_X12_layAt]
  refine s_X12_clear ?_
  have h0 := hM.cl
  simp only [q_layAt, onT] at hK
  cases hT : zT Z with
  | none =>
    simp only [hT] at hK
    simp only [mfZ_14, h0.no hT, reduceCtorEq, false_implies, true_implies, forall_const, true_and, and_true, eq_self, not_true_eq_false]
    exact s_X12_no (hK _ (h0.tr 1 (by decide)))
  | some T =>
    simp only [hT] at hK
    obtain ⟨g14, gS, gW⟩ := h0.so hT
    obtain ⟨hW, hV, hG, htk, hwho, -⟩ := hZ.so hT
    simp only [mfZ_14, g14, reduceCtorEq, false_implies, true_implies, forall_const, true_and, and_true, eq_self, not_true_eq_false]
    refine ⟨fun h1 => ?_, fun h1 => ?_⟩
    · rw [if_pos h1] at hK
      exact s_X12_no (hK _ (h0.tr 1 (by decide)))
    · rw [if_neg h1] at hK
      obtain ⟨a, ha, rfl⟩ := nt_of h1
      refine s_X12_standNow hA gS.2.1 hV gW hG ?_
      refine s_X12_mayAt hA gS.1 hW gS.2.1 hV htk hwho ha ?_
      rw [nI_clamp ha] at hK
      cases hm : mAt (fun e => myE T e (ztk Z T) (zwh Z)) (allL T) 0 a with
      | none =>
        simp only [hm] at hK
        exact ⟨fun hc => absurd rfl hc, fun _ => s_X12_no (hK _ (h0.tr 1 (by decide)))⟩
      | some n =>
        simp only [hm] at hK
        have h1 := mAt_lt _ _ _ _ hm
        have h2 := gS.2.1.1
        exact ⟨fun _ => hK _ h0, fun hc => absurd hc (nI_nm2 (by omega))⟩
end PUB
