/-! waysFrom, lotFrom, goodOnes -/
section WAYS
variable {l : Launch} {G : GG} {m : Nat} {A : Nat → Nat} {S : MS} {ρ : Hp} {T : TB} {L : List LY}
theorem waysFrom_step (hA : okA m A) (hW : WFT T) (hV : VL T L) {D tk who : Nat} (htk : tk < 16384) (hwho : who < 2) (IH : ∀ (S' : MS) tk' who' (K' : Int64 → Hp → Prop), fr tk' < fr tk → tk' < 16384 → who' < 2 → GS T L S' → (∀ S'', Gm [] S' S'' → GS T L S'' → K' (lN (wW (vl T L tk' who'))) (mh m A S'' ρ)) → C_X12_waysFrom l G (D + 5) m (nI (sd tk' who')) (mh m A S' ρ) K') (hS : GS T L S) {K : Int64 → Hp → Prop} (hK : ∀ S', Gm [] S S' → GS T L S' → K (lN (wW (vl T L tk who))) (mh m A S' ρ)) : C_X12_waysFrom l G (D + 6) m (nI (sd tk who)) (mh m A S ρ) K := by
  have hsd := sd_lt htk hwho
  have h224 := hS.2.1.1
  have hin : vp_in (nI (sd tk who)) 32768 := (nt_in (by omega)).mpr hsd
  have hcl : (nI (sd tk who)).toNatClampNeg = sd tk who := nI_clamp (by omega)
  have hv : wW (vl T L tk who) = wayS (kids T L tk who) := by rw [vl_eq hV]; rfl
  have hz : ∀ r k S' (b : Nat), k + r = L.length → Gm [] S S' → GS T L S' → b ≤ 1000000000000000000 → (kds T L tk who k).foldl (fun a c => min (a + wW c) 1000000000000000000) b = (kids T L tk who).foldl (fun a c => min (a + wW c) 1000000000000000000) 0 → Z_X12_waysFrom_23 l G (D + 5) K (r + 1) m (nI (sd tk who)) (lN b) (nI k) (mh m A S' ρ) := by
    intro r
    induction r with
    | zero =>
      intro k S' b hk h1 h2 hb h3
      rw [kds_end (by omega), List.foldl_nil] at h3
      have h99 : ∀ x, x = lN (wW (vl T L tk who)) → F_X12_waysFrom_99 l G (D + 5) m (nI (sd tk who)) (A 37) (nI (sd tk who)) x (mh m A S' ρ) K := by
        intro x hx
        obtain ⟨a, b⟩ := h2.upj htk (who := who) (x := x) hx
        simp only [F_X12_waysFrom_99, mfI_0, mpI_0, mfN_1, mfI_2, mpI_2, mfI_3, mpI_3, mfI_4, mpI_4, mfI_5, mpI_5, mfI_6, mpI_6, mfI_7, mpI_7, mfI_8, mpI_8, mfI_9, mpI_9, mfI_10, mpI_10, mfI_11, mpI_11, mfN_12, mfZ_13, mpZ_13, mfZ_14, mpZ_14, mfN_15, mfN_16, mfN_17, mfN_18, mfN_19, mfN_20, mfI_21, mpI_21, mfI_22, mpI_22, mfN_23, mfN_24, mfN_25, mfN_26, mfN_27, mfN_28, mfN_29, mfI_30, mpI_30, mfN_31, mfN_32, mfN_33, mfN_34, mfN_35, mfN_36, mfN_37, mfI_38, mpI_38, mfN_39, mfI_40, mpI_40, mfI_41, mpI_41, mgI_1 hA, msI_1 hA, mgI_12 hA, msI_12 hA, mgI_15 hA, msI_15 hA, mgI_16 hA, msI_16 hA, mgI_17 hA, msI_17 hA, mgI_18 hA, msI_18 hA, mgI_19 hA, msI_19 hA, mgI_20 hA, msI_20 hA, mgI_23 hA, msI_23 hA, mgI_24 hA, msI_24 hA, mgI_25 hA, msI_25 hA, mgI_26 hA, msI_26 hA, mgI_27 hA, msI_27 hA, mgI_28 hA, msI_28 hA, mgI_29 hA, msI_29 hA, mgI_31 hA, msI_31 hA, mgI_32 hA, msI_32 hA, mgI_33 hA, msI_33 hA, mgI_34 hA, msI_34 hA, mgI_35 hA, msI_35 hA, mgI_36 hA, msI_36 hA, mgI_39 hA, msI_39 hA, mgJ hA, msJ hA, ms_i, ms_i2, ms_b1, ms_b, ms_b2, ms_a1, ms_a2, ms_a, ms_a3, ms_j1, ms_j2, ms_j3, ms_j, ↓reduceIte, Nat.reduceEqDiff, hcl, up_eq]
        have := hK _ (h1.tr b) a
        rw [← hx] at this
        exact ⟨hin, hin, this⟩
      simp only [Z_X12_waysFrom_23, F_X12_waysFrom_23, mfI_0, mpI_0, mfN_1, mfI_2, mpI_2, mfI_3, mpI_3, mfI_4, mpI_4, mfI_5, mpI_5, mfI_6, mpI_6, mfI_7, mpI_7, mfI_8, mpI_8, mfI_9, mpI_9, mfI_10, mpI_10, mfI_11, mpI_11, mfN_12, mfZ_13, mpZ_13, mfZ_14, mpZ_14, mfN_15, mfN_16, mfN_17, mfN_18, mfN_19, mfN_20, mfI_21, mpI_21, mfI_22, mpI_22, mfN_23, mfN_24, mfN_25, mfN_26, mfN_27, mfN_28, mfN_29, mfI_30, mpI_30, mfN_31, mfN_32, mfN_33, mfN_34, mfN_35, mfN_36, mfN_37, mfI_38, mpI_38, mfN_39, mfI_40, mpI_40, mfI_41, mpI_41, mgI_1 hA, msI_1 hA, mgI_12 hA, msI_12 hA, mgI_15 hA, msI_15 hA, mgI_16 hA, msI_16 hA, mgI_17 hA, msI_17 hA, mgI_18 hA, msI_18 hA, mgI_19 hA, msI_19 hA, mgI_20 hA, msI_20 hA, mgI_23 hA, msI_23 hA, mgI_24 hA, msI_24 hA, mgI_25 hA, msI_25 hA, mgI_26 hA, msI_26 hA, mgI_27 hA, msI_27 hA, mgI_28 hA, msI_28 hA, mgI_29 hA, msI_29 hA, mgI_31 hA, msI_31 hA, mgI_32 hA, msI_32 hA, mgI_33 hA, msI_33 hA, mgI_34 hA, msI_34 hA, mgI_35 hA, msI_35 hA, mgI_36 hA, msI_36 hA, mgI_39 hA, msI_39 hA, mgJ hA, msJ hA, h2.2.1.2.1]
      rw [nt_le (by omega) (by omega)]
      refine ⟨fun _ => ?_, fun hc => absurd (by omega) hc⟩
      refine s_X12_isOver (d := D) hA h2.1 hW h2.2.1 hV htk hwho ?_
      rw [← kids_e]
      refine ⟨fun h4 => h99 _ ?_, fun h4 => h99 _ ?_⟩
      · rw [hv, wayS, h4, if_neg (by decide), h3]
      · rw [hv, wayS, h4, if_pos rfl]; rfl
    | succ r ih =>
      intro k S' b hk h1 h2 hb h3
      obtain ⟨e, he⟩ : ∃ e, L[k]? = some e := ⟨_, List.getElem?_eq_getElem (by omega)⟩
      obtain ⟨p, hp⟩ := (hV k e he).1
      have e1 : nI k + 1 = nI (k + 1) := nt_add k 1
      rw [show r + 1 + 1 = (r + 1) + 1 from rfl, Z_X12_waysFrom_23]
      simp only [F_X12_waysFrom_23, F_X12_waysFrom_74, F_X12_waysFrom_75, mfI_0, mpI_0, mfN_1, mfI_2, mpI_2, mfI_3, mpI_3, mfI_4, mpI_4, mfI_5, mpI_5, mfI_6, mpI_6, mfI_7, mpI_7, mfI_8, mpI_8, mfI_9, mpI_9, mfI_10, mpI_10, mfI_11, mpI_11, mfN_12, mfZ_13, mpZ_13, mfZ_14, mpZ_14, mfN_15, mfN_16, mfN_17, mfN_18, mfN_19, mfN_20, mfI_21, mpI_21, mfI_22, mpI_22, mfN_23, mfN_24, mfN_25, mfN_26, mfN_27, mfN_28, mfN_29, mfI_30, mpI_30, mfN_31, mfN_32, mfN_33, mfN_34, mfN_35, mfN_36, mfN_37, mfI_38, mpI_38, mfN_39, mfI_40, mpI_40, mfI_41, mpI_41, h2.2.1.2.1, e1]
      rw [nt_le (by omega) (by omega)]
      refine ⟨fun hc => by omega, fun _ => ?_⟩
      refine s_X12_mayBe (d := D + 2) hA h2.1 hW h2.2.1 he hp htk hwho ?_
      refine ⟨fun hm => ?_, fun hm => ?_⟩
      · obtain ⟨q1, q2⟩ := kid_at hV he hm htk
        have q3 := (kids_bd hV (kid_in hV he hm)).2.2.2.2
        rw [kds_t he hm, List.foldl_cons] at h3
        refine s_X12_behind (d := D + 4) hA h2.2.1 hV he htk hwho ?_
        refine IH S' _ _ _ q1 q2 (by omega) h2 fun S'' h6 h7 => ?_
        have hrec := ih (k + 1) S'' _ (by omega) (h1.tr h6) h7 (by omega) h3
        rw [lN_add, lg_cmp_le, show (1000000000000000000 : Int64) = lN 1000000000000000000 from rfl, pk_lLE (by omega) (by omega)]
        refine ⟨fun h9 => ?_, fun h9 => ?_⟩
        · rw [Nat.min_eq_left h9] at hrec; exact hrec
        · rw [Nat.min_eq_right (by omega)] at hrec; exact hrec
      · rw [kds_f he hm] at h3
        exact ih (k + 1) S' b (by omega) h1 h2 hb h3
  refine m_X12_waysFrom rv_m ?_
  have hmem := hS.2.2.2 tk who htk hwho
  simp only [F_X12_waysFrom, mfI_0, mpI_0, mfN_1, mfI_2, mpI_2, mfI_3, mpI_3, mfI_4, mpI_4, mfI_5, mpI_5, mfI_6, mpI_6, mfI_7, mpI_7, mfI_8, mpI_8, mfI_9, mpI_9, mfI_10, mpI_10, mfI_11, mpI_11, mfN_12, mfZ_13, mpZ_13, mfZ_14, mpZ_14, mfN_15, mfN_16, mfN_17, mfN_18, mfN_19, mfN_20, mfI_21, mpI_21, mfI_22, mpI_22, mfN_23, mfN_24, mfN_25, mfN_26, mfN_27, mfN_28, mfN_29, mfI_30, mpI_30, mfN_31, mfN_32, mfN_33, mfN_34, mfN_35, mfN_36, mfN_37, mfI_38, mpI_38, mfN_39, mfI_40, mpI_40, mfI_41, mpI_41, mgI_1 hA, msI_1 hA, mgI_12 hA, msI_12 hA, mgI_15 hA, msI_15 hA, mgI_16 hA, msI_16 hA, mgI_17 hA, msI_17 hA, mgI_18 hA, msI_18 hA, mgI_19 hA, msI_19 hA, mgI_20 hA, msI_20 hA, mgI_23 hA, msI_23 hA, mgI_24 hA, msI_24 hA, mgI_25 hA, msI_25 hA, mgI_26 hA, msI_26 hA, mgI_27 hA, msI_27 hA, mgI_28 hA, msI_28 hA, mgI_29 hA, msI_29 hA, mgI_31 hA, msI_31 hA, mgI_32 hA, msI_32 hA, mgI_33 hA, msI_33 hA, mgI_34 hA, msI_34 hA, mgI_35 hA, msI_35 hA, mgI_36 hA, msI_36 hA, mgI_39 hA, msI_39 hA, mgJ hA, msJ hA, hcl, lg_cmp_lt]
  refine ⟨hin, fun h1 => ?_, fun h1 => ⟨hin, ?_⟩⟩
  · exact ⟨L.length + 1, hz L.length 0 S 0 (by omega) Gm.rf hS (by decide) (by rw [kds_0])⟩
  · rcases hmem with h2 | h2
    · rw [h2] at h1; exact absurd (by decide) h1
    · rw [h2]
      exact hK S Gm.rf hS
theorem s_X12_waysFrom (hA : okA m A) (hW : WFT T) (hV : VL T L) : ∀ n {d : Nat} {S : MS} {tk who : Nat}, fr tk ≤ n → tk < 16384 → who < 2 → GS T L S → ∀ {K : Int64 → Hp → Prop}, (∀ S', Gm [] S S' → GS T L S' → K (lN (wW (vl T L tk who))) (mh m A S' ρ)) → C_X12_waysFrom l G (d + n + 6) m (nI (sd tk who)) (mh m A S ρ) K := by
  intro n
  induction n with
  | zero =>
    intro d S tk who hn htk hwho hS K hK
    exact waysFrom_step (D := d) hA hW hV htk hwho (fun S' tk' who' K' h1 => absurd h1 (by omega)) hS hK
  | succ n ih =>
    intro d S tk who hn htk hwho hS K hK
    exact waysFrom_step (D := d + (n + 1)) hA hW hV htk hwho (fun S' tk' who' K' h1 h2 h3 h4 h5 => by
      have := ih (d := d) (S := S') (tk := tk') (who := who') (by omega) h2 h3 h4 h5
      exact this) hS hK
theorem kds_len {tk who k : Nat} : (kds T L tk who k).length ≤ L.length := by
  simp only [kds, List.length_map]
  refine Nat.le_trans (List.length_filter_le _ _) ?_
  simp
theorem lotFrom_step (hA : okA m A) (hW : WFT T) (hV : VL T L) {D tk who : Nat} (htk : tk < 16384) (hwho : who < 2) (IH : ∀ (S' : MS) tk' who' (K' : Int32 → Hp → Prop), fr tk' < fr tk → tk' < 16384 → who' < 2 → GS T L S' → (∀ S'', Gm [] S' S'' → GS T L S'' → K' (nI (wL (vl T L tk' who'))) (mh m A S'' ρ)) → C_X12_lotFrom l G (D + 3) m (nI (sd tk' who')) (mh m A S' ρ) K') (hS : GS T L S) {K : Int32 → Hp → Prop} (hK : ∀ S', Gm [] S S' → GS T L S' → K (nI (wL (vl T L tk who))) (mh m A S' ρ)) : C_X12_lotFrom l G (D + 4) m (nI (sd tk who)) (mh m A S ρ) K := by
  have hsd := sd_lt htk hwho
  have h224 := hS.2.1.1
  have hin : vp_in (nI (sd tk who)) 32768 := (nt_in (by omega)).mpr hsd
  have hcl : (nI (sd tk who)).toNatClampNeg = sd tk who := nI_clamp (by omega)
  have hv : wL (vl T L tk who) = lotS (kids T L tk who) := by rw [vl_eq hV]; rfl
  have hz : ∀ r k S' (s c : Nat), k + r = L.length → Gm [] S S' → GS T L S' → s ≤ c * 14000000 → c ≤ k → (kds T L tk who k).foldl (fun a c => a + (1000000 + wL c)) s = (kids T L tk who).foldl (fun a c => a + (1000000 + wL c)) 0 → c + (kds T L tk who k).length = (kids T L tk who).length → Z_X12_lotFrom_24 l G (D + 3) K (r + 1) m (nI (sd tk who)) (lN s) (nI c) (nI k) (mh m A S' ρ) := by
    intro r
    induction r with
    | zero =>
      intro k S' s c hk h1 h2 hs hck h3 h4
      rw [kds_end (by omega), List.foldl_nil] at h3
      rw [kds_end (by omega), List.length_nil] at h4
      have h94 : ∀ x, x = nI (wL (vl T L tk who)) → F_X12_lotFrom_94 l G (D + 3) m (nI (sd tk who)) (A 35) (nI (sd tk who)) x (mh m A S' ρ) K := by
        intro x hx
        obtain ⟨a, b⟩ := h2.up (k := 35) (by decide) htk (who := who) (x := x) (by rw [hx]; rfl)
        simp only [F_X12_lotFrom_94, mfI_0, mpI_0, mfN_1, mfI_2, mpI_2, mfI_3, mpI_3, mfI_4, mpI_4, mfI_5, mpI_5, mfI_6, mpI_6, mfI_7, mpI_7, mfI_8, mpI_8, mfI_9, mpI_9, mfI_10, mpI_10, mfI_11, mpI_11, mfN_12, mfZ_13, mpZ_13, mfZ_14, mpZ_14, mfN_15, mfN_16, mfN_17, mfN_18, mfN_19, mfN_20, mfI_21, mpI_21, mfI_22, mpI_22, mfN_23, mfN_24, mfN_25, mfN_26, mfN_27, mfN_28, mfN_29, mfI_30, mpI_30, mfN_31, mfN_32, mfN_33, mfN_34, mfN_35, mfN_36, mfN_37, mfI_38, mpI_38, mfN_39, mfI_40, mpI_40, mfI_41, mpI_41, mgI_1 hA, msI_1 hA, mgI_12 hA, msI_12 hA, mgI_15 hA, msI_15 hA, mgI_16 hA, msI_16 hA, mgI_17 hA, msI_17 hA, mgI_18 hA, msI_18 hA, mgI_19 hA, msI_19 hA, mgI_20 hA, msI_20 hA, mgI_23 hA, msI_23 hA, mgI_24 hA, msI_24 hA, mgI_25 hA, msI_25 hA, mgI_26 hA, msI_26 hA, mgI_27 hA, msI_27 hA, mgI_28 hA, msI_28 hA, mgI_29 hA, msI_29 hA, mgI_31 hA, msI_31 hA, mgI_32 hA, msI_32 hA, mgI_33 hA, msI_33 hA, mgI_34 hA, msI_34 hA, mgI_35 hA, msI_35 hA, mgI_36 hA, msI_36 hA, mgI_39 hA, msI_39 hA, mgJ hA, msJ hA, ms_i, ms_i2, ms_b1, ms_b, ms_b2, ms_a1, ms_a2, ms_a, ms_a3, ms_j1, ms_j2, ms_j3, ms_j, ↓reduceIte, Nat.reduceEqDiff, hcl, up_eq]
        have := hK _ (h1.tr b) a
        rw [← hx] at this
        exact ⟨hin, hin, this⟩
      simp only [Z_X12_lotFrom_24, F_X12_lotFrom_24, mfI_0, mpI_0, mfN_1, mfI_2, mpI_2, mfI_3, mpI_3, mfI_4, mpI_4, mfI_5, mpI_5, mfI_6, mpI_6, mfI_7, mpI_7, mfI_8, mpI_8, mfI_9, mpI_9, mfI_10, mpI_10, mfI_11, mpI_11, mfN_12, mfZ_13, mpZ_13, mfZ_14, mpZ_14, mfN_15, mfN_16, mfN_17, mfN_18, mfN_19, mfN_20, mfI_21, mpI_21, mfI_22, mpI_22, mfN_23, mfN_24, mfN_25, mfN_26, mfN_27, mfN_28, mfN_29, mfI_30, mpI_30, mfN_31, mfN_32, mfN_33, mfN_34, mfN_35, mfN_36, mfN_37, mfI_38, mpI_38, mfN_39, mfI_40, mpI_40, mfI_41, mpI_41, mgI_1 hA, msI_1 hA, mgI_12 hA, msI_12 hA, mgI_15 hA, msI_15 hA, mgI_16 hA, msI_16 hA, mgI_17 hA, msI_17 hA, mgI_18 hA, msI_18 hA, mgI_19 hA, msI_19 hA, mgI_20 hA, msI_20 hA, mgI_23 hA, msI_23 hA, mgI_24 hA, msI_24 hA, mgI_25 hA, msI_25 hA, mgI_26 hA, msI_26 hA, mgI_27 hA, msI_27 hA, mgI_28 hA, msI_28 hA, mgI_29 hA, msI_29 hA, mgI_31 hA, msI_31 hA, mgI_32 hA, msI_32 hA, mgI_33 hA, msI_33 hA, mgI_34 hA, msI_34 hA, mgI_35 hA, msI_35 hA, mgI_36 hA, msI_36 hA, mgI_39 hA, msI_39 hA, mgJ hA, msJ hA, h2.2.1.2.1]
      rw [nt_le (by omega) (by omega), nt_0 (show c < 2 ^ 31 by omega), nI_l (by omega)]
      refine ⟨fun _ => ⟨fun h5 => ⟨?_, h94 _ ?_⟩, fun h5 => h94 _ ?_⟩, fun hc => absurd (by omega) hc⟩
      · rw [show (0 : Int64) = lN 0 from rfl, pk_lEQ (by omega) (by omega)]; exact h5
      · rw [pk_lDiv (by omega) (by omega) (by omega), lN_i, hv, lotS, h3]
        cases hc : kids T L tk who with
        | nil => rw [hc] at h4; exact absurd h4 h5
        | cons a as => rw [← hc, ← h4, hc, List.isEmpty_cons, if_neg (by decide)]; rfl
      · rw [hv, lotS]
        cases hc : kids T L tk who with
        | nil => rfl
        | cons a as => rw [hc, List.length_cons] at h4; omega
    | succ r ih =>
      intro k S' s c hk h1 h2 hs hck h3 h4
      obtain ⟨e, he⟩ : ∃ e, L[k]? = some e := ⟨_, List.getElem?_eq_getElem (by omega)⟩
      obtain ⟨p, hp⟩ := (hV k e he).1
      have e1 : nI k + 1 = nI (k + 1) := nt_add k 1
      rw [show r + 1 + 1 = (r + 1) + 1 from rfl, Z_X12_lotFrom_24]
      simp only [F_X12_lotFrom_24, F_X12_lotFrom_68, mfI_0, mpI_0, mfN_1, mfI_2, mpI_2, mfI_3, mpI_3, mfI_4, mpI_4, mfI_5, mpI_5, mfI_6, mpI_6, mfI_7, mpI_7, mfI_8, mpI_8, mfI_9, mpI_9, mfI_10, mpI_10, mfI_11, mpI_11, mfN_12, mfZ_13, mpZ_13, mfZ_14, mpZ_14, mfN_15, mfN_16, mfN_17, mfN_18, mfN_19, mfN_20, mfI_21, mpI_21, mfI_22, mpI_22, mfN_23, mfN_24, mfN_25, mfN_26, mfN_27, mfN_28, mfN_29, mfI_30, mpI_30, mfN_31, mfN_32, mfN_33, mfN_34, mfN_35, mfN_36, mfN_37, mfI_38, mpI_38, mfN_39, mfI_40, mpI_40, mfI_41, mpI_41, h2.2.1.2.1, e1]
      rw [nt_le (by omega) (by omega)]
      refine ⟨fun hc => by omega, fun _ => ?_⟩
      refine s_X12_mayBe (d := D) hA h2.1 hW h2.2.1 he hp htk hwho ?_
      refine ⟨fun hm => ?_, fun hm => ?_⟩
      · obtain ⟨q1, q2⟩ := kid_at hV he hm htk
        have q3 := (kids_bd hV (kid_in hV he hm)).2.2.2.1
        rw [kds_t he hm, List.foldl_cons] at h3
        rw [kds_t he hm, List.length_cons] at h4
        refine s_X12_behind (d := D + 2) hA h2.2.1 hV he htk hwho ?_
        refine IH S' _ _ _ q1 q2 (by omega) h2 fun S'' h6 h7 => ?_
        rw [show (1000000 : Int32) + nI (wL (vl T L (tk ||| eS e) (1 - who))) = nI (1000000 + wL (vl T L (tk ||| eS e) (1 - who))) from nt_add 1000000 _, nI_l (by omega), lN_add, show nI c + 1 = nI (c + 1) from nt_add c 1]
        exact ih (k + 1) S'' _ (c + 1) (by omega) (h1.tr h6) h7 (by rw [Nat.succ_mul]; omega) (by omega) h3 (by omega)
      · rw [kds_f he hm] at h3 h4
        exact ih (k + 1) S' s c (by omega) h1 h2 hs (by omega) h3 h4
  refine m_X12_lotFrom rv_m ?_
  have hmem := hS.2.2.1 35 (by decide) (by decide) tk who htk hwho
  simp only [F_X12_lotFrom, mfI_0, mpI_0, mfN_1, mfI_2, mpI_2, mfI_3, mpI_3, mfI_4, mpI_4, mfI_5, mpI_5, mfI_6, mpI_6, mfI_7, mpI_7, mfI_8, mpI_8, mfI_9, mpI_9, mfI_10, mpI_10, mfI_11, mpI_11, mfN_12, mfZ_13, mpZ_13, mfZ_14, mpZ_14, mfN_15, mfN_16, mfN_17, mfN_18, mfN_19, mfN_20, mfI_21, mpI_21, mfI_22, mpI_22, mfN_23, mfN_24, mfN_25, mfN_26, mfN_27, mfN_28, mfN_29, mfI_30, mpI_30, mfN_31, mfN_32, mfN_33, mfN_34, mfN_35, mfN_36, mfN_37, mfI_38, mpI_38, mfN_39, mfI_40, mpI_40, mfI_41, mpI_41, mgI_1 hA, msI_1 hA, mgI_12 hA, msI_12 hA, mgI_15 hA, msI_15 hA, mgI_16 hA, msI_16 hA, mgI_17 hA, msI_17 hA, mgI_18 hA, msI_18 hA, mgI_19 hA, msI_19 hA, mgI_20 hA, msI_20 hA, mgI_23 hA, msI_23 hA, mgI_24 hA, msI_24 hA, mgI_25 hA, msI_25 hA, mgI_26 hA, msI_26 hA, mgI_27 hA, msI_27 hA, mgI_28 hA, msI_28 hA, mgI_29 hA, msI_29 hA, mgI_31 hA, msI_31 hA, mgI_32 hA, msI_32 hA, mgI_33 hA, msI_33 hA, mgI_34 hA, msI_34 hA, mgI_35 hA, msI_35 hA, mgI_36 hA, msI_36 hA, mgI_39 hA, msI_39 hA, mgJ hA, msJ hA, hcl]
  refine ⟨hin, fun h1 => ?_, fun h1 => ⟨hin, ?_⟩⟩
  · exact ⟨L.length + 1, hz L.length 0 S 0 0 (by omega) Gm.rf hS (by decide) (by decide) (by rw [kds_0]) (by rw [kds_0]; omega)⟩
  · rcases hmem with h2 | h2
    · rw [h2] at h1; exact absurd (by decide) h1
    · rw [h2]
      exact hK S Gm.rf hS
theorem s_X12_lotFrom (hA : okA m A) (hW : WFT T) (hV : VL T L) : ∀ n {d : Nat} {S : MS} {tk who : Nat}, fr tk ≤ n → tk < 16384 → who < 2 → GS T L S → ∀ {K : Int32 → Hp → Prop}, (∀ S', Gm [] S S' → GS T L S' → K (nI (wL (vl T L tk who))) (mh m A S' ρ)) → C_X12_lotFrom l G (d + n + 4) m (nI (sd tk who)) (mh m A S ρ) K := by
  intro n
  induction n with
  | zero =>
    intro d S tk who hn htk hwho hS K hK
    exact lotFrom_step (D := d) hA hW hV htk hwho (fun S' tk' who' K' h1 => absurd h1 (by omega)) hS hK
  | succ n ih =>
    intro d S tk who hn htk hwho hS K hK
    exact lotFrom_step (D := d + (n + 1)) hA hW hV htk hwho (fun S' tk' who' K' h1 h2 h3 h4 h5 => by
      have := ih (d := d) (S := S') (tk := tk') (who := who') (by omega) h2 h3 h4 h5
      exact this) hS hK
/-- the lays by which the other one hasn't it -/
def gdE (T : TB) (L : List LY) (tk who : Nat) (e : LY) : Bool := myE T e tk who && !wH (vl T L (tk ||| eS e) (1 - who))
theorem s_X12_goodOnes (hA : okA m A) (hW : WFT T) (hV : VL T L) {d : Nat} {S : MS} {tk who : Nat} (htk : tk < 16384) (hwho : who < 2) (hS : GS T L S) {K : Int32 → Hp → Prop} (hK : ∀ S', Gm [38] S S' → GS T L S' → S'.1 38 = optF (mAt (gdE T L tk who) L 0 0) → K (nI (L.filter (gdE T L tk who)).length) (mh m A S' ρ)) : C_X12_goodOnes l G (d + 21) m (nI (sd tk who)) (mh m A S ρ) K := by
  have h224 := hS.2.1.1
  have hcg : ∀ (S' : MS) v, Gm [38] S S' → GS T L S' → Gm [38] S (seti S' 38 v) ∧ GS T L (seti S' 38 v) := by
    intro S' v h1 h2
    exact ⟨h1.tr ⟨fun j hj => if_neg (by simpa using hj), rfl, fun _ _ => rfl⟩, h2.cg rfl (fun _ _ _ _ _ _ _ _ => rfl) rfl⟩
  have hz : ∀ r k S' (c : Nat), k + r = L.length → Gm [38] S S' → GS T L S' → c ≤ k → (c = 0 → S'.1 38 = -2 ∧ mAt (gdE T L tk who) (L.drop k) k 0 = mAt (gdE T L tk who) L 0 0) → (c ≠ 0 → S'.1 38 = optF (mAt (gdE T L tk who) L 0 0)) → c + ((L.drop k).filter (gdE T L tk who)).length = (L.filter (gdE T L tk who)).length → Z_X12_goodOnes_10 l G (d + 20) K (r + 1) m (nI (sd tk who)) (nI c) (nI k) (mh m A S' ρ) := by
    intro r
    induction r with
    | zero =>
      intro k S' c hk h1 h2 hck h3 h4 h5
      rw [List.drop_eq_nil_of_le (by omega)] at h5 h3
      simp only [Z_X12_goodOnes_10, F_X12_goodOnes_10, mfI_0, mpI_0, mfN_1, mfI_2, mpI_2, mfI_3, mpI_3, mfI_4, mpI_4, mfI_5, mpI_5, mfI_6, mpI_6, mfI_7, mpI_7, mfI_8, mpI_8, mfI_9, mpI_9, mfI_10, mpI_10, mfI_11, mpI_11, mfN_12, mfZ_13, mpZ_13, mfZ_14, mpZ_14, mfN_15, mfN_16, mfN_17, mfN_18, mfN_19, mfN_20, mfI_21, mpI_21, mfI_22, mpI_22, mfN_23, mfN_24, mfN_25, mfN_26, mfN_27, mfN_28, mfN_29, mfI_30, mpI_30, mfN_31, mfN_32, mfN_33, mfN_34, mfN_35, mfN_36, mfN_37, mfI_38, mpI_38, mfN_39, mfI_40, mpI_40, mfI_41, mpI_41, h2.2.1.2.1]
      rw [nt_le (by omega) (by omega)]
      refine ⟨fun _ => ?_, fun hc => absurd (by omega) hc⟩
      have h6 : c = (L.filter (gdE T L tk who)).length := by simpa using h5
      rw [h6]
      refine hK S' h1 h2 ?_
      by_cases hc : c = 0
      · obtain ⟨a, b⟩ := h3 hc
        rw [a, ← b]; rfl
      · exact h4 hc
    | succ r ih =>
      intro k S' c hk h1 h2 hck h3 h4 h5
      obtain ⟨e, he⟩ : ∃ e, L[k]? = some e := ⟨_, List.getElem?_eq_getElem (by omega)⟩
      obtain ⟨p, hp⟩ := (hV k e he).1
      have e1 : nI k + 1 = nI (k + 1) := nt_add k 1
      have e2 : nI c + 1 = nI (c + 1) := nt_add c 1
      rw [drop_at he, List.filter_cons] at h5
      rw [drop_at he] at h3
      simp only [mAt] at h3
      have hno : gdE T L tk who e = false → ∀ S', Gm [38] S S' → GS T L S' → (c = 0 → S'.1 38 = -2) → (c ≠ 0 → S'.1 38 = optF (mAt (gdE T L tk who) L 0 0)) → Z_X12_goodOnes_10 l G (d + 20) K (r + 1) m (nI (sd tk who)) (nI c) (nI (k + 1)) (mh m A S' ρ) := by
        intro hg S' h1 h2 h6 h7
        rw [if_neg (by rw [hg]; decide)] at h5
        refine ih (k + 1) S' c (by omega) h1 h2 (by omega) (fun hc => ?_) h7 h5
        have := h3 hc
        rw [if_neg (by rw [hg]; decide)] at this
        exact ⟨h6 hc, this.2⟩
      rw [show r + 1 + 1 = (r + 1) + 1 from rfl, Z_X12_goodOnes_10]
      simp only [F_X12_goodOnes_10, F_X12_goodOnes_56, F_X12_goodOnes_62, mfI_0, mpI_0, mfN_1, mfI_2, mpI_2, mfI_3, mpI_3, mfI_4, mpI_4, mfI_5, mpI_5, mfI_6, mpI_6, mfI_7, mpI_7, mfI_8, mpI_8, mfI_9, mpI_9, mfI_10, mpI_10, mfI_11, mpI_11, mfN_12, mfZ_13, mpZ_13, mfZ_14, mpZ_14, mfN_15, mfN_16, mfN_17, mfN_18, mfN_19, mfN_20, mfI_21, mpI_21, mfI_22, mpI_22, mfN_23, mfN_24, mfN_25, mfN_26, mfN_27, mfN_28, mfN_29, mfI_30, mpI_30, mfN_31, mfN_32, mfN_33, mfN_34, mfN_35, mfN_36, mfN_37, mfI_38, mpI_38, mfN_39, mfI_40, mpI_40, mfI_41, mpI_41, h2.2.1.2.1, e1, e2]
      rw [nt_le (by omega) (by omega)]
      refine ⟨fun hc => by omega, fun _ => ?_⟩
      refine s_X12_mayBe (d := d + 17) hA h2.1 hW h2.2.1 he hp htk hwho ?_
      refine ⟨fun hm => hno (by simp [gdE, hm]) S' h1 h2 (fun hc => (h3 hc).1) h4, fun hm => ?_⟩
      obtain ⟨q1, q2⟩ := kid_at hV he hm htk
      refine s_X12_behind (d := d + 19) hA h2.2.1 hV he htk hwho ?_
      refine s_X12_hasIt hA hW hV 14 (d := d) (fr_le _) q2 (by omega) h2 fun S'' h6 h7 => ?_
      have h38 : S''.1 38 = S'.1 38 := h6.1 38 (by decide)
      refine ⟨fun h8 => ?_, fun h8 => hno (by simp [gdE, h8]) S'' (h1.tr h6.m0) h7 (fun hc => h38.trans (h3 hc).1) (fun hc => h38.trans (h4 hc))⟩
      have hg : gdE T L tk who e = true := by simp [gdE, hm, h8]
      rw [if_pos hg, List.length_cons] at h5
      rw [nt_0 (show c < 2 ^ 31 by omega)]
      simp only [mfI_38, mpI_38, h38]
      refine ⟨fun hc => ?_, fun hc => ?_⟩
      · obtain ⟨a, b⟩ := hcg S'' (S'.1 38) (h1.tr h6.m0) h7
        exact ih (k + 1) _ (c + 1) (by omega) a b (by omega) (fun hc => by omega) (fun _ => h4 hc) (by omega)
      · obtain ⟨a, b⟩ := hcg S'' (nI k) (h1.tr h6.m0) h7
        refine ih (k + 1) _ (c + 1) (by omega) a b (by omega) (fun hc => by omega) (fun _ => ?_) (by omega)
        have := (h3 hc).2
        rw [if_pos hg, if_pos trivial] at this
        rw [← this]; rfl
  refine m_X12_goodOnes rv_m ?_
  simp only [F_X12_goodOnes, mfI_0, mpI_0, mfN_1, mfI_2, mpI_2, mfI_3, mpI_3, mfI_4, mpI_4, mfI_5, mpI_5, mfI_6, mpI_6, mfI_7, mpI_7, mfI_8, mpI_8, mfI_9, mpI_9, mfI_10, mpI_10, mfI_11, mpI_11, mfN_12, mfZ_13, mpZ_13, mfZ_14, mpZ_14, mfN_15, mfN_16, mfN_17, mfN_18, mfN_19, mfN_20, mfI_21, mpI_21, mfI_22, mpI_22, mfN_23, mfN_24, mfN_25, mfN_26, mfN_27, mfN_28, mfN_29, mfI_30, mpI_30, mfN_31, mfN_32, mfN_33, mfN_34, mfN_35, mfN_36, mfN_37, mfI_38, mpI_38, mfN_39, mfI_40, mpI_40, mfI_41, mpI_41]
  obtain ⟨a, b⟩ := hcg S (-2) Gm.rf hS
  exact ⟨L.length + 1, hz L.length 0 _ 0 (by omega) a b (by decide) (fun _ => ⟨rfl, rfl⟩) (fun hc => absurd rfl hc) (by simp)⟩
end WAYS
