/-! soonestFrom, fewestFrom, mostFrom -/
section SOON
variable {l : Launch} {G : GG} {m : Nat} {A : Nat → Nat} {S : MS} {ρ : Hp} {T : TB} {L : List LY}
theorem kid_in (hV : VL T L) {tk who i : Nat} {e : LY} (he : L[i]? = some e) (hm : myE T e tk who = true) : vl T L (tk ||| eS e) (1 - who) ∈ kids T L tk who := List.mem_map.mpr ⟨e, mvs_at he hm, rfl⟩
theorem bst_le {h : Bool} {b : Option Nat} {n M : Nat} (hb : ∀ x, b = some x → x ≤ M) (hn : n ≤ M) : ∀ x, bst h b n = some x → x ≤ M := by
  intro x hx
  cases b with
  | none => simp only [bst, Option.some.injEq] at hx; omega
  | some y =>
    have := hb y rfl
    simp only [bst, Option.some.injEq] at hx
    have h2 : ∀ (c : Bool), (if c = true then n else y) = x → x ≤ M := by
      intro c hc
      cases c <;> simp at hc <;> omega
    exact h2 _ hx
theorem soonestFrom_step (hA : okA m A) (hW : WFT T) (hV : VL T L) {d n tk who : Nat} (hn : fr tk ≤ n) (htk : tk < 16384) (hwho : who < 2) (IH : ∀ (S' : MS) tk' who' (K' : Int32 → Hp → Prop), fr tk' < fr tk → tk' < 16384 → who' < 2 → GS T L S' → (∀ S'', Gm [] S' S'' → GS T L S'' → K' (nI (wN (vl T L tk' who'))) (mh m A S'' ρ)) → C_X12_soonestFrom l G (d + n + 6) m (nI (sd tk' who')) (mh m A S' ρ) K') (hS : GS T L S) {K : Int32 → Hp → Prop} (hK : ∀ S', Gm [] S S' → GS T L S' → K (nI (wN (vl T L tk who))) (mh m A S' ρ)) : C_X12_soonestFrom l G (d + n + 7) m (nI (sd tk who)) (mh m A S ρ) K := by
  have hsd := sd_lt htk hwho
  have h224 := hS.2.1.1
  have hin : vp_in (nI (sd tk who)) 32768 := (nt_in (by omega)).mpr hsd
  have hcl : (nI (sd tk who)).toNatClampNeg = sd tk who := nI_clamp (by omega)
  have hb14 := (vl_b hV tk who).1
  have h132 : ∀ S' x, Gm [] S S' → GS T L S' → x = nI (wN (vl T L tk who)) → F_X12_soonestFrom_132 l G (d + n + 6) m (nI (sd tk who)) (A 32) (nI (sd tk who)) x (mh m A S' ρ) K := by
    intro S' x h1 h2 h3
    obtain ⟨a, b⟩ := h2.up (k := 32) (by decide) htk (who := who) (x := x) (by rw [h3]; rfl)
    simp only [F_X12_soonestFrom_132, mfI_0, mpI_0, mfN_1, mfI_2, mpI_2, mfI_3, mpI_3, mfI_4, mpI_4, mfI_5, mpI_5, mfI_6, mpI_6, mfI_7, mpI_7, mfI_8, mpI_8, mfI_9, mpI_9, mfI_10, mpI_10, mfI_11, mpI_11, mfN_12, mfZ_13, mpZ_13, mfZ_14, mpZ_14, mfN_15, mfN_16, mfN_17, mfN_18, mfN_19, mfN_20, mfI_21, mpI_21, mfI_22, mpI_22, mfN_23, mfN_24, mfN_25, mfN_26, mfN_27, mfN_28, mfN_29, mfI_30, mpI_30, mfN_31, mfN_32, mfN_33, mfN_34, mfN_35, mfN_36, mfN_37, mfI_38, mpI_38, mfN_39, mfI_40, mpI_40, mfI_41, mpI_41, mgI_1 hA, msI_1 hA, mgI_12 hA, msI_12 hA, mgI_15 hA, msI_15 hA, mgI_16 hA, msI_16 hA, mgI_17 hA, msI_17 hA, mgI_18 hA, msI_18 hA, mgI_19 hA, msI_19 hA, mgI_20 hA, msI_20 hA, mgI_23 hA, msI_23 hA, mgI_24 hA, msI_24 hA, mgI_25 hA, msI_25 hA, mgI_26 hA, msI_26 hA, mgI_27 hA, msI_27 hA, mgI_28 hA, msI_28 hA, mgI_29 hA, msI_29 hA, mgI_31 hA, msI_31 hA, mgI_32 hA, msI_32 hA, mgI_33 hA, msI_33 hA, mgI_34 hA, msI_34 hA, mgI_35 hA, msI_35 hA, mgI_36 hA, msI_36 hA, mgI_39 hA, msI_39 hA, mgJ hA, msJ hA, ms_i, ms_i2, ms_b1, ms_b, ms_b2, ms_a1, ms_a2, ms_a, ms_a3, ms_j1, ms_j2, ms_j3, ms_j, ↓reduceIte, Nat.reduceEqDiff, hcl, up_eq]
    have := hK _ (h1.tr b) a
    rw [← h3] at this
    exact ⟨hin, hin, this⟩
  have hz : ∀ r k S' (b : Option Nat), k + r = L.length → Gm [] S S' → GS T L S' → (∀ x, b = some x → x ≤ 14) → (((kds T L tk who k).filter fun c => !wH (vl T L tk who) || !wH c).foldl (fun b c => bst (wH (vl T L tk who)) b (1 + wN c)) b).getD 0 = wN (vl T L tk who) → Z_X12_soonestFrom_27 l G (d + n + 6) K (r + 1) m (nI (sd tk who)) (wH (vl T L tk who)) (optI b) (nI k) (mh m A S' ρ) := by
    intro r
    induction r with
    | zero =>
      intro k S' b hk h1 h2 hb h3
      simp only [Z_X12_soonestFrom_27, F_X12_soonestFrom_27, mfI_0, mpI_0, mfN_1, mfI_2, mpI_2, mfI_3, mpI_3, mfI_4, mpI_4, mfI_5, mpI_5, mfI_6, mpI_6, mfI_7, mpI_7, mfI_8, mpI_8, mfI_9, mpI_9, mfI_10, mpI_10, mfI_11, mpI_11, mfN_12, mfZ_13, mpZ_13, mfZ_14, mpZ_14, mfN_15, mfN_16, mfN_17, mfN_18, mfN_19, mfN_20, mfI_21, mpI_21, mfI_22, mpI_22, mfN_23, mfN_24, mfN_25, mfN_26, mfN_27, mfN_28, mfN_29, mfI_30, mpI_30, mfN_31, mfN_32, mfN_33, mfN_34, mfN_35, mfN_36, mfN_37, mfI_38, mpI_38, mfN_39, mfI_40, mpI_40, mfI_41, mpI_41, mgI_1 hA, msI_1 hA, mgI_12 hA, msI_12 hA, mgI_15 hA, msI_15 hA, mgI_16 hA, msI_16 hA, mgI_17 hA, msI_17 hA, mgI_18 hA, msI_18 hA, mgI_19 hA, msI_19 hA, mgI_20 hA, msI_20 hA, mgI_23 hA, msI_23 hA, mgI_24 hA, msI_24 hA, mgI_25 hA, msI_25 hA, mgI_26 hA, msI_26 hA, mgI_27 hA, msI_27 hA, mgI_28 hA, msI_28 hA, mgI_29 hA, msI_29 hA, mgI_31 hA, msI_31 hA, mgI_32 hA, msI_32 hA, mgI_33 hA, msI_33 hA, mgI_34 hA, msI_34 hA, mgI_35 hA, msI_35 hA, mgI_36 hA, msI_36 hA, mgI_39 hA, msI_39 hA, mgJ hA, msJ hA, h2.2.1.2.1]
      rw [nt_le (by omega) (by omega)]
      rw [kds_end (by omega), List.filter_nil, List.foldl_nil] at h3
      refine ⟨fun _ => ⟨fun h4 => ?_, fun h4 => ?_⟩, fun hc => absurd (by omega) hc⟩
      · cases b with
        | none => exact absurd h4 (by decide)
        | some x => exact h132 S' _ h1 h2 (by rw [← h3]; rfl)
      · cases b with
        | none => exact h132 S' _ h1 h2 (by rw [← h3]; rfl)
        | some x => exact absurd (fa_of_nlt (nt_neg (by have := hb x rfl; omega))) h4
    | succ r ih =>
      intro k S' b hk h1 h2 hb h3
      obtain ⟨e, he⟩ : ∃ e, L[k]? = some e := ⟨_, List.getElem?_eq_getElem (by omega)⟩
      obtain ⟨p, hp⟩ := (hV k e he).1
      have e1 : nI k + 1 = nI (k + 1) := nt_add k 1
      have h67 : ∀ S', Gm [] S S' → GS T L S' → myE T e tk who = true → (!wH (vl T L tk who) || !wH (vl T L (tk ||| eS e) (1 - who))) = true → F_X12_soonestFrom_67 l G (d + n + 6) (Z_X12_soonestFrom_27 l G (d + n + 6) K (r + 1)) m (nI (sd tk who)) (wH (vl T L tk who)) (optI b) (nI k) (mh m A S' ρ) K := by
        intro S' h1 h2 hm h5
        rw [kds_t he hm, List.filter_cons, if_pos h5, List.foldl_cons] at h3
        obtain ⟨q1, q2⟩ := kid_at hV he hm htk
        have q3 := (kids_bd hV (kid_in hV he hm)).1
        simp only [F_X12_soonestFrom_67, F_X12_soonestFrom_105, F_X12_soonestFrom_110, F_X12_soonestFrom_111, F_X12_soonestFrom_112, e1]
        refine s_X12_behind (d := d + n + 5) hA h2.2.1 hV he htk hwho ?_
        refine IH S' _ _ _ q1 q2 (by omega) h2 fun S'' h6 h7 => ?_
        rw [show (1 : Int32) + nI (wN (vl T L (tk ||| eS e) (1 - who))) = nI (1 + wN (vl T L (tk ||| eS e) (1 - who))) from nt_add 1 _]
        have hrec := ih (k + 1) S'' _ (by omega) (h1.tr h6) h7 (bst_le hb (by omega)) h3
        cases b with
        | none => exact ⟨fun _ => hrec, fun h8 => absurd (by decide) h8⟩
        | some x =>
          have hx := hb x rfl
          refine ⟨fun h8 => absurd h8 (nt_neg (show x < 2 ^ 31 by omega)), fun _ => ⟨fun h8 => ?_, fun h8 => ?_⟩⟩
          · rw [h8] at hrec ⊢
            simp only [bst, Bool.false_eq_true, if_false, decide_eq_true_eq] at hrec
            simp only [optI]
            rw [nt_le (by omega) (by omega)]
            refine ⟨fun h9 => ?_, fun h9 => ?_⟩
            · rw [if_neg (by omega)] at hrec; exact hrec
            · rw [if_pos (by omega)] at hrec; exact hrec
          · rw [h8] at hrec ⊢
            simp only [bst, if_true, decide_eq_true_eq] at hrec
            simp only [optI]
            rw [nt_le (by omega) (by omega)]
            refine ⟨fun h9 => ?_, fun h9 => ?_⟩
            · rw [if_neg (by omega)] at hrec; exact hrec
            · rw [if_pos (by omega)] at hrec; exact hrec
      rw [show r + 1 + 1 = (r + 1) + 1 from rfl, Z_X12_soonestFrom_27]
      simp only [F_X12_soonestFrom_27, F_X12_soonestFrom_112, mfI_0, mpI_0, mfN_1, mfI_2, mpI_2, mfI_3, mpI_3, mfI_4, mpI_4, mfI_5, mpI_5, mfI_6, mpI_6, mfI_7, mpI_7, mfI_8, mpI_8, mfI_9, mpI_9, mfI_10, mpI_10, mfI_11, mpI_11, mfN_12, mfZ_13, mpZ_13, mfZ_14, mpZ_14, mfN_15, mfN_16, mfN_17, mfN_18, mfN_19, mfN_20, mfI_21, mpI_21, mfI_22, mpI_22, mfN_23, mfN_24, mfN_25, mfN_26, mfN_27, mfN_28, mfN_29, mfI_30, mpI_30, mfN_31, mfN_32, mfN_33, mfN_34, mfN_35, mfN_36, mfN_37, mfI_38, mpI_38, mfN_39, mfI_40, mpI_40, mfI_41, mpI_41, h2.2.1.2.1, e1]
      rw [nt_le (by omega) (by omega)]
      refine ⟨fun hc => by omega, fun _ => ?_⟩
      refine s_X12_mayBe (d := d + n + 3) hA h2.1 hW h2.2.1 he hp htk hwho ?_
      refine ⟨fun hm => ?_, fun hm => ⟨fun h5 => ?_, fun h5 => ?_⟩⟩
      · rw [kds_f he hm] at h3
        exact ih (k + 1) S' b (by omega) h1 h2 hb h3
      · exact h67 S' h1 h2 hm (by rw [h5]; rfl)
      · obtain ⟨q1, q2⟩ := kid_at hV he hm htk
        refine s_X12_behind (d := d + n + 5) hA h2.2.1 hV he htk hwho ?_
        refine s_X12_hasIt hA hW hV n (d := d) (by omega) q2 (by omega) h2 fun S'' h6 h7 => ?_
        refine ⟨fun h8 => h67 S'' (h1.tr h6) h7 hm (by rw [h8, Bool.not_false, Bool.or_true]), fun h8 => ?_⟩
        rw [kds_t he hm, List.filter_cons, if_neg (by rw [h5, h8]; decide)] at h3
        exact ih (k + 1) S'' b (by omega) (h1.tr h6) h7 hb h3
  refine m_X12_soonestFrom rv_m ?_
  have hmem := hS.2.2.1 32 (by decide) (by decide) tk who htk hwho
  simp only [F_X12_soonestFrom, mfI_0, mpI_0, mfN_1, mfI_2, mpI_2, mfI_3, mpI_3, mfI_4, mpI_4, mfI_5, mpI_5, mfI_6, mpI_6, mfI_7, mpI_7, mfI_8, mpI_8, mfI_9, mpI_9, mfI_10, mpI_10, mfI_11, mpI_11, mfN_12, mfZ_13, mpZ_13, mfZ_14, mpZ_14, mfN_15, mfN_16, mfN_17, mfN_18, mfN_19, mfN_20, mfI_21, mpI_21, mfI_22, mpI_22, mfN_23, mfN_24, mfN_25, mfN_26, mfN_27, mfN_28, mfN_29, mfI_30, mpI_30, mfN_31, mfN_32, mfN_33, mfN_34, mfN_35, mfN_36, mfN_37, mfI_38, mpI_38, mfN_39, mfI_40, mpI_40, mfI_41, mpI_41, mgI_1 hA, msI_1 hA, mgI_12 hA, msI_12 hA, mgI_15 hA, msI_15 hA, mgI_16 hA, msI_16 hA, mgI_17 hA, msI_17 hA, mgI_18 hA, msI_18 hA, mgI_19 hA, msI_19 hA, mgI_20 hA, msI_20 hA, mgI_23 hA, msI_23 hA, mgI_24 hA, msI_24 hA, mgI_25 hA, msI_25 hA, mgI_26 hA, msI_26 hA, mgI_27 hA, msI_27 hA, mgI_28 hA, msI_28 hA, mgI_29 hA, msI_29 hA, mgI_31 hA, msI_31 hA, mgI_32 hA, msI_32 hA, mgI_33 hA, msI_33 hA, mgI_34 hA, msI_34 hA, mgI_35 hA, msI_35 hA, mgI_36 hA, msI_36 hA, mgI_39 hA, msI_39 hA, mgJ hA, msJ hA, hcl]
  have hv : wN (vl T L tk who) = sooS (kids T L tk who) := by rw [vl_eq hV]; rfl
  have hh : wH (vl T L tk who) = hasS T.1.2.1 (kids T L tk who) := by rw [vl_eq hV]; rfl
  refine ⟨hin, fun h1 => ?_, fun h1 => ⟨hin, ?_⟩⟩
  · refine s_X12_hasIt hA hW hV n (d := d) hn htk hwho hS fun S' h2 h3 => ?_
    refine ⟨L.length + 1, hz L.length 0 S' none (by omega) h2 h3 (fun x hx => by cases hx) ?_⟩
    rw [kds_0, hh, soo_m, hv]
  · rcases hmem with h2 | h2
    · rw [h2] at h1; exact absurd (by decide) h1
    · rw [h2]
      exact hK S Gm.rf hS
theorem s_X12_soonestFrom (hA : okA m A) (hW : WFT T) (hV : VL T L) : ∀ n {d : Nat} {S : MS} {tk who : Nat}, fr tk ≤ n → tk < 16384 → who < 2 → GS T L S → ∀ {K : Int32 → Hp → Prop}, (∀ S', Gm [] S S' → GS T L S' → K (nI (wN (vl T L tk who))) (mh m A S' ρ)) → C_X12_soonestFrom l G (d + n + 7) m (nI (sd tk who)) (mh m A S ρ) K := by
  intro n
  induction n with
  | zero =>
    intro d S tk who hn htk hwho hS K hK
    exact soonestFrom_step hA hW hV hn htk hwho (fun S' tk' who' K' h1 => absurd h1 (by omega)) hS hK
  | succ n ih =>
    intro d S tk who hn htk hwho hS K hK
    exact soonestFrom_step hA hW hV hn htk hwho (fun S' tk' who' K' h1 h2 h3 h4 h5 => by
      have := ih (d := d) (S := S') (tk := tk') (who := who') (by omega) h2 h3 h4 h5
      exact this) hS hK
theorem fewestFrom_step (hA : okA m A) (hW : WFT T) (hV : VL T L) {D tk who : Nat} (htk : tk < 16384) (hwho : who < 2) (IH : ∀ (S' : MS) tk' who' (K' : Int32 → Hp → Prop), fr tk' < fr tk → tk' < 16384 → who' < 2 → GS T L S' → (∀ S'', Gm [] S' S'' → GS T L S'' → K' (nI (wF (vl T L tk' who'))) (mh m A S'' ρ)) → C_X12_fewestFrom l G (D + 3) m (nI (sd tk' who')) (mh m A S' ρ) K') (hS : GS T L S) {K : Int32 → Hp → Prop} (hK : ∀ S', Gm [] S S' → GS T L S' → K (nI (wF (vl T L tk who))) (mh m A S' ρ)) : C_X12_fewestFrom l G (D + 4) m (nI (sd tk who)) (mh m A S ρ) K := by
  have hsd := sd_lt htk hwho
  have h224 := hS.2.1.1
  have hin : vp_in (nI (sd tk who)) 32768 := (nt_in (by omega)).mpr hsd
  have hcl : (nI (sd tk who)).toNatClampNeg = sd tk who := nI_clamp (by omega)
  have h91 : ∀ S' x, Gm [] S S' → GS T L S' → x = nI (wF (vl T L tk who)) → F_X12_fewestFrom_91 l G (D + 3) m (nI (sd tk who)) (A 33) (nI (sd tk who)) x (mh m A S' ρ) K := by
    intro S' x h1 h2 h3
    obtain ⟨a, b⟩ := h2.up (k := 33) (by decide) htk (who := who) (x := x) (by rw [h3]; rfl)
    simp only [F_X12_fewestFrom_91, mfI_0, mpI_0, mfN_1, mfI_2, mpI_2, mfI_3, mpI_3, mfI_4, mpI_4, mfI_5, mpI_5, mfI_6, mpI_6, mfI_7, mpI_7, mfI_8, mpI_8, mfI_9, mpI_9, mfI_10, mpI_10, mfI_11, mpI_11, mfN_12, mfZ_13, mpZ_13, mfZ_14, mpZ_14, mfN_15, mfN_16, mfN_17, mfN_18, mfN_19, mfN_20, mfI_21, mpI_21, mfI_22, mpI_22, mfN_23, mfN_24, mfN_25, mfN_26, mfN_27, mfN_28, mfN_29, mfI_30, mpI_30, mfN_31, mfN_32, mfN_33, mfN_34, mfN_35, mfN_36, mfN_37, mfI_38, mpI_38, mfN_39, mfI_40, mpI_40, mfI_41, mpI_41, mgI_1 hA, msI_1 hA, mgI_12 hA, msI_12 hA, mgI_15 hA, msI_15 hA, mgI_16 hA, msI_16 hA, mgI_17 hA, msI_17 hA, mgI_18 hA, msI_18 hA, mgI_19 hA, msI_19 hA, mgI_20 hA, msI_20 hA, mgI_23 hA, msI_23 hA, mgI_24 hA, msI_24 hA, mgI_25 hA, msI_25 hA, mgI_26 hA, msI_26 hA, mgI_27 hA, msI_27 hA, mgI_28 hA, msI_28 hA, mgI_29 hA, msI_29 hA, mgI_31 hA, msI_31 hA, mgI_32 hA, msI_32 hA, mgI_33 hA, msI_33 hA, mgI_34 hA, msI_34 hA, mgI_35 hA, msI_35 hA, mgI_36 hA, msI_36 hA, mgI_39 hA, msI_39 hA, mgJ hA, msJ hA, ms_i, ms_i2, ms_b1, ms_b, ms_b2, ms_a1, ms_a2, ms_a, ms_a3, ms_j1, ms_j2, ms_j3, ms_j, ↓reduceIte, Nat.reduceEqDiff, hcl, up_eq]
    have := hK _ (h1.tr b) a
    rw [← h3] at this
    exact ⟨hin, hin, this⟩
  have hz : ∀ r k S' (b : Option Nat), k + r = L.length → Gm [] S S' → GS T L S' → (∀ x, b = some x → x ≤ 14) → ((kds T L tk who k).foldl (fun b c => bst true b (1 + wF c)) b).getD 0 = wF (vl T L tk who) → Z_X12_fewestFrom_20 l G (D + 3) K (r + 1) m (nI (sd tk who)) (optI b) (nI k) (mh m A S' ρ) := by
    intro r
    induction r with
    | zero =>
      intro k S' b hk h1 h2 hb h3
      simp only [Z_X12_fewestFrom_20, F_X12_fewestFrom_20, mfI_0, mpI_0, mfN_1, mfI_2, mpI_2, mfI_3, mpI_3, mfI_4, mpI_4, mfI_5, mpI_5, mfI_6, mpI_6, mfI_7, mpI_7, mfI_8, mpI_8, mfI_9, mpI_9, mfI_10, mpI_10, mfI_11, mpI_11, mfN_12, mfZ_13, mpZ_13, mfZ_14, mpZ_14, mfN_15, mfN_16, mfN_17, mfN_18, mfN_19, mfN_20, mfI_21, mpI_21, mfI_22, mpI_22, mfN_23, mfN_24, mfN_25, mfN_26, mfN_27, mfN_28, mfN_29, mfI_30, mpI_30, mfN_31, mfN_32, mfN_33, mfN_34, mfN_35, mfN_36, mfN_37, mfI_38, mpI_38, mfN_39, mfI_40, mpI_40, mfI_41, mpI_41, mgI_1 hA, msI_1 hA, mgI_12 hA, msI_12 hA, mgI_15 hA, msI_15 hA, mgI_16 hA, msI_16 hA, mgI_17 hA, msI_17 hA, mgI_18 hA, msI_18 hA, mgI_19 hA, msI_19 hA, mgI_20 hA, msI_20 hA, mgI_23 hA, msI_23 hA, mgI_24 hA, msI_24 hA, mgI_25 hA, msI_25 hA, mgI_26 hA, msI_26 hA, mgI_27 hA, msI_27 hA, mgI_28 hA, msI_28 hA, mgI_29 hA, msI_29 hA, mgI_31 hA, msI_31 hA, mgI_32 hA, msI_32 hA, mgI_33 hA, msI_33 hA, mgI_34 hA, msI_34 hA, mgI_35 hA, msI_35 hA, mgI_36 hA, msI_36 hA, mgI_39 hA, msI_39 hA, mgJ hA, msJ hA, h2.2.1.2.1]
      rw [nt_le (by omega) (by omega)]
      rw [kds_end (by omega), List.foldl_nil] at h3
      refine ⟨fun _ => ⟨fun h4 => ?_, fun h4 => ?_⟩, fun hc => absurd (by omega) hc⟩
      · cases b with
        | none => exact absurd h4 (by decide)
        | some x => exact h91 S' _ h1 h2 (by rw [← h3]; rfl)
      · cases b with
        | none => exact h91 S' _ h1 h2 (by rw [← h3]; rfl)
        | some x => exact absurd (fa_of_nlt (nt_neg (by have := hb x rfl; omega))) h4
    | succ r ih =>
      intro k S' b hk h1 h2 hb h3
      obtain ⟨e, he⟩ : ∃ e, L[k]? = some e := ⟨_, List.getElem?_eq_getElem (by omega)⟩
      obtain ⟨p, hp⟩ := (hV k e he).1
      have e1 : nI k + 1 = nI (k + 1) := nt_add k 1
      rw [show r + 1 + 1 = (r + 1) + 1 from rfl, Z_X12_fewestFrom_20]
      simp only [F_X12_fewestFrom_20, F_X12_fewestFrom_64, F_X12_fewestFrom_70, F_X12_fewestFrom_71, mfI_0, mpI_0, mfN_1, mfI_2, mpI_2, mfI_3, mpI_3, mfI_4, mpI_4, mfI_5, mpI_5, mfI_6, mpI_6, mfI_7, mpI_7, mfI_8, mpI_8, mfI_9, mpI_9, mfI_10, mpI_10, mfI_11, mpI_11, mfN_12, mfZ_13, mpZ_13, mfZ_14, mpZ_14, mfN_15, mfN_16, mfN_17, mfN_18, mfN_19, mfN_20, mfI_21, mpI_21, mfI_22, mpI_22, mfN_23, mfN_24, mfN_25, mfN_26, mfN_27, mfN_28, mfN_29, mfI_30, mpI_30, mfN_31, mfN_32, mfN_33, mfN_34, mfN_35, mfN_36, mfN_37, mfI_38, mpI_38, mfN_39, mfI_40, mpI_40, mfI_41, mpI_41, h2.2.1.2.1, e1]
      rw [nt_le (by omega) (by omega)]
      refine ⟨fun hc => by omega, fun _ => ?_⟩
      refine s_X12_mayBe (d := D) hA h2.1 hW h2.2.1 he hp htk hwho ?_
      refine ⟨fun hm => ?_, fun hm => ?_⟩
      · obtain ⟨q1, q2⟩ := kid_at hV he hm htk
        have q3 := (kids_bd hV (kid_in hV he hm)).2.1
        rw [kds_t he hm, List.foldl_cons] at h3
        refine s_X12_behind (d := D + 2) hA h2.2.1 hV he htk hwho ?_
        refine IH S' _ _ _ q1 q2 (by omega) h2 fun S'' h6 h7 => ?_
        rw [show (1 : Int32) + nI (wF (vl T L (tk ||| eS e) (1 - who))) = nI (1 + wF (vl T L (tk ||| eS e) (1 - who))) from nt_add 1 _]
        have hrec := ih (k + 1) S'' _ (by omega) (h1.tr h6) h7 (bst_le hb (by omega)) h3
        cases b with
        | none => exact ⟨fun _ => hrec, fun h8 => absurd (by decide) h8⟩
        | some x =>
          have hx := hb x rfl
          simp only [bst, if_true, decide_eq_true_eq] at hrec
          simp only [optI]
          rw [nt_le (by omega) (by omega)]
          refine ⟨fun h8 => absurd h8 (nt_neg (show x < 2 ^ 31 by omega)), fun _ => ⟨fun h9 => ?_, fun h9 => ?_⟩⟩
          · rw [if_neg (by omega)] at hrec; exact hrec
          · rw [if_pos (by omega)] at hrec; exact hrec
      · rw [kds_f he hm] at h3
        exact ih (k + 1) S' b (by omega) h1 h2 hb h3
  refine m_X12_fewestFrom rv_m ?_
  have hmem := hS.2.2.1 33 (by decide) (by decide) tk who htk hwho
  simp only [F_X12_fewestFrom, mfI_0, mpI_0, mfN_1, mfI_2, mpI_2, mfI_3, mpI_3, mfI_4, mpI_4, mfI_5, mpI_5, mfI_6, mpI_6, mfI_7, mpI_7, mfI_8, mpI_8, mfI_9, mpI_9, mfI_10, mpI_10, mfI_11, mpI_11, mfN_12, mfZ_13, mpZ_13, mfZ_14, mpZ_14, mfN_15, mfN_16, mfN_17, mfN_18, mfN_19, mfN_20, mfI_21, mpI_21, mfI_22, mpI_22, mfN_23, mfN_24, mfN_25, mfN_26, mfN_27, mfN_28, mfN_29, mfI_30, mpI_30, mfN_31, mfN_32, mfN_33, mfN_34, mfN_35, mfN_36, mfN_37, mfI_38, mpI_38, mfN_39, mfI_40, mpI_40, mfI_41, mpI_41, mgI_1 hA, msI_1 hA, mgI_12 hA, msI_12 hA, mgI_15 hA, msI_15 hA, mgI_16 hA, msI_16 hA, mgI_17 hA, msI_17 hA, mgI_18 hA, msI_18 hA, mgI_19 hA, msI_19 hA, mgI_20 hA, msI_20 hA, mgI_23 hA, msI_23 hA, mgI_24 hA, msI_24 hA, mgI_25 hA, msI_25 hA, mgI_26 hA, msI_26 hA, mgI_27 hA, msI_27 hA, mgI_28 hA, msI_28 hA, mgI_29 hA, msI_29 hA, mgI_31 hA, msI_31 hA, mgI_32 hA, msI_32 hA, mgI_33 hA, msI_33 hA, mgI_34 hA, msI_34 hA, mgI_35 hA, msI_35 hA, mgI_36 hA, msI_36 hA, mgI_39 hA, msI_39 hA, mgJ hA, msJ hA, hcl]
  have hv : wF (vl T L tk who) = fewS (kids T L tk who) := by rw [vl_eq hV]; rfl
  refine ⟨hin, fun h1 => ?_, fun h1 => ⟨hin, ?_⟩⟩
  · refine ⟨L.length + 1, hz L.length 0 S none (by omega) Gm.rf hS (fun x hx => by cases hx) ?_⟩
    rw [kds_0, hv, few_m fun c hc => (kids_bd hV hc).2.1]
  · rcases hmem with h2 | h2
    · rw [h2] at h1; exact absurd (by decide) h1
    · rw [h2]
      exact hK S Gm.rf hS
theorem s_X12_fewestFrom (hA : okA m A) (hW : WFT T) (hV : VL T L) : ∀ n {d : Nat} {S : MS} {tk who : Nat}, fr tk ≤ n → tk < 16384 → who < 2 → GS T L S → ∀ {K : Int32 → Hp → Prop}, (∀ S', Gm [] S S' → GS T L S' → K (nI (wF (vl T L tk who))) (mh m A S' ρ)) → C_X12_fewestFrom l G (d + n + 4) m (nI (sd tk who)) (mh m A S ρ) K := by
  intro n
  induction n with
  | zero =>
    intro d S tk who hn htk hwho hS K hK
    exact fewestFrom_step (D := d) hA hW hV htk hwho (fun S' tk' who' K' h1 => absurd h1 (by omega)) hS hK
  | succ n ih =>
    intro d S tk who hn htk hwho hS K hK
    exact fewestFrom_step (D := d + (n + 1)) hA hW hV htk hwho (fun S' tk' who' K' h1 h2 h3 h4 h5 => by
      have := ih (d := d) (S := S') (tk := tk') (who := who') (by omega) h2 h3 h4 h5
      exact this) hS hK
theorem mostFrom_step (hA : okA m A) (hW : WFT T) (hV : VL T L) {D tk who : Nat} (htk : tk < 16384) (hwho : who < 2) (IH : ∀ (S' : MS) tk' who' (K' : Int32 → Hp → Prop), fr tk' < fr tk → tk' < 16384 → who' < 2 → GS T L S' → (∀ S'', Gm [] S' S'' → GS T L S'' → K' (nI (wM (vl T L tk' who'))) (mh m A S'' ρ)) → C_X12_mostFrom l G (D + 3) m (nI (sd tk' who')) (mh m A S' ρ) K') (hS : GS T L S) {K : Int32 → Hp → Prop} (hK : ∀ S', Gm [] S S' → GS T L S' → K (nI (wM (vl T L tk who))) (mh m A S' ρ)) : C_X12_mostFrom l G (D + 4) m (nI (sd tk who)) (mh m A S ρ) K := by
  have hsd := sd_lt htk hwho
  have h224 := hS.2.1.1
  have hin : vp_in (nI (sd tk who)) 32768 := (nt_in (by omega)).mpr hsd
  have hcl : (nI (sd tk who)).toNatClampNeg = sd tk who := nI_clamp (by omega)
  have hz : ∀ r k S' (b : Nat), k + r = L.length → Gm [] S S' → GS T L S' → b ≤ 14 → (kds T L tk who k).foldl (fun a c => max a (wM c + 1)) b = wM (vl T L tk who) → Z_X12_mostFrom_20 l G (D + 3) K (r + 1) m (nI (sd tk who)) (nI b) (nI k) (mh m A S' ρ) := by
    intro r
    induction r with
    | zero =>
      intro k S' b hk h1 h2 hb h3
      rw [kds_end (by omega), List.foldl_nil] at h3
      subst h3
      obtain ⟨a, b⟩ := h2.up (k := 34) (by decide) htk (who := who) (x := nI (wM (vl T L tk who))) rfl
      simp only [Z_X12_mostFrom_20, F_X12_mostFrom_20, mfI_0, mpI_0, mfN_1, mfI_2, mpI_2, mfI_3, mpI_3, mfI_4, mpI_4, mfI_5, mpI_5, mfI_6, mpI_6, mfI_7, mpI_7, mfI_8, mpI_8, mfI_9, mpI_9, mfI_10, mpI_10, mfI_11, mpI_11, mfN_12, mfZ_13, mpZ_13, mfZ_14, mpZ_14, mfN_15, mfN_16, mfN_17, mfN_18, mfN_19, mfN_20, mfI_21, mpI_21, mfI_22, mpI_22, mfN_23, mfN_24, mfN_25, mfN_26, mfN_27, mfN_28, mfN_29, mfI_30, mpI_30, mfN_31, mfN_32, mfN_33, mfN_34, mfN_35, mfN_36, mfN_37, mfI_38, mpI_38, mfN_39, mfI_40, mpI_40, mfI_41, mpI_41, mgI_1 hA, msI_1 hA, mgI_12 hA, msI_12 hA, mgI_15 hA, msI_15 hA, mgI_16 hA, msI_16 hA, mgI_17 hA, msI_17 hA, mgI_18 hA, msI_18 hA, mgI_19 hA, msI_19 hA, mgI_20 hA, msI_20 hA, mgI_23 hA, msI_23 hA, mgI_24 hA, msI_24 hA, mgI_25 hA, msI_25 hA, mgI_26 hA, msI_26 hA, mgI_27 hA, msI_27 hA, mgI_28 hA, msI_28 hA, mgI_29 hA, msI_29 hA, mgI_31 hA, msI_31 hA, mgI_32 hA, msI_32 hA, mgI_33 hA, msI_33 hA, mgI_34 hA, msI_34 hA, mgI_35 hA, msI_35 hA, mgI_36 hA, msI_36 hA, mgI_39 hA, msI_39 hA, mgJ hA, msJ hA, h2.2.1.2.1, hcl]
      rw [nt_le (by omega) (by omega)]
      exact ⟨fun _ => ⟨hin, hK _ (h1.tr b) a⟩, fun hc => absurd (by omega) hc⟩
    | succ r ih =>
      intro k S' b hk h1 h2 hb h3
      obtain ⟨e, he⟩ : ∃ e, L[k]? = some e := ⟨_, List.getElem?_eq_getElem (by omega)⟩
      obtain ⟨p, hp⟩ := (hV k e he).1
      have e1 : nI k + 1 = nI (k + 1) := nt_add k 1
      rw [show r + 1 + 1 = (r + 1) + 1 from rfl, Z_X12_mostFrom_20]
      simp only [F_X12_mostFrom_20, F_X12_mostFrom_66, F_X12_mostFrom_67, mfI_0, mpI_0, mfN_1, mfI_2, mpI_2, mfI_3, mpI_3, mfI_4, mpI_4, mfI_5, mpI_5, mfI_6, mpI_6, mfI_7, mpI_7, mfI_8, mpI_8, mfI_9, mpI_9, mfI_10, mpI_10, mfI_11, mpI_11, mfN_12, mfZ_13, mpZ_13, mfZ_14, mpZ_14, mfN_15, mfN_16, mfN_17, mfN_18, mfN_19, mfN_20, mfI_21, mpI_21, mfI_22, mpI_22, mfN_23, mfN_24, mfN_25, mfN_26, mfN_27, mfN_28, mfN_29, mfI_30, mpI_30, mfN_31, mfN_32, mfN_33, mfN_34, mfN_35, mfN_36, mfN_37, mfI_38, mpI_38, mfN_39, mfI_40, mpI_40, mfI_41, mpI_41, h2.2.1.2.1, e1]
      rw [nt_le (by omega) (by omega)]
      refine ⟨fun hc => by omega, fun _ => ?_⟩
      refine s_X12_mayBe (d := D) hA h2.1 hW h2.2.1 he hp htk hwho ?_
      refine ⟨fun hm => ?_, fun hm => ?_⟩
      · obtain ⟨q1, q2⟩ := kid_at hV he hm htk
        have q3 := (kids_bd hV (kid_in hV he hm)).2.2.1
        rw [kds_t he hm, List.foldl_cons] at h3
        refine s_X12_behind (d := D + 2) hA h2.2.1 hV he htk hwho ?_
        refine IH S' _ _ _ q1 q2 (by omega) h2 fun S'' h6 h7 => ?_
        rw [show (1 : Int32) + nI (wM (vl T L (tk ||| eS e) (1 - who))) = nI (1 + wM (vl T L (tk ||| eS e) (1 - who))) from nt_add 1 _, nt_le (by omega) (by omega)]
        have hrec := ih (k + 1) S'' _ (by omega) (h1.tr h6) h7 (by omega) h3
        refine ⟨fun h9 => ?_, fun h9 => ?_⟩
        · rw [show max b (wM (vl T L (tk ||| eS e) (1 - who)) + 1) = b by omega] at hrec; exact hrec
        · rw [show max b (wM (vl T L (tk ||| eS e) (1 - who)) + 1) = 1 + wM (vl T L (tk ||| eS e) (1 - who)) by omega] at hrec; exact hrec
      · rw [kds_f he hm] at h3
        exact ih (k + 1) S' b (by omega) h1 h2 hb h3
  refine m_X12_mostFrom rv_m ?_
  have hmem := hS.2.2.1 34 (by decide) (by decide) tk who htk hwho
  simp only [F_X12_mostFrom, mfI_0, mpI_0, mfN_1, mfI_2, mpI_2, mfI_3, mpI_3, mfI_4, mpI_4, mfI_5, mpI_5, mfI_6, mpI_6, mfI_7, mpI_7, mfI_8, mpI_8, mfI_9, mpI_9, mfI_10, mpI_10, mfI_11, mpI_11, mfN_12, mfZ_13, mpZ_13, mfZ_14, mpZ_14, mfN_15, mfN_16, mfN_17, mfN_18, mfN_19, mfN_20, mfI_21, mpI_21, mfI_22, mpI_22, mfN_23, mfN_24, mfN_25, mfN_26, mfN_27, mfN_28, mfN_29, mfI_30, mpI_30, mfN_31, mfN_32, mfN_33, mfN_34, mfN_35, mfN_36, mfN_37, mfI_38, mpI_38, mfN_39, mfI_40, mpI_40, mfI_41, mpI_41, mgI_1 hA, msI_1 hA, mgI_12 hA, msI_12 hA, mgI_15 hA, msI_15 hA, mgI_16 hA, msI_16 hA, mgI_17 hA, msI_17 hA, mgI_18 hA, msI_18 hA, mgI_19 hA, msI_19 hA, mgI_20 hA, msI_20 hA, mgI_23 hA, msI_23 hA, mgI_24 hA, msI_24 hA, mgI_25 hA, msI_25 hA, mgI_26 hA, msI_26 hA, mgI_27 hA, msI_27 hA, mgI_28 hA, msI_28 hA, mgI_29 hA, msI_29 hA, mgI_31 hA, msI_31 hA, mgI_32 hA, msI_32 hA, mgI_33 hA, msI_33 hA, mgI_34 hA, msI_34 hA, mgI_35 hA, msI_35 hA, mgI_36 hA, msI_36 hA, mgI_39 hA, msI_39 hA, mgJ hA, msJ hA, hcl]
  have hv : wM (vl T L tk who) = mucS (kids T L tk who) := by rw [vl_eq hV]; rfl
  refine ⟨hin, fun h1 => ?_, fun h1 => ⟨hin, ?_⟩⟩
  · exact ⟨L.length + 1, hz L.length 0 S 0 (by omega) Gm.rf hS (by decide) (by rw [kds_0, hv]; rfl)⟩
  · rcases hmem with h2 | h2
    · rw [h2] at h1; exact absurd (by decide) h1
    · rw [h2]
      exact hK S Gm.rf hS
theorem s_X12_mostFrom (hA : okA m A) (hW : WFT T) (hV : VL T L) : ∀ n {d : Nat} {S : MS} {tk who : Nat}, fr tk ≤ n → tk < 16384 → who < 2 → GS T L S → ∀ {K : Int32 → Hp → Prop}, (∀ S', Gm [] S S' → GS T L S' → K (nI (wM (vl T L tk who))) (mh m A S' ρ)) → C_X12_mostFrom l G (d + n + 4) m (nI (sd tk who)) (mh m A S ρ) K := by
  intro n
  induction n with
  | zero =>
    intro d S tk who hn htk hwho hS K hK
    exact mostFrom_step (D := d) hA hW hV htk hwho (fun S' tk' who' K' h1 => absurd h1 (by omega)) hS hK
  | succ n ih =>
    intro d S tk who hn htk hwho hS K hK
    exact mostFrom_step (D := d + (n + 1)) hA hW hV htk hwho (fun S' tk' who' K' h1 h2 h3 h4 h5 => by
      have := ih (d := d) (S := S') (tk := tk') (who := who') (by omega) h2 h3 h4 h5
      exact this) hS hK
end SOON
