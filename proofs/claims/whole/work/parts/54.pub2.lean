/-! the model's public readings: spoils, dead, elbow, byAcross, layOf, open, half, heap -/
theorem an_bit (a b i : Nat) : (an a b).testBit i = (a.testBit i && !b.testBit i) := by
  unfold an
  rw [Nat.testBit_xor, Nat.testBit_and]
  cases a.testBit i <;> cases b.testBit i <;> rfl
theorem an_an (a b c : Nat) : an (an a b) c = an a (b ||| c) := by
  apply Nat.eq_of_testBit_eq
  intro i
  rw [an_bit, an_bit, an_bit, Nat.testBit_or]
  cases a.testBit i <;> cases b.testBit i <;> cases c.testBit i <;> rfl
theorem sd_or {tk who q : Nat} (htk : tk < 16384) (hq : q < 16384) (hwho : who < 2) : sd tk who ||| q = sd (tk ||| q) who := by
  have h1 : tk ||| q < 2 ^ 14 := Nat.or_lt_two_pow (n := 14) htk hq
  have e : ∀ a, a < 2 ^ 14 → a + 16384 = 2 ^ 14 ||| a := fun a ha => by
    rw [Nat.add_comm]
    have := Nat.two_pow_add_eq_or_of_lt ha 1
    simpa using this
  unfold sd
  rcases (show who = 0 ∨ who = 1 by omega) with rfl | rfl
  · rfl
  · rw [Nat.mul_one, e _ htk, e _ h1, Nat.or_assoc]
theorem MI.sm {Z : ST} {S S' : MS} (h : MI Z S) (hS : Sm [0, 38, 40, 41] [] [36, 39] S S') : MI Z S' := by
  obtain ⟨⟨a1, a2⟩, ⟨b1, b2, b3⟩, ⟨c1, c2⟩, e1, e2, f1, f2⟩ := h
  obtain ⟨g1, g2, g3, g4⟩ := hS
  refine ⟨⟨(g1 2 (by decide)).trans a1, fun j hj => by rw [g3 1 (by decide)]; exact a2 j hj⟩, ⟨(g1 9 (by decide)).trans b1, fun h4 => (g1 10 (by decide)).trans (b2 h4), (g1 11 (by decide)).trans b3⟩, ⟨(g1 21 (by decide)).trans c1, (g1 22 (by decide)).trans c2⟩, fun k u hu => by rw [g3 19 (by decide)]; exact e1 k u hu, fun k u hu => by rw [g3 20 (by decide)]; exact e2 k u hu, by rw [g2 14 (by decide)]; exact f1, fun T hT => ⟨(f2 T hT).1.cg (g1 30 (by decide)) (fun j a b _ _ _ _ _ => g3 j (by simp; omega)) g4, by rw [g3 17 (by decide)]; exact (f2 T hT).2⟩⟩
section PUB2
variable {l : Launch} {G : GG} {d m : Nat} {A : Nat → Nat} {S : MS} {ρ : Hp} {Z : ST} {T : TB} {L : List LY}
theorem z_spoils (hA : okA m A) (gS : GS T L S) (hW : WFT T) (hV : VL T L) {tk who i : Nat} {e : LY} (he : L[i]? = some e) (htk : tk < 16384) (hwho : who < 2) {K : Int32 → Hp → Prop} : ∀ r k c, k + r = L.length → c ≤ k → K (nI (c + ((L.drop k).filter fun o => frE T o tk && !frE T o (tk ||| eS e)).length)) (mh m A S ρ) → Z_X12_spoils_43 l G (d + 39) K (r + 1) m (nI i) (nI (sd tk who)) (nI c) (nI k) (mh m A S ρ) := by
  have h224 := gS.2.1.1
  have hi := (List.getElem?_eq_some_iff.mp he).1
  obtain ⟨-, -, -, -, -, i5, -⟩ := gS.2.1.2.2 i e he
  obtain ⟨-, -, u1, u2, -⟩ := hV i e he
  have hin : vp_in (nI i) 224 := (nt_in (by omega)).mpr (by omega)
  intro r
  induction r with
  | zero =>
    intro k c hk hc h
    simp only [Z_X12_spoils_43, F_X12_spoils_43, mfI_0, mpI_0, mfN_1, mfI_2, mpI_2, mfI_3, mpI_3, mfI_4, mpI_4, mfI_5, mpI_5, mfI_6, mpI_6, mfI_7, mpI_7, mfI_8, mpI_8, mfI_9, mpI_9, mfI_10, mpI_10, mfI_11, mpI_11, mfN_12, mfZ_13, mpZ_13, mfZ_14, mpZ_14, mfN_15, mfN_16, mfN_17, mfN_18, mfN_19, mfN_20, mfI_21, mpI_21, mfI_22, mpI_22, mfN_23, mfN_24, mfN_25, mfN_26, mfN_27, mfN_28, mfN_29, mfI_30, mpI_30, mfN_31, mfN_32, mfN_33, mfN_34, mfN_35, mfN_36, mfN_37, mfI_38, mpI_38, mfN_39, mfI_40, mpI_40, mfI_41, mpI_41, gS.2.1.2.1]
    rw [nt_le (by omega) (by omega)]
    rw [List.drop_eq_nil_of_le (by omega)] at h
    exact ⟨fun _ => h, fun hc => absurd (by omega) hc⟩
  | succ r ih =>
    intro k c hk hc h
    obtain ⟨o, ho⟩ : ∃ o, L[k]? = some o := ⟨_, List.getElem?_eq_getElem (by omega)⟩
    rw [drop_at ho, List.filter_cons] at h
    have e1 : nI k + 1 = nI (k + 1) := nt_add k 1
    have hno : (frE T o tk && !frE T o (tk ||| eS e)) = false → Z_X12_spoils_43 l G (d + 39) K (r + 1) m (nI i) (nI (sd tk who)) (nI c) (nI (k + 1)) (mh m A S ρ) := fun hf => ih (k + 1) c (by omega) (by omega) (by rwa [if_neg (by rw [hf]; decide)] at h)
    rw [show r + 1 + 1 = (r + 1) + 1 from rfl, Z_X12_spoils_43]
    simp only [F_X12_spoils_43, F_X12_spoils_98, F_X12_spoils_99, mfI_0, mpI_0, mfN_1, mfI_2, mpI_2, mfI_3, mpI_3, mfI_4, mpI_4, mfI_5, mpI_5, mfI_6, mpI_6, mfI_7, mpI_7, mfI_8, mpI_8, mfI_9, mpI_9, mfI_10, mpI_10, mfI_11, mpI_11, mfN_12, mfZ_13, mpZ_13, mfZ_14, mpZ_14, mfN_15, mfN_16, mfN_17, mfN_18, mfN_19, mfN_20, mfI_21, mpI_21, mfI_22, mpI_22, mfN_23, mfN_24, mfN_25, mfN_26, mfN_27, mfN_28, mfN_29, mfI_30, mpI_30, mfN_31, mfN_32, mfN_33, mfN_34, mfN_35, mfN_36, mfN_37, mfI_38, mpI_38, mfN_39, mfI_40, mpI_40, mfI_41, mpI_41, gS.2.1.2.1, e1]
    rw [nt_le (by omega) (by omega)]
    refine ⟨fun hc => by omega, fun _ => s_X12_takenOf htk hwho ?_⟩
    refine s_X12_isFree hA (Or.inl rfl) gS.1 gS.2.1 ho (by omega) ?_
    simp only [show nI c + bi false = nI c from (nt_add c 0), show nI c + bi true = nI (c + 1) from nt_add c 1, mfI_0, mpI_0, mfN_1, mfI_2, mpI_2, mfI_3, mpI_3, mfI_4, mpI_4, mfI_5, mpI_5, mfI_6, mpI_6, mfI_7, mpI_7, mfI_8, mpI_8, mfI_9, mpI_9, mfI_10, mpI_10, mfI_11, mpI_11, mfN_12, mfZ_13, mpZ_13, mfZ_14, mpZ_14, mfN_15, mfN_16, mfN_17, mfN_18, mfN_19, mfN_20, mfI_21, mpI_21, mfI_22, mpI_22, mfN_23, mfN_24, mfN_25, mfN_26, mfN_27, mfN_28, mfN_29, mfI_30, mpI_30, mfN_31, mfN_32, mfN_33, mfN_34, mfN_35, mfN_36, mfN_37, mfI_38, mpI_38, mfN_39, mfI_40, mpI_40, mfI_41, mpI_41]
    refine ⟨fun h1 => hno (by rw [h1]; rfl), fun h1 => s_X12_takenOf htk hwho ?_⟩
    simp only [mfI_0, mpI_0, mfN_1, mfI_2, mpI_2, mfI_3, mpI_3, mfI_4, mpI_4, mfI_5, mpI_5, mfI_6, mpI_6, mfI_7, mpI_7, mfI_8, mpI_8, mfI_9, mpI_9, mfI_10, mpI_10, mfI_11, mpI_11, mfN_12, mfZ_13, mpZ_13, mfZ_14, mpZ_14, mfN_15, mfN_16, mfN_17, mfN_18, mfN_19, mfN_20, mfI_21, mpI_21, mfI_22, mpI_22, mfN_23, mfN_24, mfN_25, mfN_26, mfN_27, mfN_28, mfN_29, mfI_30, mpI_30, mfN_31, mfN_32, mfN_33, mfN_34, mfN_35, mfN_36, mfN_37, mfI_38, mpI_38, mfN_39, mfI_40, mpI_40, mfI_41, mpI_41, mgI_1 hA, msI_1 hA, mgI_12 hA, msI_12 hA, mgI_15 hA, msI_15 hA, mgI_16 hA, msI_16 hA, mgI_17 hA, msI_17 hA, mgI_18 hA, msI_18 hA, mgI_19 hA, msI_19 hA, mgI_20 hA, msI_20 hA, mgI_23 hA, msI_23 hA, mgI_24 hA, msI_24 hA, mgI_25 hA, msI_25 hA, mgI_26 hA, msI_26 hA, mgI_27 hA, msI_27 hA, mgI_28 hA, msI_28 hA, mgI_29 hA, msI_29 hA, mgI_31 hA, msI_31 hA, mgI_32 hA, msI_32 hA, mgI_33 hA, msI_33 hA, mgI_34 hA, msI_34 hA, mgI_35 hA, msI_35 hA, mgI_36 hA, msI_36 hA, mgI_39 hA, msI_39 hA, mgJ hA, msJ hA, nI_clamp (show i < 2 ^ 31 by omega), i5, nt_or]
    refine ⟨hin, s_X12_isFree hA (Or.inl rfl) gS.1 gS.2.1 ho (Nat.lt_of_lt_of_le (Nat.or_lt_two_pow (n := 14) htk u2) (by decide)) ⟨fun h2 => hno (by rw [h1, h2]; rfl), fun h2 => ?_⟩⟩
    rw [if_pos (show (frE T o tk && !frE T o (tk ||| eS e)) = true by rw [h1, h2]; rfl), List.length_cons] at h
    exact ih (k + 1) (c + 1) (by omega) (by omega) (by rwa [show c + 1 + ((L.drop (k + 1)).filter fun o => frE T o tk && !frE T o (tk ||| eS e)).length = c + (((L.drop (k + 1)).filter fun o => frE T o tk && !frE T o (tk ||| eS e)).length + 1) by omega])
theorem z_dead (hA : okA m A) (gS : GS T L S) (hW : WFT T) (hV : VL T L) {tk M : Nat} (htk : tk < 16384) {K : Int32 → Hp → Prop} : ∀ r k b, k + r = L.length → K (nI (an M (orS ((L.drop k).filter fun e => frE T e tk) b))) (mh m A S ρ) → Z_X12_dead_52 l G (d + 39) K (r + 1) m (nI tk) (nI (an M b)) (nI k) (mh m A S ρ) := by
  have h224 := gS.2.1.1
  intro r
  induction r with
  | zero =>
    intro k b hk h
    simp only [Z_X12_dead_52, F_X12_dead_52, mfI_0, mpI_0, mfN_1, mfI_2, mpI_2, mfI_3, mpI_3, mfI_4, mpI_4, mfI_5, mpI_5, mfI_6, mpI_6, mfI_7, mpI_7, mfI_8, mpI_8, mfI_9, mpI_9, mfI_10, mpI_10, mfI_11, mpI_11, mfN_12, mfZ_13, mpZ_13, mfZ_14, mpZ_14, mfN_15, mfN_16, mfN_17, mfN_18, mfN_19, mfN_20, mfI_21, mpI_21, mfI_22, mpI_22, mfN_23, mfN_24, mfN_25, mfN_26, mfN_27, mfN_28, mfN_29, mfI_30, mpI_30, mfN_31, mfN_32, mfN_33, mfN_34, mfN_35, mfN_36, mfN_37, mfI_38, mpI_38, mfN_39, mfI_40, mpI_40, mfI_41, mpI_41, gS.2.1.2.1]
    rw [nt_le (by omega) (by omega)]
    rw [List.drop_eq_nil_of_le (by omega)] at h
    exact ⟨fun _ => h, fun hc => absurd (by omega) hc⟩
  | succ r ih =>
    intro k b hk h
    obtain ⟨o, ho⟩ : ∃ o, L[k]? = some o := ⟨_, List.getElem?_eq_getElem (by omega)⟩
    obtain ⟨-, -, -, -, -, i5, -⟩ := gS.2.1.2.2 k o ho
    rw [drop_at ho, List.filter_cons] at h
    have e1 : nI k + 1 = nI (k + 1) := nt_add k 1
    rw [show r + 1 + 1 = (r + 1) + 1 from rfl, Z_X12_dead_52]
    simp only [F_X12_dead_52, F_X12_dead_84, mfI_0, mpI_0, mfN_1, mfI_2, mpI_2, mfI_3, mpI_3, mfI_4, mpI_4, mfI_5, mpI_5, mfI_6, mpI_6, mfI_7, mpI_7, mfI_8, mpI_8, mfI_9, mpI_9, mfI_10, mpI_10, mfI_11, mpI_11, mfN_12, mfZ_13, mpZ_13, mfZ_14, mpZ_14, mfN_15, mfN_16, mfN_17, mfN_18, mfN_19, mfN_20, mfI_21, mpI_21, mfI_22, mpI_22, mfN_23, mfN_24, mfN_25, mfN_26, mfN_27, mfN_28, mfN_29, mfI_30, mpI_30, mfN_31, mfN_32, mfN_33, mfN_34, mfN_35, mfN_36, mfN_37, mfI_38, mpI_38, mfN_39, mfI_40, mpI_40, mfI_41, mpI_41, gS.2.1.2.1, e1]
    rw [nt_le (by omega) (by omega)]
    refine ⟨fun hc => by omega, fun _ => s_X12_isFree hA (Or.inl rfl) gS.1 gS.2.1 ho (by omega) ?_⟩
    simp only [mfI_0, mpI_0, mfN_1, mfI_2, mpI_2, mfI_3, mpI_3, mfI_4, mpI_4, mfI_5, mpI_5, mfI_6, mpI_6, mfI_7, mpI_7, mfI_8, mpI_8, mfI_9, mpI_9, mfI_10, mpI_10, mfI_11, mpI_11, mfN_12, mfZ_13, mpZ_13, mfZ_14, mpZ_14, mfN_15, mfN_16, mfN_17, mfN_18, mfN_19, mfN_20, mfI_21, mpI_21, mfI_22, mpI_22, mfN_23, mfN_24, mfN_25, mfN_26, mfN_27, mfN_28, mfN_29, mfI_30, mpI_30, mfN_31, mfN_32, mfN_33, mfN_34, mfN_35, mfN_36, mfN_37, mfI_38, mpI_38, mfN_39, mfI_40, mpI_40, mfI_41, mpI_41, mgI_1 hA, msI_1 hA, mgI_12 hA, msI_12 hA, mgI_15 hA, msI_15 hA, mgI_16 hA, msI_16 hA, mgI_17 hA, msI_17 hA, mgI_18 hA, msI_18 hA, mgI_19 hA, msI_19 hA, mgI_20 hA, msI_20 hA, mgI_23 hA, msI_23 hA, mgI_24 hA, msI_24 hA, mgI_25 hA, msI_25 hA, mgI_26 hA, msI_26 hA, mgI_27 hA, msI_27 hA, mgI_28 hA, msI_28 hA, mgI_29 hA, msI_29 hA, mgI_31 hA, msI_31 hA, mgI_32 hA, msI_32 hA, mgI_33 hA, msI_33 hA, mgI_34 hA, msI_34 hA, mgI_35 hA, msI_35 hA, mgI_36 hA, msI_36 hA, mgI_39 hA, msI_39 hA, mgJ hA, msJ hA, nI_clamp (show k < 2 ^ 31 by omega), i5, nt_an, an_an]
    refine ⟨fun h1 => ?_, fun h1 => ⟨(nt_in (by omega)).mpr (by omega), ?_⟩⟩
    · rw [if_neg (by rw [h1]; decide)] at h
      exact ih (k + 1) b (by omega) h
    · rw [if_pos h1] at h
      exact ih (k + 1) _ (by omega) h
theorem z_elbow (hA : okA m A) (hW : WFT T) (hV : VL T L) {tk who : Nat} (htk : tk < 16384) (hwho : who < 2) {R : Option Nat} {S0 : MS} {K : Int32 → Hp → Prop} (hK : ∀ S', Gm [] S0 S' → GS T L S' → K (optF R) (mh m A S' ρ)) : ∀ r k S', k + r = nsq T.2.1 → Gm [] S0 S' → GS T L S' → fst1 (fun q => !(tk ||| T.2.2.2).testBit q && (wH (vl T L (tk ||| 2 ^ q) who) != wH (vl T L tk who))) r k = R → Z_X12_elbow_24 l G (d + 39) K (r + 1) m (nI (sd tk who)) (nI k) (mh m A S' ρ) := by
  have h14 := hW.1.2.1
  have hj := tb_j hW
  intro r
  induction r with
  | zero =>
    intro k S' hk h1 h2 h3
    simp only [fst1] at h3
    subst h3
    simp only [Z_X12_elbow_24, F_X12_elbow_24, mfI_0, mpI_0, mfN_1, mfI_2, mpI_2, mfI_3, mpI_3, mfI_4, mpI_4, mfI_5, mpI_5, mfI_6, mpI_6, mfI_7, mpI_7, mfI_8, mpI_8, mfI_9, mpI_9, mfI_10, mpI_10, mfI_11, mpI_11, mfN_12, mfZ_13, mpZ_13, mfZ_14, mpZ_14, mfN_15, mfN_16, mfN_17, mfN_18, mfN_19, mfN_20, mfI_21, mpI_21, mfI_22, mpI_22, mfN_23, mfN_24, mfN_25, mfN_26, mfN_27, mfN_28, mfN_29, mfI_30, mpI_30, mfN_31, mfN_32, mfN_33, mfN_34, mfN_35, mfN_36, mfN_37, mfI_38, mpI_38, mfN_39, mfI_40, mpI_40, mfI_41, mpI_41, mgI_1 hA, msI_1 hA, mgI_12 hA, msI_12 hA, mgI_15 hA, msI_15 hA, mgI_16 hA, msI_16 hA, mgI_17 hA, msI_17 hA, mgI_18 hA, msI_18 hA, mgI_19 hA, msI_19 hA, mgI_20 hA, msI_20 hA, mgI_23 hA, msI_23 hA, mgI_24 hA, msI_24 hA, mgI_25 hA, msI_25 hA, mgI_26 hA, msI_26 hA, mgI_27 hA, msI_27 hA, mgI_28 hA, msI_28 hA, mgI_29 hA, msI_29 hA, mgI_31 hA, msI_31 hA, mgI_32 hA, msI_32 hA, mgI_33 hA, msI_33 hA, mgI_34 hA, msI_34 hA, mgI_35 hA, msI_35 hA, mgI_36 hA, msI_36 hA, mgI_39 hA, msI_39 hA, mgJ hA, msJ hA, show (5 : Int32).toNatClampNeg = 5 from rfl, h2.1.2.1.2.2]
    rw [nt_le (by omega) (by omega)]
    exact ⟨(vin 5 (by decide) (by decide)), fun _ => hK S' h1 h2, fun hc => absurd (by omega) hc⟩
  | succ r ih =>
    intro k S' hk h1 h2 h3
    simp only [fst1] at h3
    have e1 : nI k + 1 = nI (k + 1) := nt_add k 1
    have hp : 2 ^ k < 2 ^ 14 := Nat.pow_lt_pow_right (by decide) (by omega)
    rw [show r + 1 + 1 = (r + 1) + 1 from rfl, Z_X12_elbow_24]
    simp only [F_X12_elbow_24, F_X12_elbow_72, mfI_0, mpI_0, mfN_1, mfI_2, mpI_2, mfI_3, mpI_3, mfI_4, mpI_4, mfI_5, mpI_5, mfI_6, mpI_6, mfI_7, mpI_7, mfI_8, mpI_8, mfI_9, mpI_9, mfI_10, mpI_10, mfI_11, mpI_11, mfN_12, mfZ_13, mpZ_13, mfZ_14, mpZ_14, mfN_15, mfN_16, mfN_17, mfN_18, mfN_19, mfN_20, mfI_21, mpI_21, mfI_22, mpI_22, mfN_23, mfN_24, mfN_25, mfN_26, mfN_27, mfN_28, mfN_29, mfI_30, mpI_30, mfN_31, mfN_32, mfN_33, mfN_34, mfN_35, mfN_36, mfN_37, mfI_38, mpI_38, mfN_39, mfI_40, mpI_40, mfI_41, mpI_41, mgI_1 hA, msI_1 hA, mgI_12 hA, msI_12 hA, mgI_15 hA, msI_15 hA, mgI_16 hA, msI_16 hA, mgI_17 hA, msI_17 hA, mgI_18 hA, msI_18 hA, mgI_19 hA, msI_19 hA, mgI_20 hA, msI_20 hA, mgI_23 hA, msI_23 hA, mgI_24 hA, msI_24 hA, mgI_25 hA, msI_25 hA, mgI_26 hA, msI_26 hA, mgI_27 hA, msI_27 hA, mgI_28 hA, msI_28 hA, mgI_29 hA, msI_29 hA, mgI_31 hA, msI_31 hA, mgI_32 hA, msI_32 hA, mgI_33 hA, msI_33 hA, mgI_34 hA, msI_34 hA, mgI_35 hA, msI_35 hA, mgI_36 hA, msI_36 hA, mgI_39 hA, msI_39 hA, mgJ hA, msJ hA, show (5 : Int32).toNatClampNeg = 5 from rfl, h2.1.2.1.2.2, e1]
    rw [nt_le (by omega) (by omega)]
    refine ⟨(vin 5 (by decide) (by decide)), fun hc => by omega, fun _ => s_X12_takenOf htk hwho ?_⟩
    simp only [mfI_0, mpI_0, mfN_1, mfI_2, mpI_2, mfI_3, mpI_3, mfI_4, mpI_4, mfI_5, mpI_5, mfI_6, mpI_6, mfI_7, mpI_7, mfI_8, mpI_8, mfI_9, mpI_9, mfI_10, mpI_10, mfI_11, mpI_11, mfN_12, mfZ_13, mpZ_13, mfZ_14, mpZ_14, mfN_15, mfN_16, mfN_17, mfN_18, mfN_19, mfN_20, mfI_21, mpI_21, mfI_22, mpI_22, mfN_23, mfN_24, mfN_25, mfN_26, mfN_27, mfN_28, mfN_29, mfI_30, mpI_30, mfN_31, mfN_32, mfN_33, mfN_34, mfN_35, mfN_36, mfN_37, mfI_38, mpI_38, mfN_39, mfI_40, mpI_40, mfI_41, mpI_41, mgI_1 hA, msI_1 hA, mgI_12 hA, msI_12 hA, mgI_15 hA, msI_15 hA, mgI_16 hA, msI_16 hA, mgI_17 hA, msI_17 hA, mgI_18 hA, msI_18 hA, mgI_19 hA, msI_19 hA, mgI_20 hA, msI_20 hA, mgI_23 hA, msI_23 hA, mgI_24 hA, msI_24 hA, mgI_25 hA, msI_25 hA, mgI_26 hA, msI_26 hA, mgI_27 hA, msI_27 hA, mgI_28 hA, msI_28 hA, mgI_29 hA, msI_29 hA, mgI_31 hA, msI_31 hA, mgI_32 hA, msI_32 hA, mgI_33 hA, msI_33 hA, mgI_34 hA, msI_34 hA, mgI_35 hA, msI_35 hA, mgI_36 hA, msI_36 hA, mgI_39 hA, msI_39 hA, mgJ hA, msJ hA, show (16 : Int32).toNatClampNeg = 16 from rfl, h2.1.2.2.1.2, nt_or]
    refine ⟨(vin 16 (by decide) (by decide)), s_X12_hasBit (Nat.lt_of_lt_of_le (Nat.or_lt_two_pow (n := 14) htk hj) (by decide)) (by omega) ⟨fun h4 => ?_, fun h4 => ?_⟩⟩
    · rw [if_neg (by rw [h4]; simp)] at h3
      exact ih (k + 1) S' (by omega) h1 h2 h3
    · rw [nt_one (by omega), nt_or, sd_or htk hp hwho]
      refine s_X12_hasIt hA hW hV 14 (fr_le _) (Nat.or_lt_two_pow (n := 14) htk hp) hwho h2 fun S1 a1 a2 => ?_
      refine s_X12_hasIt hA hW hV 14 (fr_le _) htk hwho a2 fun S2 b1 b2 => ?_
      refine ⟨fun h5 => ?_, fun h5 => ?_⟩
      · rw [if_neg (by rw [h4, bi_inj h5]; simp)] at h3
        exact ih (k + 1) S2 (by omega) ((h1.tr a1).tr b1) b2 h3
      · have h6 : wH (vl T L (tk ||| 2 ^ k) who) ≠ wH (vl T L tk who) := fun e => h5 (by rw [e])
        rw [if_pos (by rw [h4]; simpa using h6)] at h3
        subst h3
        exact hK S2 ((h1.tr a1).tr b1) b2
theorem z_slf (hA : okA m A) (gS : GS T L S) (hW : WFT T) (hV : VL T L) {tk who : Nat} (htk : tk < 16384) (hwho : who < 2) {K : Int32 → Hp → Prop} : ∀ r k, k + r = L.length → K (if slfA T L tk who (L.drop k) k then 1 else 0) (mh m A S ρ) → Z_X12_byAcross_85 l G (d + 39) K (r + 1) m (nI (sd tk who)) (nI k) (mh m A S ρ) := by
  have h224 := gS.2.1.1
  intro r
  induction r with
  | zero =>
    intro k hk h
    simp only [Z_X12_byAcross_85, F_X12_byAcross_85, mfI_0, mpI_0, mfN_1, mfI_2, mpI_2, mfI_3, mpI_3, mfI_4, mpI_4, mfI_5, mpI_5, mfI_6, mpI_6, mfI_7, mpI_7, mfI_8, mpI_8, mfI_9, mpI_9, mfI_10, mpI_10, mfI_11, mpI_11, mfN_12, mfZ_13, mpZ_13, mfZ_14, mpZ_14, mfN_15, mfN_16, mfN_17, mfN_18, mfN_19, mfN_20, mfI_21, mpI_21, mfI_22, mpI_22, mfN_23, mfN_24, mfN_25, mfN_26, mfN_27, mfN_28, mfN_29, mfI_30, mpI_30, mfN_31, mfN_32, mfN_33, mfN_34, mfN_35, mfN_36, mfN_37, mfI_38, mpI_38, mfN_39, mfI_40, mpI_40, mfI_41, mpI_41, gS.2.1.2.1]
    rw [nt_le (by omega) (by omega)]
    rw [List.drop_eq_nil_of_le (by omega)] at h
    exact ⟨fun _ => h, fun hc => absurd (by omega) hc⟩
  | succ r ih =>
    intro k hk h
    obtain ⟨o, ho⟩ : ∃ o, L[k]? = some o := ⟨_, List.getElem?_eq_getElem (by omega)⟩
    obtain ⟨⟨p, hp⟩, -, u1, u2, -⟩ := hV k o ho
    rw [drop_at ho, slfA] at h
    have e1 : nI k + 1 = nI (k + 1) := nt_add k 1
    have hno : (myE T o tk who && (decide (acr T L o = some k) && ansS T L (tk ||| eS o) (1 - who))) = false → Z_X12_byAcross_85 l G (d + 39) K (r + 1) m (nI (sd tk who)) (nI (k + 1)) (mh m A S ρ) := fun hf => ih (k + 1) (by omega) (by rwa [hf, Bool.false_or] at h)
    rw [show r + 1 + 1 = (r + 1) + 1 from rfl, Z_X12_byAcross_85]
    simp only [F_X12_byAcross_85, F_X12_byAcross_126, mfI_0, mpI_0, mfN_1, mfI_2, mpI_2, mfI_3, mpI_3, mfI_4, mpI_4, mfI_5, mpI_5, mfI_6, mpI_6, mfI_7, mpI_7, mfI_8, mpI_8, mfI_9, mpI_9, mfI_10, mpI_10, mfI_11, mpI_11, mfN_12, mfZ_13, mpZ_13, mfZ_14, mpZ_14, mfN_15, mfN_16, mfN_17, mfN_18, mfN_19, mfN_20, mfI_21, mpI_21, mfI_22, mpI_22, mfN_23, mfN_24, mfN_25, mfN_26, mfN_27, mfN_28, mfN_29, mfI_30, mpI_30, mfN_31, mfN_32, mfN_33, mfN_34, mfN_35, mfN_36, mfN_37, mfI_38, mpI_38, mfN_39, mfI_40, mpI_40, mfI_41, mpI_41, gS.2.1.2.1, e1]
    rw [nt_le (by omega) (by omega)]
    refine ⟨fun hc => by omega, fun _ => s_X12_mayBe hA gS.1 hW gS.2.1 ho hp htk hwho ⟨fun h1 => hno (by rw [h1]; rfl), fun h1 => ?_⟩⟩
    refine s_X12_acrossOf hA gS.1 hW gS.2.1 hV ho ?_
    have hq : (optF (acr T L o) = nI k) ↔ acr T L o = some k := by
      cases ha : acr T L o with
      | none => exact ⟨fun hc => absurd hc.symm (nI_nm2 (by omega)), fun hc => by cases hc⟩
      | some n =>
        have hn := mAt_lt _ _ _ _ ha
        simp only [optF, Option.some.injEq]
        rw [nt_eq (by omega) (by omega)]
    rw [hq]
    refine ⟨fun h2 => hno (by simp [h2]), fun h2 => s_X12_behind hA gS.2.1 hV ho htk hwho ?_⟩
    refine s_X12_isAnswered hA gS.1 hW gS.2.1 hV (Nat.or_lt_two_pow (n := 14) htk u2) (by omega) ⟨fun h3 => hno (by simp [h3]), fun h3 => ?_⟩
    rw [h1, h3, decide_eq_true h2] at h
    exact h
theorem z_bya (hA : okA m A) (gS : GS T L S) (hW : WFT T) (hV : VL T L) {tk who : Nat} (htk : tk < 16384) (hwho : who < 2) {K : Int32 → Hp → Prop} : ∀ r k (a : Bool), k + r = T.2.1.length → K (nI (if a && (T.2.1.drop k).all (fun b => hfB T b tk) then (if ansS T L tk who then 2 else if slfA T L tk who L 0 then 1 else 0) else 0)) (mh m A S ρ) → Z_X12_byAcross_29 l G (d + 39) K (r + 1) m (nI (sd tk who)) a (nI k) (mh m A S ρ) := by
  have h3 := hW.1.1
  intro r
  induction r with
  | zero =>
    intro k a hk h
    rw [List.drop_eq_nil_of_le (by omega), List.all_nil, Bool.and_true] at h
    simp only [Z_X12_byAcross_29, F_X12_byAcross_29, mfI_0, mpI_0, mfN_1, mfI_2, mpI_2, mfI_3, mpI_3, mfI_4, mpI_4, mfI_5, mpI_5, mfI_6, mpI_6, mfI_7, mpI_7, mfI_8, mpI_8, mfI_9, mpI_9, mfI_10, mpI_10, mfI_11, mpI_11, mfN_12, mfZ_13, mpZ_13, mfZ_14, mpZ_14, mfN_15, mfN_16, mfN_17, mfN_18, mfN_19, mfN_20, mfI_21, mpI_21, mfI_22, mpI_22, mfN_23, mfN_24, mfN_25, mfN_26, mfN_27, mfN_28, mfN_29, mfI_30, mpI_30, mfN_31, mfN_32, mfN_33, mfN_34, mfN_35, mfN_36, mfN_37, mfI_38, mpI_38, mfN_39, mfI_40, mpI_40, mfI_41, mpI_41, mgI_1 hA, msI_1 hA, mgI_12 hA, msI_12 hA, mgI_15 hA, msI_15 hA, mgI_16 hA, msI_16 hA, mgI_17 hA, msI_17 hA, mgI_18 hA, msI_18 hA, mgI_19 hA, msI_19 hA, mgI_20 hA, msI_20 hA, mgI_23 hA, msI_23 hA, mgI_24 hA, msI_24 hA, mgI_25 hA, msI_25 hA, mgI_26 hA, msI_26 hA, mgI_27 hA, msI_27 hA, mgI_28 hA, msI_28 hA, mgI_29 hA, msI_29 hA, mgI_31 hA, msI_31 hA, mgI_32 hA, msI_32 hA, mgI_33 hA, msI_33 hA, mgI_34 hA, msI_34 hA, mgI_35 hA, msI_35 hA, mgI_36 hA, msI_36 hA, mgI_39 hA, msI_39 hA, mgJ hA, msJ hA, show (3 : Int32).toNatClampNeg = 3 from rfl, gS.1.2.1.1]
    rw [nt_le (by omega) (by omega)]
    refine ⟨(vin 3 (by decide) (by decide)), fun _ => ⟨fun h1 => ?_, fun h1 => ?_⟩, fun hc => absurd (by omega) hc⟩
    · subst h1
      rw [if_pos rfl] at h
      refine s_X12_isAnswered hA gS.1 hW gS.2.1 hV htk hwho ⟨fun h2 => ?_, fun h2 => ?_⟩
      · rw [if_neg (by rw [h2]; decide)] at h
        refine ⟨_, z_slf hA gS hW hV htk hwho L.length 0 (by omega) ?_⟩
        rw [List.drop_zero]
        cases h5 : slfA T L tk who L 0 with
        | true => rw [h5] at h; exact h
        | false => rw [h5] at h; exact h
      · rw [if_pos h2] at h
        exact h
    · subst h1
      exact h
  | succ r ih =>
    intro k a hk h
    obtain ⟨b, hb⟩ : ∃ b, T.2.1[k]? = some b := ⟨_, List.getElem?_eq_getElem (by omega)⟩
    have hd : T.2.1.drop k = b :: T.2.1.drop (k + 1) := by
      obtain ⟨hk, e1⟩ := List.getElem?_eq_some_iff.mp hb
      rw [← List.getElem_cons_drop hk, e1]
    rw [hd, List.all_cons, ← Bool.and_assoc] at h
    have e1 : nI k + 1 = nI (k + 1) := nt_add k 1
    rw [show r + 1 + 1 = (r + 1) + 1 from rfl, Z_X12_byAcross_29]
    simp only [F_X12_byAcross_29, F_X12_byAcross_59, F_X12_byAcross_60, mfI_0, mpI_0, mfN_1, mfI_2, mpI_2, mfI_3, mpI_3, mfI_4, mpI_4, mfI_5, mpI_5, mfI_6, mpI_6, mfI_7, mpI_7, mfI_8, mpI_8, mfI_9, mpI_9, mfI_10, mpI_10, mfI_11, mpI_11, mfN_12, mfZ_13, mpZ_13, mfZ_14, mpZ_14, mfN_15, mfN_16, mfN_17, mfN_18, mfN_19, mfN_20, mfI_21, mpI_21, mfI_22, mpI_22, mfN_23, mfN_24, mfN_25, mfN_26, mfN_27, mfN_28, mfN_29, mfI_30, mpI_30, mfN_31, mfN_32, mfN_33, mfN_34, mfN_35, mfN_36, mfN_37, mfI_38, mpI_38, mfN_39, mfI_40, mpI_40, mfI_41, mpI_41, mgI_1 hA, msI_1 hA, mgI_12 hA, msI_12 hA, mgI_15 hA, msI_15 hA, mgI_16 hA, msI_16 hA, mgI_17 hA, msI_17 hA, mgI_18 hA, msI_18 hA, mgI_19 hA, msI_19 hA, mgI_20 hA, msI_20 hA, mgI_23 hA, msI_23 hA, mgI_24 hA, msI_24 hA, mgI_25 hA, msI_25 hA, mgI_26 hA, msI_26 hA, mgI_27 hA, msI_27 hA, mgI_28 hA, msI_28 hA, mgI_29 hA, msI_29 hA, mgI_31 hA, msI_31 hA, mgI_32 hA, msI_32 hA, mgI_33 hA, msI_33 hA, mgI_34 hA, msI_34 hA, mgI_35 hA, msI_35 hA, mgI_36 hA, msI_36 hA, mgI_39 hA, msI_39 hA, mgJ hA, msJ hA, show (3 : Int32).toNatClampNeg = 3 from rfl, gS.1.2.1.1, e1]
    rw [nt_le (by omega) (by omega)]
    refine ⟨(vin 3 (by decide) (by decide)), fun hc => by omega, fun _ => ⟨fun h1 => ?_, fun h1 => s_X12_takenOf htk hwho (s_X12_isHalf hA gS.1 hW hb htk ⟨fun h2 => ?_, fun h2 => ?_⟩)⟩⟩
    · rw [h1, Bool.false_and] at h
      exact ih (k + 1) false (by omega) h
    · rw [h2, Bool.and_false] at h
      exact ih (k + 1) false (by omega) h
    · rw [h1, h2] at h
      exact ih (k + 1) true (by omega) h
theorem p_X12_spoils (hA : okA m A) (hZ : VZ Z) (hM : MI Z S) {v : Int32} {K : Int32 → Hp → Prop} (hK : ∀ S', MI (zt Z (q_spoils Z v).1) S' → K (q_spoils Z v).2 (mh m A S' ρ)) : C_X12_spoils l G (d + 40) m v (mh m A S ρ) K := by
  refine m_X12_spoils rv_m ?_
  simp only [F_X12_spoils_99, F_X12_spoils_98, F_X12_spoils_43, F_X12_spoils]
  refine s_X12_clear ?_
  have h0 := hM.cl
  simp only [q_spoils, onL, onT] at hK
  cases hT : zT Z with
  | none =>
    simp only [hT] at hK
    refine s_X12_isLay_no (h0.no hT) ?_
    simp only [reduceCtorEq, false_implies, true_implies, forall_const, true_and, and_true, eq_self]
    exact s_X12_no (hK _ (h0.tr 1 (by decide)))
  | some T =>
    simp only [hT] at hK
    obtain ⟨g14, gS, gW⟩ := h0.so hT
    obtain ⟨hW, hV, hG, htk, hwho, -⟩ := hZ.so hT
    refine s_X12_isLay g14 gS.2.1 ?_
    rw [ix_dec]
    cases hi : ix v (allL T).length with
    | none =>
      simp only [hi] at hK
      simp only [Option.isSome_none, reduceCtorEq, false_implies, true_implies, forall_const, true_and, and_true, eq_self]
      exact s_X12_no (hK _ (h0.tr 1 (by decide)))
    | some i =>
      obtain ⟨rfl, hil⟩ := ix_some (allL_len gS) hi
      obtain ⟨e, he⟩ : ∃ e, (allL T)[i]? = some e := ⟨_, List.getElem?_eq_getElem hil⟩
      simp only [hi, he] at hK
      simp only [Option.isSome_some, reduceCtorEq, false_implies, true_implies, forall_const, true_and, and_true, eq_self]
      obtain ⟨⟨p, hp⟩, -⟩ := hV i e he
      refine s_X12_standNow hA gS.2.1 hV gW hG ?_
      refine s_X12_mayBe hA gS.1 hW gS.2.1 he hp htk hwho ?_
      refine ⟨fun h1 => ?_, fun h1 => ?_⟩
      · have h2 : myE T e (ztk Z T) (zwh Z) = true := h1
        rw [if_pos h2] at hK
        exact ⟨_, z_spoils hA gS hW hV he htk hwho (allL T).length 0 0 (by omega) (by omega) (by rw [Nat.zero_add, List.drop_zero]; exact hK _ h0)⟩
      · have h2 : myE T e (ztk Z T) (zwh Z) = false := h1
        rw [if_neg (by rw [h2]; decide)] at hK
        exact s_X12_no (hK _ (h0.tr 5 (by decide)))
theorem p_X12_dead (hA : okA m A) (hZ : VZ Z) (hM : MI Z S) {K : Int32 → Hp → Prop} (hK : ∀ S', MI (zt Z (q_dead Z).1) S' → K (q_dead Z).2 (mh m A S' ρ)) : C_X12_dead l G (d + 40) m (mh m A S ρ) K := by
  refine m_X12_dead rv_m ?_
  simp only [F_X12_dead_84, F_X12_dead_52, F_X12_dead]
  refine s_X12_clear ?_
  have h0 := hM.cl
  simp only [q_dead, onT, zvl] at hK
  cases hT : zT Z with
  | none =>
    simp only [hT] at hK
    simp only [mfZ_14, h0.no hT, reduceCtorEq, false_implies, true_implies, forall_const, true_and, and_true, eq_self, not_true_eq_false]
    exact s_X12_no (hK _ (h0.tr 1 (by decide)))
  | some T =>
    simp only [hT] at hK
    obtain ⟨g14, gS, gW⟩ := h0.so hT
    obtain ⟨hW, hV, hG, htk, hwho, -⟩ := hZ.so hT
    simp only [mfZ_14, g14, reduceCtorEq, false_implies, true_implies, forall_const, true_and, and_true, eq_self, not_true_eq_false]
    have hj := tb_j hW
    have hp : 2 ^ nsq T.2.1 ≤ 2 ^ 14 := Nat.pow_le_pow_right (by decide) hW.1.2.1
    have hp0 : 0 < 2 ^ nsq T.2.1 := Nat.two_pow_pos _
    have h14 := hW.1.2.1
    refine s_X12_standNow hA gS.2.1 hV gW hG ?_
    refine s_X12_takenOf htk hwho ?_
    simp only [mfI_0, mpI_0, mfN_1, mfI_2, mpI_2, mfI_3, mpI_3, mfI_4, mpI_4, mfI_5, mpI_5, mfI_6, mpI_6, mfI_7, mpI_7, mfI_8, mpI_8, mfI_9, mpI_9, mfI_10, mpI_10, mfI_11, mpI_11, mfN_12, mfZ_13, mpZ_13, mfZ_14, mpZ_14, mfN_15, mfN_16, mfN_17, mfN_18, mfN_19, mfN_20, mfI_21, mpI_21, mfI_22, mpI_22, mfN_23, mfN_24, mfN_25, mfN_26, mfN_27, mfN_28, mfN_29, mfI_30, mpI_30, mfN_31, mfN_32, mfN_33, mfN_34, mfN_35, mfN_36, mfN_37, mfI_38, mpI_38, mfN_39, mfI_40, mpI_40, mfI_41, mpI_41, mgI_1 hA, msI_1 hA, mgI_12 hA, msI_12 hA, mgI_15 hA, msI_15 hA, mgI_16 hA, msI_16 hA, mgI_17 hA, msI_17 hA, mgI_18 hA, msI_18 hA, mgI_19 hA, msI_19 hA, mgI_20 hA, msI_20 hA, mgI_23 hA, msI_23 hA, mgI_24 hA, msI_24 hA, mgI_25 hA, msI_25 hA, mgI_26 hA, msI_26 hA, mgI_27 hA, msI_27 hA, mgI_28 hA, msI_28 hA, mgI_29 hA, msI_29 hA, mgI_31 hA, msI_31 hA, mgI_32 hA, msI_32 hA, mgI_33 hA, msI_33 hA, mgI_34 hA, msI_34 hA, mgI_35 hA, msI_35 hA, mgI_36 hA, msI_36 hA, mgI_39 hA, msI_39 hA, mgJ hA, msJ hA, show (5 : Int32).toNatClampNeg = 5 from rfl, show (16 : Int32).toNatClampNeg = 16 from rfl, gS.1.2.1.2.2, gS.1.2.2.1.2]
    rw [nt_one (by omega), show (nI (2 ^ nsq T.2.1) - 1 : Int32) = nI (2 ^ nsq T.2.1 - 1) from nt_sub (b := 1) (by omega) (by omega), nt_an, nt_an, an_an]
    exact ⟨(vin 5 (by decide) (by decide)), (vin 16 (by decide) (by decide)), _, z_dead hA gS hW hV htk (allL T).length 0 _ (by omega) (hK _ h0)⟩
theorem p_X12_elbow (hA : okA m A) (hZ : VZ Z) (hM : MI Z S) {K : Int32 → Hp → Prop} (hK : ∀ S', MI (zt Z (q_elbow Z).1) S' → K (q_elbow Z).2 (mh m A S' ρ)) : C_X12_elbow l G (d + 40) m (mh m A S ρ) K := by
  refine m_X12_elbow rv_m ?_
  simp only [F_X12_elbow_72, F_X12_elbow_24, F_X12_elbow]
  refine s_X12_clear ?_
  have h0 := hM.cl
  simp only [q_elbow, onT, zvl] at hK
  cases hT : zT Z with
  | none =>
    simp only [hT] at hK
    simp only [mfZ_14, h0.no hT, reduceCtorEq, false_implies, true_implies, forall_const, true_and, and_true, eq_self, not_true_eq_false]
    exact s_X12_no (hK _ (h0.tr 1 (by decide)))
  | some T =>
    simp only [hT] at hK
    obtain ⟨g14, gS, gW⟩ := h0.so hT
    obtain ⟨hW, hV, hG, htk, hwho, -⟩ := hZ.so hT
    simp only [mfZ_14, g14, reduceCtorEq, false_implies, true_implies, forall_const, true_and, and_true, eq_self, not_true_eq_false]
    refine s_X12_standNow hA gS.2.1 hV gW hG ?_
    exact ⟨_, z_elbow hA hW hV htk hwho (fun S' g1 g2 => hK S' (h0.g hT g1.m0 g2)) (nsq T.2.1) 0 _ (by omega) Gm.rf gS rfl⟩
theorem p_X12_byAcross (hA : okA m A) (hZ : VZ Z) (hM : MI Z S) {K : Int32 → Hp → Prop} (hK : ∀ S', MI (zt Z (q_byAcross Z).1) S' → K (q_byAcross Z).2 (mh m A S' ρ)) : C_X12_byAcross l G (d + 40) m (mh m A S ρ) K := by
  refine m_X12_byAcross rv_m ?_
  simp only [F_X12_byAcross_60, F_X12_byAcross_59, F_X12_byAcross_126, F_X12_byAcross_85, F_X12_byAcross_29, F_X12_byAcross]
  refine s_X12_clear ?_
  have h0 := hM.cl
  simp only [q_byAcross, onT, zvl] at hK
  cases hT : zT Z with
  | none =>
    simp only [hT] at hK
    simp only [mfZ_14, h0.no hT, reduceCtorEq, false_implies, true_implies, forall_const, true_and, and_true, eq_self, not_true_eq_false]
    exact s_X12_no (hK _ (h0.tr 1 (by decide)))
  | some T =>
    simp only [hT] at hK
    obtain ⟨g14, gS, gW⟩ := h0.so hT
    obtain ⟨hW, hV, hG, htk, hwho, -⟩ := hZ.so hT
    simp only [mfZ_14, g14, reduceCtorEq, false_implies, true_implies, forall_const, true_and, and_true, eq_self, not_true_eq_false]
    refine s_X12_standNow hA gS.2.1 hV gW hG ?_
    refine s_X12_isHeap hA gS.1 hW ?_
    exact ⟨_, z_bya hA gS hW hV htk hwho T.2.1.length 0 _ (by omega) (hK _ h0)⟩
end PUB2
