/-! what the Outlook answers: isWon, measured, rowsOfLays, firstWinning, countWinning, turningSquare -/
section OUTM
variable {l : Launch} {G : GG} {d : Nat} {P : Nat → Nat} {C : Nat → CE} {τ : Hp} {Q : Nat → Prop} {X : TX} {T : TB} {st s : Nat} {S : OS}
/-- all that is wanted of what stands still -/
def OST (P : Nat → Nat) (τ : Hp) (Q : Nat → Prop) (X : TX) (T : TB) (st s : Nat) : Prop := okB 75 P ∧ s ≤ 14 ∧ TBr Q τ X T ∧ (∀ q, Q q → outB 75 P q) ∧ WFT T ∧ nsq T.2.1 ≤ s ∧ st < 2 ^ 30
theorem top_settle (h : OST P τ Q X T st s) {tk who : Nat} (htk : tk < 2 ^ s) (hwho : who < 2) (hS : OSI T st s S) {K : Hp → Prop} (hK : ∀ S', OSI T st s S' → VVs S' (sc tk who) (vl T (allL T) tk who) → K (oh P (some (xT X)) st s S' C τ)) : C_X3_settle l G (d + 18) (P 2) (nI tk) (nI who) 0 (oh P (some (xT X)) st s S C τ) K := by
  obtain ⟨hB, hs, hX, hQ, hW, hsq, hst⟩ := h
  exact s_X3_settle hB hs hX hQ hW hsq hst 14 (d := d) (dep := 0) (fr_le tk) htk hwho (by have := fr_le tk; omega) hS fun S' h1 h2 h3 => hK S' h1 (h1.2.2.1 _ _ htk hwho h3)
theorem s_X3_isWon (h : OST P τ Q X T st s) {tk who : Nat} (htk : tk < 2 ^ s) (hwho : who < 2) (hS : OSI T st s S) {K : Bool → Hp → Prop} (hK : ∀ S', OSI T st s S' → K (wH (vl T (allL T) tk who)) (oh P (some (xT X)) st s S' C τ)) : C_X3_isWon l G (d + 19) (P 2) (nI tk) (nI who) (oh P (some (xT X)) st s S C τ) K := by
  have hh := h
  obtain ⟨hB, hs, hX, hQ, hW, hsq, hst⟩ := h
  have h14 := pow14 hs
  have hsc : sc tk who < 2 * 2 ^ s := by unfold sc; omega
  refine m_X3_isWon (rv_o hB) ?_
  simp only [F_X3_isWon_33, F_X3_isWon_32, F_X3_isWon]
  refine top_settle (d := d) hh htk hwho hS fun S' h1 h2 => ?_
  refine s_X3_stateOf (d := d + 17) hB hs htk hwho ⟨fun hc => absurd hc (nI_nm1 (by omega)), fun _ => ?_⟩
  simp only [oR_0 hB, oN_0 hB, oI_1 hB, oN_2 hB, oN_3 hB, oN_4 hB, oN_5 hB, oN_6 hB, oN_7 hB, oN_8 hB, oN_9 hB, oN_10 hB, oL_3 hB, oG_3 hB, oS_3 hB, oL_4 hB, oG_4 hB, oS_4 hB, oL_5 hB, oG_5 hB, oS_5 hB, oL_6 hB, oG_6 hB, oS_6 hB, oL_7 hB, oG_7 hB, oS_7 hB, oL_8 hB, oG_8 hB, oS_8 hB, oL_9 hB, oG_9 hB, oS_9 hB, oL_10 hB, oG_10 hB, oS_10 hB, oL_11 hB, oG_11 hB, oS_11 hB, nI_clamp (show sc tk who < 2 ^ 31 by omega), h2.1]
  refine ⟨(nt_in (by omega)).mpr hsc, fun h3 => ?_, fun h3 => ?_⟩
  · have := hK S' h1; rwa [h3] at this
  · have := hK S' h1; rwa [h3] at this
theorem s_X3_measured (h : OST P τ Q X T st s) {tk who w : Nat} (hw : w < 4) (htk : tk < 2 ^ s) (hwho : who < 2) (hS : OSI T st s S) {K : Int32 → Hp → Prop} (hK : ∀ S', OSI T st s S' → K (nI (if w = 0 then wN (vl T (allL T) tk who) else if w = 1 then wF (vl T (allL T) tk who) else if w = 2 then wM (vl T (allL T) tk who) else wL (vl T (allL T) tk who))) (oh P (some (xT X)) st s S' C τ)) : C_X3_measured l G (d + 19) (P 2) (nI w) (nI tk) (nI who) (oh P (some (xT X)) st s S C τ) K := by
  have hh := h
  obtain ⟨hB, hs, hX, hQ, hW, hsq, hst⟩ := h
  have h14 := pow14 hs
  have hsc : sc tk who < 2 * 2 ^ s := by unfold sc; omega
  have hin : vp_in (nI (sc tk who)) (2 * 2 ^ s) := (nt_in (by omega)).mpr hsc
  refine m_X3_measured (rv_o hB) ?_
  simp only [F_X3_measured]
  refine top_settle (d := d) hh htk hwho hS fun S' h1 h2 => ?_
  refine s_X3_stateOf (d := d + 17) hB hs htk hwho ⟨fun _ => ?_, fun hc => absurd hc (nI_nm1 (by omega))⟩
  obtain ⟨v1, v2, v3, v4, v5, v6⟩ := h2
  simp only [oR_0 hB, oN_0 hB, oI_1 hB, oN_2 hB, oN_3 hB, oN_4 hB, oN_5 hB, oN_6 hB, oN_7 hB, oN_8 hB, oN_9 hB, oN_10 hB, oL_3 hB, oG_3 hB, oS_3 hB, oL_4 hB, oG_4 hB, oS_4 hB, oL_5 hB, oG_5 hB, oS_5 hB, oL_6 hB, oG_6 hB, oS_6 hB, oL_7 hB, oG_7 hB, oS_7 hB, oL_8 hB, oG_8 hB, oS_8 hB, oL_9 hB, oG_9 hB, oS_9 hB, oL_10 hB, oG_10 hB, oS_10 hB, oL_11 hB, oG_11 hB, oS_11 hB, nI_clamp (show sc tk who < 2 ^ 31 by omega), v2, v3, v4, v5]
  have hk := hK S' h1
  rw [show (0 : Int32) = nI 0 from rfl, show (1 : Int32) = nI 1 from rfl, show (2 : Int32) = nI 2 from rfl, nt_eq (by omega) (by decide), nt_eq (by omega) (by decide), nt_eq (by omega) (by decide)]
  refine ⟨fun h3 => ⟨hin, ?_⟩, fun h3 => ⟨hin, ?_⟩, fun h3 => ⟨hin, ?_⟩, fun h3 h4 h5 => ⟨hin, ?_⟩⟩
  · rwa [if_pos h3] at hk
  · rwa [if_neg (by omega), if_pos h3] at hk
  · rwa [if_neg (by omega), if_neg (by omega), if_pos h3] at hk
  · rwa [if_neg h3, if_neg h4, if_neg h5] at hk
theorem s_X3_rowsOfLays (h : OST P τ Q X T st s) {tk who : Nat} (htk : tk < 2 ^ s) (hwho : who < 2) (hS : OSI T st s S) {K : Int64 → Hp → Prop} (hK : ∀ S', OSI T st s S' → K (lN (wW (vl T (allL T) tk who))) (oh P (some (xT X)) st s S' C τ)) : C_X3_rowsOfLays l G (d + 19) (P 2) (nI tk) (nI who) (oh P (some (xT X)) st s S C τ) K := by
  have hh := h
  obtain ⟨hB, hs, hX, hQ, hW, hsq, hst⟩ := h
  have h14 := pow14 hs
  have hsc : sc tk who < 2 * 2 ^ s := by unfold sc; omega
  refine m_X3_rowsOfLays (rv_o hB) ?_
  simp only [F_X3_rowsOfLays_29, F_X3_rowsOfLays]
  refine top_settle (d := d) hh htk hwho hS fun S' h1 h2 => ?_
  refine s_X3_stateOf (d := d + 17) hB hs htk hwho ⟨fun _ => ?_, fun hc => absurd hc (nI_nm1 (by omega))⟩
  simp only [oR_0 hB, oN_0 hB, oI_1 hB, oN_2 hB, oN_3 hB, oN_4 hB, oN_5 hB, oN_6 hB, oN_7 hB, oN_8 hB, oN_9 hB, oN_10 hB, oL_3 hB, oG_3 hB, oS_3 hB, oL_4 hB, oG_4 hB, oS_4 hB, oL_5 hB, oG_5 hB, oS_5 hB, oL_6 hB, oG_6 hB, oS_6 hB, oL_7 hB, oG_7 hB, oS_7 hB, oL_8 hB, oG_8 hB, oS_8 hB, oL_9 hB, oG_9 hB, oS_9 hB, oL_10 hB, oG_10 hB, oS_10 hB, oL_11 hB, oG_11 hB, oS_11 hB, nI_clamp (show sc tk who < 2 ^ 31 by omega), h2.2.2.2.2.2]
  exact ⟨(nt_in (by omega)).mpr hsc, hK S' h1⟩
theorem lay_lt (h : OST P τ Q X T st s) {i tk : Nat} {e : LY} (he : (allL T)[i]? = some e) (htk : tk < 2 ^ s) : tk ||| eS e < 2 ^ s := Nat.or_lt_two_pow htk (Nat.lt_of_lt_of_le (allL_lt h.2.2.2.2.1 (List.mem_of_getElem? he)) (Nat.pow_le_pow_right (by decide) h.2.2.2.2.2.1))
theorem s_X3_firstWinning (h : OST P τ Q X T st s) {tk who : Nat} (htk : tk < 2 ^ s) (hwho : who < 2) (hS : OSI T st s S) {K : Option Nat → Hp → Prop} (hK : ∀ S', OSI T st s S' → K ((mAt (gdE T (allL T) tk who) (allL T) 0 0).map (xl X)) (oh P (some (xT X)) st s S' C τ)) : C_X3_firstWinning l G (d + 20) (P 2) (nI tk) (nI who) (oh P (some (xT X)) st s S C τ) K := by
  have hh := h
  obtain ⟨hB, hs, hX, hQ, hW, hsq, hst⟩ := h
  have h14 := pow14 hs
  have h224 := allL_224 hW
  have ho := hXo hX hQ (some (xT X)) st s
  have h1w : (1 : Int32) - nI who = nI (1 - who) := nt_sub (a := 1) (b := who) (by omega) (by decide)
  refine m_X3_firstWinning (rv_o hB) ?_
  simp only [F_X3_firstWinning, oR_0 hB, oN_0 hB, oI_1 hB, oN_2 hB, oN_3 hB, oN_4 hB, oN_5 hB, oN_6 hB, oN_7 hB, oN_8 hB, oN_9 hB, oN_10 hB, oL_3 hB, oG_3 hB, oS_3 hB, oL_4 hB, oG_4 hB, oS_4 hB, oL_5 hB, oG_5 hB, oS_5 hB, oL_6 hB, oG_6 hB, oS_6 hB, oL_7 hB, oG_7 hB, oS_7 hB, oL_8 hB, oG_8 hB, oS_8 hB, oL_9 hB, oG_9 hB, oS_9 hB, oL_10 hB, oG_10 hB, oS_10 hB, oL_11 hB, oG_11 hB, oS_11 hB, reduceCtorEq, false_implies, true_implies, forall_const, true_and, and_true, eq_self, Option.some.injEq, exists_eq_left', forall_eq', fN_at (ho S C).1.2, rZ8_0, rP8_0, rZ8_1, rP8_1, rZ8_2, rP8_2, rR8_3, rN8_3, rP8_3, rR8_4, rN8_4, rP8_4, rI8_5, rP8_5, rI8_6, rP8_6, rZ8_7, rP8_7, rR8_8, rN8_8, rP8_8, (ho S C).aL]
  have hz : ∀ r i S', i + r = (allL T).length → OSI T st s S' → (∀ S', OSI T st s S' → K ((mAt (gdE T (allL T) tk who) ((allL T).drop i) i 0).map (xl X)) (oh P (some (xT X)) st s S' C τ)) → Z_X3_firstWinning_24 l G (d + 19) K (r + 1) (P 2) (nI tk) (nI who) (xL' X) (nI (allL T).length) (nI i) (oh P (some (xT X)) st s S' C τ) := by
    intro r
    induction r with
    | zero =>
      intro i S' hi hS' hk
      have hk := hk S' hS'
      rw [List.drop_eq_nil_of_le (by omega)] at hk
      simp only [Z_X3_firstWinning_24, F_X3_firstWinning_24]
      rw [nt_le (by omega) (by omega)]
      exact ⟨fun _ => hk, fun hc => absurd (by omega) hc⟩
    | succ r ih =>
      intro i S' hi hS' hk
      obtain ⟨e, he⟩ : ∃ e, (allL T)[i]? = some e := ⟨_, List.getElem?_eq_getElem (by omega)⟩
      obtain ⟨g, g1, g2, g3⟩ := (ho S' C).lay he
      simp only [drop_at he, mAt] at hk
      rw [show r + 1 + 1 = (r + 1) + 1 from rfl, Z_X3_firstWinning_24]
      simp only [F_X3_firstWinning_24, F_X3_firstWinning_67, show nI i + 1 = nI (i + 1) from nt_add i 1]
      rw [nt_le (by omega) (by omega)]
      refine ⟨fun hc => by omega, fun _ => (ho S' C).gN hW he ((ho S' C).my (d := d + 17) hW he (by omega) hwho ⟨fun hm => ?_, fun hm => ?_⟩)⟩
      · refine ih (i + 1) S' (by omega) hS' fun S'' h2 => ?_
        have := hk S'' h2
        rwa [if_neg (by simp [gdE, hm])] at this
      · simp only [fI_at g3, rI2_0, rP2_0, rR2_1, rN2_1, rP2_1, rR2_2, rN2_2, rP2_2, rI2_3, rP2_3, rI2_4, rP2_4, rI2_5, rP2_5, rI2_6, rP2_6, rI2_7, rP2_7, rR2_8, rN2_8, rP2_8, nt_or, h1w]
        refine s_X3_isWon (d := d) hh (lay_lt hh he htk) (by omega) hS' fun S2 a1 => ⟨fun h2 => ?_, fun h2 => ?_⟩
        · refine ih (i + 1) S2 (by omega) a1 fun S'' h3 => ?_
          have := hk S'' h3
          rwa [if_neg (by simp [gdE, h2])] at this
        · have := hk S2 a1
          rwa [if_pos (by simp [gdE, hm, h2])] at this
  exact ⟨_, hz (allL T).length 0 S (by omega) hS hK⟩
theorem s_X3_countWinning (h : OST P τ Q X T st s) {tk who : Nat} (htk : tk < 2 ^ s) (hwho : who < 2) (hS : OSI T st s S) {K : Int32 → Hp → Prop} (hK : ∀ S', OSI T st s S' → K (nI ((allL T).filter (gdE T (allL T) tk who)).length) (oh P (some (xT X)) st s S' C τ)) : C_X3_countWinning l G (d + 20) (P 2) (nI tk) (nI who) (oh P (some (xT X)) st s S C τ) K := by
  have hh := h
  obtain ⟨hB, hs, hX, hQ, hW, hsq, hst⟩ := h
  have h14 := pow14 hs
  have h224 := allL_224 hW
  have ho := hXo hX hQ (some (xT X)) st s
  have h1w : (1 : Int32) - nI who = nI (1 - who) := nt_sub (a := 1) (b := who) (by omega) (by decide)
  refine m_X3_countWinning (rv_o hB) ?_
  simp only [F_X3_countWinning, oR_0 hB, oN_0 hB, oI_1 hB, oN_2 hB, oN_3 hB, oN_4 hB, oN_5 hB, oN_6 hB, oN_7 hB, oN_8 hB, oN_9 hB, oN_10 hB, oL_3 hB, oG_3 hB, oS_3 hB, oL_4 hB, oG_4 hB, oS_4 hB, oL_5 hB, oG_5 hB, oS_5 hB, oL_6 hB, oG_6 hB, oS_6 hB, oL_7 hB, oG_7 hB, oS_7 hB, oL_8 hB, oG_8 hB, oS_8 hB, oL_9 hB, oG_9 hB, oS_9 hB, oL_10 hB, oG_10 hB, oS_10 hB, oL_11 hB, oG_11 hB, oS_11 hB, reduceCtorEq, false_implies, true_implies, forall_const, true_and, and_true, eq_self, Option.some.injEq, exists_eq_left', forall_eq', fN_at (ho S C).1.2, rZ8_0, rP8_0, rZ8_1, rP8_1, rZ8_2, rP8_2, rR8_3, rN8_3, rP8_3, rR8_4, rN8_4, rP8_4, rI8_5, rP8_5, rI8_6, rP8_6, rZ8_7, rP8_7, rR8_8, rN8_8, rP8_8, (ho S C).aL]
  have hz : ∀ r i c S', i + r = (allL T).length → OSI T st s S' → (∀ S', OSI T st s S' → K (nI (c + (((allL T).drop i).filter (gdE T (allL T) tk who)).length)) (oh P (some (xT X)) st s S' C τ)) → Z_X3_countWinning_28 l G (d + 19) K (r + 1) (P 2) (nI tk) (nI who) (nI c) (xL' X) (nI (allL T).length) (nI i) (oh P (some (xT X)) st s S' C τ) := by
    intro r
    induction r with
    | zero =>
      intro i c S' hi hS' hk
      have hk := hk S' hS'
      rw [List.drop_eq_nil_of_le (by omega)] at hk
      simp only [Z_X3_countWinning_28, F_X3_countWinning_28]
      rw [nt_le (by omega) (by omega)]
      exact ⟨fun _ => hk, fun hc => absurd (by omega) hc⟩
    | succ r ih =>
      intro i c S' hi hS' hk
      obtain ⟨e, he⟩ : ∃ e, (allL T)[i]? = some e := ⟨_, List.getElem?_eq_getElem (by omega)⟩
      obtain ⟨g, g1, g2, g3⟩ := (ho S' C).lay he
      simp only [drop_at he, List.filter_cons] at hk
      rw [show r + 1 + 1 = (r + 1) + 1 from rfl, Z_X3_countWinning_28]
      simp only [F_X3_countWinning_28, F_X3_countWinning_72, show nI i + 1 = nI (i + 1) from nt_add i 1, show nI c + 1 = nI (c + 1) from nt_add c 1]
      rw [nt_le (by omega) (by omega)]
      refine ⟨fun hc => by omega, fun _ => (ho S' C).gN hW he ((ho S' C).my (d := d + 17) hW he (by omega) hwho ⟨fun hm => ?_, fun hm => ?_⟩)⟩
      · refine ih (i + 1) c S' (by omega) hS' fun S'' h2 => ?_
        have := hk S'' h2
        rwa [if_neg (by simp [gdE, hm])] at this
      · simp only [fI_at g3, rI2_0, rP2_0, rR2_1, rN2_1, rP2_1, rR2_2, rN2_2, rP2_2, rI2_3, rP2_3, rI2_4, rP2_4, rI2_5, rP2_5, rI2_6, rP2_6, rI2_7, rP2_7, rR2_8, rN2_8, rP2_8, nt_or, h1w]
        refine s_X3_isWon (d := d) hh (lay_lt hh he htk) (by omega) hS' fun S2 a1 => ⟨fun h2 => ?_, fun h2 => ?_⟩
        · refine ih (i + 1) c S2 (by omega) a1 fun S'' h3 => ?_
          have := hk S'' h3
          rwa [if_neg (by simp [gdE, h2])] at this
        · refine ih (i + 1) (c + 1) S2 (by omega) a1 fun S'' h3 => ?_
          have := hk S'' h3
          rwa [if_pos (by simp [gdE, hm, h2]), List.length_cons, Nat.add_comm _ 1, ← Nat.add_assoc] at this
  exact ⟨_, hz (allL T).length 0 0 S (by omega) hS fun S' h2 => by rw [Nat.zero_add]; exact hK S' h2⟩
theorem s_X3_turningSquare (h : OST P τ Q X T st s) {tk who : Nat} (htk : tk < 2 ^ s) (hwho : who < 2) (hS : OSI T st s S) {K : Int32 → Hp → Prop} (hK : ∀ S', OSI T st s S' → K (optF (elbT T (allL T) tk who)) (oh P (some (xT X)) st s S' C τ)) : C_X3_turningSquare l G (d + 20) (P 2) (nI tk) (nI who) (oh P (some (xT X)) st s S C τ) K := by
  have hh := h
  obtain ⟨hB, hs, hX, hQ, hW, hsq, hst⟩ := h
  have h14 := pow14 hs
  have ho := hXo hX hQ (some (xT X)) st s
  have hf5 : ∀ (S : OS) (K : Int32 → Prop), fI (oh P (some (xT X)) st s S C τ) (xT X) 8 5 K = K (nI (nsq T.2.1)) := fun S K => by rw [fI_at (ho S C).1.2]; simp only [rZ8_0, rP8_0, rZ8_1, rP8_1, rZ8_2, rP8_2, rR8_3, rN8_3, rP8_3, rR8_4, rN8_4, rP8_4, rI8_5, rP8_5, rI8_6, rP8_6, rZ8_7, rP8_7, rR8_8, rN8_8, rP8_8]
  have hf6 : ∀ (S : OS) (K : Int32 → Prop), fI (oh P (some (xT X)) st s S C τ) (xT X) 8 6 K = K (nI T.2.2.2) := fun S K => by rw [fI_at (ho S C).1.2]; simp only [rZ8_0, rP8_0, rZ8_1, rP8_1, rZ8_2, rP8_2, rR8_3, rN8_3, rP8_3, rR8_4, rN8_4, rP8_4, rI8_5, rP8_5, rI8_6, rP8_6, rZ8_7, rP8_7, rR8_8, rN8_8, rP8_8]
  have hsq14 := hW.1.2.1
  have hj14 := tb_j hW
  refine m_X3_turningSquare (rv_o hB) ?_
  simp only [F_X3_turningSquare, oR_0 hB, oN_0 hB, oI_1 hB, oN_2 hB, oN_3 hB, oN_4 hB, oN_5 hB, oN_6 hB, oN_7 hB, oN_8 hB, oN_9 hB, oN_10 hB, oL_3 hB, oG_3 hB, oS_3 hB, oL_4 hB, oG_4 hB, oS_4 hB, oL_5 hB, oG_5 hB, oS_5 hB, oL_6 hB, oG_6 hB, oS_6 hB, oL_7 hB, oG_7 hB, oS_7 hB, oL_8 hB, oG_8 hB, oS_8 hB, oL_9 hB, oG_9 hB, oS_9 hB, oL_10 hB, oG_10 hB, oS_10 hB, oL_11 hB, oG_11 hB, oS_11 hB, reduceCtorEq, false_implies, true_implies, forall_const, true_and, and_true, eq_self, Option.some.injEq, forall_eq']
  unfold elbT at hK
  refine s_X3_isWon (d := d) hh htk hwho hS fun S1 e1 => ?_
  generalize hnow : wH (vl T (allL T) tk who) = now at hK
  have hz : ∀ r q S', q + r = nsq T.2.1 → OSI T st s S' → (∀ S', OSI T st s S' → K (optF (fst1 (fun q => !(tk ||| T.2.2.2).testBit q && (wH (vl T (allL T) (tk ||| 2 ^ q) who) != now)) r q)) (oh P (some (xT X)) st s S' C τ)) → Z_X3_turningSquare_20 l G (d + 19) K (r + 1) (P 2) (nI tk) (nI who) now (nI q) (oh P (some (xT X)) st s S' C τ) := by
    intro r
    induction r with
    | zero =>
      intro q S' hq hS' hk
      have hk := hk S' hS'
      simp only [Z_X3_turningSquare_20, F_X3_turningSquare_20, oR_0 hB, oN_0 hB, oI_1 hB, oN_2 hB, oN_3 hB, oN_4 hB, oN_5 hB, oN_6 hB, oN_7 hB, oN_8 hB, oN_9 hB, oN_10 hB, oL_3 hB, oG_3 hB, oS_3 hB, oL_4 hB, oG_4 hB, oS_4 hB, oL_5 hB, oG_5 hB, oS_5 hB, oL_6 hB, oG_6 hB, oS_6 hB, oL_7 hB, oG_7 hB, oS_7 hB, oL_8 hB, oG_8 hB, oS_8 hB, oL_9 hB, oG_9 hB, oS_9 hB, oL_10 hB, oG_10 hB, oS_10 hB, oL_11 hB, oG_11 hB, oS_11 hB, Option.some.injEq, exists_eq_left', hf5]
      rw [nt_le (by omega) (by omega)]
      exact ⟨fun _ => hk, fun hc => absurd (by omega) hc⟩
    | succ r ih =>
      intro q S' hq hS' hk
      simp only [fst1] at hk
      rw [show r + 1 + 1 = (r + 1) + 1 from rfl, Z_X3_turningSquare_20]
      simp only [F_X3_turningSquare_20, F_X3_turningSquare_69, oR_0 hB, oN_0 hB, oI_1 hB, oN_2 hB, oN_3 hB, oN_4 hB, oN_5 hB, oN_6 hB, oN_7 hB, oN_8 hB, oN_9 hB, oN_10 hB, oL_3 hB, oG_3 hB, oS_3 hB, oL_4 hB, oG_4 hB, oS_4 hB, oL_5 hB, oG_5 hB, oS_5 hB, oL_6 hB, oG_6 hB, oS_6 hB, oL_7 hB, oG_7 hB, oS_7 hB, oL_8 hB, oG_8 hB, oS_8 hB, oL_9 hB, oG_9 hB, oS_9 hB, oL_10 hB, oG_10 hB, oS_10 hB, oL_11 hB, oG_11 hB, oS_11 hB, Option.some.injEq, exists_eq_left', hf5, hf6, show nI q + 1 = nI (q + 1) from nt_add q 1]
      rw [nt_le (by omega) (by omega), nt_one (by omega), nt_or, nt_or, nt_and0 (Nat.lt_of_lt_of_le (Nat.or_lt_two_pow (n := 14) (by omega) hj14) (by decide)), fb_bit_nat]
      refine ⟨fun hc => by omega, fun _ => ⟨fun h2 => ?_, fun h2 => ?_⟩⟩
      · refine ih (q + 1) S' (by omega) hS' fun S'' h3 => ?_
        have := hk S'' h3
        rw [Bool.not_eq_false] at h2
        rwa [if_neg (by simp only [h2]; simp)] at this
      · refine s_X3_isWon (d := d) hh (Nat.or_lt_two_pow htk (Nat.pow_lt_pow_right (by decide) (by omega))) hwho hS' fun S2 a1 => ⟨fun h3 => ?_, fun h3 => ?_⟩
        · refine ih (q + 1) S2 (by omega) a1 fun S'' h4 => ?_
          have := hk S'' h4
          have h5 := bi_inj h3
          rwa [if_neg (by simp only [h5]; simp)] at this
        · have := hk S2 a1
          rwa [if_pos (by
            simp only [h2, Bool.not_false, Bool.true_and, bne_iff_ne, ne_eq]
            intro h5; exact h3 (by rw [h5]))] at this
  exact ⟨_, hz (nsq T.2.1) 0 S1 (by omega) e1 hK⟩
end OUTM
