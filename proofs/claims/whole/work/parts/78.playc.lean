/-! players by rules, the class's (Players); 57 the object, 58/59 the walk -/
section PLAYC
variable {l : Launch} {G : GG} {d : Nat} {P : Nat → Nat} {C : Nat → CE} {τ : Hp} {Q : Nat → Prop} {X : TX} {T : TB} {N : Nat} {r : RO} {k : Nat}
theorem OUr.tb (h : OUr P X T N C) (hB : okB 75 P) {K : Option Nat → Prop} : fR (ch 75 P C τ) (P 2) 3 0 K = K (some (xT X)) := by
  obtain ⟨st, s, S, h1, h2, h3, h4, h5, h6⟩ := h
  rw [fR_c hB (by decide), h6 2 (by decide) (by decide)]
  exact rR3_0
theorem LDr.tk (h : LDr P (xl X) (allL T) C k r) (hB : okB 75 P) (hk : k < 75) {K : Int32 → Prop} : fI (ch 75 P C τ) (P k) 1 2 K = K (nI (tkn (allL T) r.1)) := by
  rw [fI_c hB hk, h.1]; exact rI1_2
theorem s_X6_orElse {σ : Hp} {a b : Option Nat} {K : Option Nat → Hp → Prop} (hK : K (match a with | none => b | some x => some x) σ) : C_X6_orElse l G (d + 1) a b σ K := by
  refine m_X6_orElse ?_
  simp only [F_X6_orElse_9, F_X6_orElse]
  cases a with
  | none => exact ⟨fun b hb => (by cases hb), fun _ => hK⟩
  | some x => exact ⟨fun b hb => (by cases hb; exact hK), fun hc => (by cases hc)⟩
theorem s_X6_barest (hS : SS P τ Q X T) (hk : k + 1 < 75) (hr : LDr P (xl X) (allL T) C k r) (hG : GD (allL T) r.1) {K : Option Nat → Hp → Prop} (hK : K ((msr T (allL T) (tkn (allL T) r.1) (r.1.length % 2) (allL T) 0 none).map fun x => xl X x.1) (ch 75 P C τ)) : C_X6_barest l G (d + 4) (xT X) (P k) (ch 75 P C τ) K := by
  obtain ⟨hB, -, hQ, hW⟩ := id hS
  have hX := hS.hX C
  have hV := allL_VL hW
  have h224 := allL_224 hW
  have hk0 : k < 75 := by omega
  have htk := tkn_lt hV r.1
  refine m_X6_barest ?_
  simp only [F_X6_barest, fN_at hX.1.2, rZ8_0, rP8_0, rZ8_1, rP8_1, rZ8_2, rP8_2, rR8_3, rN8_3, rP8_3, rR8_4, rN8_4, rP8_4, rI8_5, rP8_5, rI8_6, rP8_6, rZ8_7, rP8_7, rR8_8, rN8_8, rP8_8, hX.aL]
  have hz : ∀ q i a (fw : Nat), i + q = (allL T).length → (∀ j c, a = some (j, c) → fw = c ∧ c ≤ 224) → fw ≤ 224 → K ((msr T (allL T) (tkn (allL T) r.1) (r.1.length % 2) ((allL T).drop i) i a).map fun x => xl X x.1) (ch 75 P C τ) → Z_X6_barest_18 l G (d + 3) K (q + 1) (xT X) (P k) (a.map fun x => xl X x.1) (nI fw) (xL' X) (nI (allL T).length) (nI i) (ch 75 P C τ) := by
    intro q
    induction q with
    | zero =>
      intro i a fw hi ha hfw h
      rw [List.drop_eq_nil_of_le (by omega)] at h
      simp only [Z_X6_barest_18, F_X6_barest_18]
      rw [nt_le (by omega) (by omega)]
      exact ⟨fun _ => h, fun hc => absurd (by omega) hc⟩
    | succ q ih =>
      intro i a fw hi ha hfw h
      obtain ⟨e, he⟩ : ∃ e, (allL T)[i]? = some e := ⟨_, List.getElem?_eq_getElem (by omega)⟩
      obtain ⟨g, g1, g2, g3⟩ := hX.lay he
      rw [drop_at he] at h
      simp only [msr] at h
      rw [show q + 1 + 1 = (q + 1) + 1 from rfl, Z_X6_barest_18]
      simp only [F_X6_barest_18, F_X6_barest_80, F_X6_barest_86, show nI i + 1 = nI (i + 1) from nt_add i 1, hr.tk hB hk0]
      rw [nt_le (by omega) (by omega)]
      have h1w : (1 : Int32) - nI (r.1.length % 2) = nI (1 - r.1.length % 2) := nt_sub (a := 1) (b := r.1.length % 2) (by omega) (by decide)
      refine ⟨fun hc => by omega, fun _ => hX.gN hW he (s_X1_next (d := d + 2) hB hk0 hr (hX.my (d := d + 1) hW he (by omega) (by omega) ⟨fun hm => ?_, fun hm => ?_⟩))⟩
      · rw [if_neg (by rw [hm]; decide)] at h
        exact ih (i + 1) a fw (by omega) ha hfw h
      · rw [if_pos hm] at h
        simp only [fI_at g3, rI2_0, rP2_0, rR2_1, rN2_1, rP2_1, rR2_2, rN2_2, rP2_2, rI2_3, rP2_3, rI2_4, rP2_4, rI2_5, rP2_5, rI2_6, rP2_6, rI2_7, rP2_7, rR2_8, rN2_8, rP2_8, hr.tk hB hk0, nt_or]
        refine s_X1_next (d := d + 2) hB hk0 hr ?_
        rw [h1w]
        have hlen : (mvs T (allL T) (tkn (allL T) r.1 ||| eS e) (1 - r.1.length % 2)).length ≤ 224 := Nat.le_trans (List.length_filter_le _ _) h224
        refine s_X8_countThatMay (d := d) hX hW (Nat.lt_of_lt_of_le (Nat.or_lt_two_pow (n := 14) htk (hV i e he).2.2.2.1) (by decide)) (by omega) ?_
        generalize (mvs T (allL T) (tkn (allL T) r.1 ||| eS e) (1 - r.1.length % 2)).length = c at h hlen
        cases a with
        | none =>
          exact ⟨fun _ => ih (i + 1) (some (i, c)) c (by omega) (fun j c' hj => by cases hj; exact ⟨rfl, hlen⟩) hlen h, fun b hb => by cases hb⟩
        | some y =>
          obtain ⟨j, c0⟩ := y
          obtain ⟨rfl, hc0⟩ := ha j c0 rfl
          refine ⟨fun hc => (by cases hc), fun b hb => ?_⟩
          cases hb
          rw [nt_le (by omega) (by omega)]
          refine ⟨fun h5 => ?_, fun h5 => ?_⟩
          · simp only at h
            rw [if_neg (by omega)] at h
            exact ih (i + 1) (some (j, fw)) fw (by omega) ha hfw h
          · simp only at h
            rw [if_pos (by omega)] at h
            exact ih (i + 1) (some (i, c)) c (by omega) (fun j c' hj => by cases hj; exact ⟨rfl, hlen⟩) hlen h
  exact ⟨_, hz (allL T).length 0 none 0 (by omega) (fun j c hj => by cases hj) (by decide) hK⟩
theorem s_X6_acrossLatest (hS : SS P τ Q X T) (hk : k + 1 < 75) (hr : LDr P (xl X) (allL T) C k r) (hG : GD (allL T) r.1) {f : Nat} {K : Option Nat → Hp → Prop} (hK : K (some (xl X (match r.1.getLast?.bind fun n => ((allL T)[n]?).bind fun e => acr T (allL T) e with | none => f | some o => if (((allL T)[o]?).map fun e => myE T e (tkn (allL T) r.1) (r.1.length % 2)).getD false then o else f))) (ch 75 P C τ)) : C_X6_acrossLatest l G (d + 3) (P k) (xl X f) (ch 75 P C τ) K := by
  obtain ⟨hB, -, hQ, hW⟩ := id hS
  have hX := hS.hX C
  have hV := allL_VL hW
  have hk0 : k < 75 := by omega
  have htk := tkn_lt hV r.1
  refine m_X6_acrossLatest ?_
  simp only [F_X6_acrossLatest_42, F_X6_acrossLatest_41, F_X6_acrossLatest_17, F_X6_acrossLatest]
  refine s_X1_latest (d := d) hB hk hr ?_
  cases hl : r.1.getLast? with
  | none =>
    rw [hl] at hK
    exact ⟨fun b hb => (by cases hb), fun _ => ⟨fun _ => hK, fun b hb => by cases hb⟩⟩
  | some n =>
    rw [hl] at hK
    obtain ⟨e, he, -⟩ := hG (r.1.length - 1) n (by rw [← List.getLast?_eq_getElem?]; exact hl)
    obtain ⟨g, g1, g2, g3⟩ := hX.lay he
    refine ⟨fun b hb => ?_, fun hc => by cases hc⟩
    simp only [Option.map_some, Option.some.injEq] at hb
    subst hb
    simp only [Option.bind_some, he] at hK
    simp only [fR_at g3, rI2_0, rP2_0, rR2_1, rN2_1, rP2_1, rR2_2, rN2_2, rP2_2, rI2_3, rP2_3, rI2_4, rP2_4, rI2_5, rP2_5, rI2_6, rP2_6, rI2_7, rP2_7, rR2_8, rN2_8, rP2_8]
    cases ha : acr T (allL T) e with
    | none =>
      rw [ha] at hK
      exact ⟨fun _ => hK, fun b hb => by cases hb⟩
    | some o =>
      rw [ha] at hK
      obtain ⟨eo, ho⟩ := acr_lt ha
      refine ⟨fun hc => (by cases hc), fun b hb => ?_⟩
      simp only [Option.map_some, Option.some.injEq] at hb
      subst hb
      simp only [hr.tk hB hk0]
      refine s_X1_next (d := d + 1) hB hk0 hr (hX.my (d := d) hW ho (by omega) (by omega) ⟨fun h1 => ?_, fun h1 => ?_⟩)
      · simp only [ho, Option.map_some, Option.getD_some, h1, Bool.false_eq_true, if_false] at hK
        exact hK
      · simp only [ho, Option.map_some, Option.getD_some, h1, if_true] at hK
        exact hK
theorem s_X6_drawn (hS : SS P τ Q X T) (hk : k + 1 < 75) (hr : LDr P (xl X) (allL T) C k r) (hG : GD (allL T) r.1) (hsd : r.2 < 65537) (hne : 0 < (mvs T (allL T) (tkn (allL T) r.1) (r.1.length % 2)).length) {K : Option Nat → Hp → Prop} (hK : ∀ C', Ck k (k + 1) C C' → LDr P (xl X) (allL T) C' k (r.1, drw r.2) → K ((mAt (fun e => myE T e (tkn (allL T) r.1) (r.1.length % 2)) (allL T) 0 (drw r.2 % (mvs T (allL T) (tkn (allL T) r.1) (r.1.length % 2)).length)).map (xl X)) (ch 75 P C' τ)) : C_X6_drawn l G (d + 4) (xT X) (P k) (ch 75 P C τ) K := by
  obtain ⟨hB, -, hQ, hW⟩ := id hS
  have hX := hS.hX C
  have hV := allL_VL hW
  have h224 := allL_224 hW
  have hk0 : k < 75 := by omega
  have htk := tkn_lt hV r.1
  have hlen : (mvs T (allL T) (tkn (allL T) r.1) (r.1.length % 2)).length ≤ 224 := Nat.le_trans (List.length_filter_le _ _) h224
  refine m_X6_drawn ?_
  simp only [F_X6_drawn_39, F_X6_drawn, hr.tk hB hk0]
  refine s_X1_next (d := d + 2) hB hk0 hr (s_X8_countThatMay (d := d) hX hW (by omega) (by omega) ?_)
  generalize (mvs T (allL T) (tkn (allL T) r.1) (r.1.length % 2)).length = c at hne hlen hK
  rw [show (0 : Int32) = nI 0 from rfl, nt_le (by omega) (by decide)]
  refine ⟨fun hc => by omega, fun _ => ?_⟩
  simp only [hr.tk hB hk0]
  refine s_X1_next (d := d + 2) hB hk0 hr (s_X1_draw (d := d + 2) hB hk0 hr hsd fun C' h1 h2 => ?_)
  have hdr : drw r.2 < 65537 := Nat.mod_lt _ (by decide)
  refine ⟨by rw [nt_eq (by omega) (by decide)]; omega, ?_⟩
  rw [nt_rem (by omega) hne (by omega)]
  exact s_X8_thatMay (d := d) (hS.hX C') hW (by omega) (by omega) (Nat.lt_of_lt_of_le (Nat.mod_lt _ hne) (by omega)) (hK C' h1 h2)
/-- only the Outlook, and the Laid at k -/
def Fk (k : Nat) (C C' : Nat → CE) : Prop := ∀ j, j < 2 ∨ 11 < j → j ≠ k → j ≠ k + 1 → C' j = C j
theorem Fk.rf {k : Nat} {C : Nat → CE} : Fk k C C := fun _ _ _ _ => rfl
theorem Fk.tr {k : Nat} {C C' C'' : Nat → CE} (h : Fk k C C') (h' : Fk k C' C'') : Fk k C C'' := fun j a b c => (h' j a b c).trans (h j a b c)
theorem Ck.fk {k : Nat} {C C' : Nat → CE} (h : Ck k (k + 1) C C') : Fk k C C' := fun j _ b c => h j (by omega)
theorem Ck.fo {k : Nat} {C C' : Nat → CE} (h : Ck 2 11 C C') : Fk k C C' := fun j a _ _ => h j a
theorem s_X6_choose (hS : SS P τ Q X T) (hO : OUr P X T N C) (hk : k + 1 < 75) (hk12 : 12 ≤ k) (hr : LDr P (xl X) (allL T) C k r) (hG : GD (allL T) r.1) (hsd : r.2 < 65537) (h57 : C 57 = O6 (some (P 58))) {p : Nat} (hp : p < 5) {K : Option Nat → Hp → Prop} (hK : ∀ C', Fk k C C' → OUr P X T N C' → LDr P (xl X) (allL T) C' k (r.1, (chs T (allL T) p (tkn (allL T) r.1) (r.1.length % 2) r.1.getLast? r.2).2) → K ((chs T (allL T) p (tkn (allL T) r.1) (r.1.length % 2) r.1.getLast? r.2).1.map (xl X)) (ch 75 P C' τ)) : C_X6_choose l G (d + 21) (P 57) (nI p) (P 2) (P k) (ch 75 P C τ) K := by
  obtain ⟨hB, -, hQ, hW⟩ := id hS
  have hX := hS.hX C
  have hV := allL_VL hW
  have hk0 : k < 75 := by omega
  have htk := tkn_lt hV r.1
  have htk2 := tkn_lt2 hW r.1
  refine m_X6_choose (rv_c hB (by decide) (by rw [h57]; exact ⟨_, rfl⟩)) ?_
  simp only [F_X6_choose, hO.tb hB, reduceCtorEq, false_implies, true_implies, forall_const, true_and, and_true, eq_self, Option.some.injEq, forall_eq', hr.tk hB hk0]
  refine s_X1_next (d := d + 19) hB hk0 hr (s_X8_thatMay (d := d + 17) (w := 0) hX hW (by omega) (by omega) (by decide) ?_)
  cases hf : mAt (fun e => myE T e (tkn (allL T) r.1) (r.1.length % 2)) (allL T) 0 0 with
  | none =>
    have h1 : chs T (allL T) p (tkn (allL T) r.1) (r.1.length % 2) r.1.getLast? r.2 = (none, r.2) := by unfold chs; rw [hf]
    rw [h1] at hK
    simp only [F_X6_choose_29, reduceCtorEq, false_implies, true_implies, forall_const, true_and, and_true, eq_self, Option.map_none]
    exact hK C Fk.rf hO hr
  | some f =>
    have hne : 0 < (mvs T (allL T) (tkn (allL T) r.1) (r.1.length % 2)).length := by
      cases hm : mvs T (allL T) (tkn (allL T) r.1) (r.1.length % 2) with
      | nil => rw [(mAt_0 _ _).mpr hm] at hf; cases hf
      | cons => simp
    unfold chs at hK
    rw [hf] at hK
    simp only [F_X6_choose_29, reduceCtorEq, false_implies, true_implies, forall_const, true_and, and_true, eq_self, Option.map_some, Option.some.injEq, forall_eq', exists_eq_left']
    rw [show (1 : Int32) = nI 1 from rfl, show (2 : Int32) = nI 2 from rfl, show (3 : Int32) = nI 3 from rfl, show (4 : Int32) = nI 4 from rfl, nt_eq (by omega) (by decide), nt_eq (by omega) (by decide), nt_eq (by omega) (by decide), nt_eq (by omega) (by decide)]
    refine ⟨fun h1 => ?_, fun h1 => ?_, fun h1 => ?_, fun h1 => ?_, fun h1 h2 h3 h4 => ?_⟩
    · subst h1
      simp only [Nat.reduceEqDiff, if_false, if_true] at hK
      refine s_X6_barest (d := d + 16) hS hk hr hG ?_
      have := hK C Fk.rf hO hr
      rwa [Option.map_map] at this
    · subst h1
      simp only [Nat.reduceEqDiff, if_false, if_true] at hK
      refine s_X6_acrossLatest (d := d + 17) hS hk hr hG ?_
      cases hb : r.1.getLast?.bind fun n => ((allL T)[n]?).bind fun e => acr T (allL T) e with
      | none =>
        rw [hb] at hK
        exact hK C Fk.rf hO hr
      | some o =>
        rw [hb] at hK
        simp only at hK ⊢
        split
        · rename_i h5
          rw [if_pos h5] at hK
          exact hK C Fk.rf hO hr
        · rename_i h5
          rw [if_neg h5] at hK
          exact hK C Fk.rf hO hr
    · subst h1
      simp only [Nat.reduceEqDiff, if_false, if_true] at hK
      exact s_X6_drawn (d := d + 16) hS hk hr hG hsd hne fun C' a1 a2 => hK C' a1.fk (hO.cg fun j _ _ => a1 j (by omega)) a2
    · subst h1
      simp only [Nat.reduceEqDiff, if_false] at hK
      simp only [hr.tk hB hk0]
      refine s_X1_next (d := d + 19) hB hk0 hr (c_firstWinning (d := d) hS hO htk2 (by omega) fun C' a1 a2 => s_X6_orElse (d := d + 19) ?_)
      have := hK C' a1.fo a2 (hr.cg (a1 _ (by omega)) (a1 _ (by omega)))
      cases hg : mAt (gdE T (allL T) (tkn (allL T) r.1) (r.1.length % 2)) (allL T) 0 0 with
      | none => rw [hg] at this; exact this
      | some x => rw [hg] at this; exact this
    · have h5 : p = 0 := by omega
      subst h5
      simp only [if_true] at hK
      exact hK C Fk.rf hO hr
theorem s_X6_wouldLay (hS : SS P τ Q X T) (hO : OUr P X T N C) (hr : LDr P (xl X) (allL T) C 12 r) (hG : GD (allL T) r.1) (hsd : r.2 < 65537) (h57 : C 57 = O6 (some (P 58))) (h58 : LDs P C 58) {p : Nat} (hp : p < 5) {K : Option Nat → Hp → Prop} (hK : ∀ C', Fk 58 C C' → OUr P X T N C' → LDs P C' 58 → K ((chs T (allL T) p (tkn (allL T) r.1) (r.1.length % 2) r.1.getLast? r.2).1.map (xl X)) (ch 75 P C' τ)) : C_X6_wouldLay l G (d + 22) (P 57) (nI p) (P 2) (P 12) (ch 75 P C τ) K := by
  obtain ⟨hB, -, hQ, hW⟩ := id hS
  refine m_X6_wouldLay (rv_c hB (by decide) (by rw [h57]; exact ⟨_, rfl⟩)) ?_
  simp only [F_X6_wouldLay, fI_c hB, fZ_c hB, fJ_c hB, fR_c hB, fN_c hB, pF_c hB, gI_c hB, gZ_c hB, gJ_c hB, gN_c hB, sI_c hB, sZ_c hB, sJ_c hB, sN_c hB, aL_c hB, Nat.reduceLT, h57, rR6_0, rN6_0, rP6_0]
  refine s_X1_copy (d := d + 20) (k := 58) hB (by decide) (by decide) (by omega) hr h58 (hS.lys hG) fun C' a1 a2 => ?_
  have b57 := (a1 57 (by omega)).trans h57
  simp only [fI_c hB, fZ_c hB, fJ_c hB, fR_c hB, fN_c hB, pF_c hB, gI_c hB, gZ_c hB, gJ_c hB, gN_c hB, sI_c hB, sZ_c hB, sJ_c hB, sN_c hB, aL_c hB, Nat.reduceLT, b57, rR6_0, rN6_0, rP6_0]
  exact s_X6_choose (d := d) hS (hO.cg fun j _ _ => a1 j (by omega)) (by decide) (by decide) a2 hG hsd b57 hp fun C'' b1 b2 b3 => hK C'' (a1.fk.tr b1) b2 b3.s
theorem s_X6_lengthOfMatch (hS : SS P τ Q X T) (hO : OUr P X T N C) (hr : LDr P (xl X) (allL T) C 12 r) (hG : GD (allL T) r.1) (hsd : r.2 < 65537) (h57 : C 57 = O6 (some (P 58))) (h58 : LDs P C 58) {p q : Nat} (hp : p < 5) (hq : q < 5) {K : Int32 → Hp → Prop} (hK : ∀ C', Fk 58 C C' → OUr P X T N C' → LDs P C' 58 → K (nI (mtc T (allL T) p q (r.1.length % 2) 14 0 (tkn (allL T) r.1) r.1.getLast? r.2)) (ch 75 P C' τ)) : C_X6_lengthOfMatch l G (d + 22) (P 57) (nI p) (nI q) (P 2) (P 12) (ch 75 P C τ) K := by
  obtain ⟨hB, -, hQ, hW⟩ := id hS
  have hV := allL_VL hW
  refine m_X6_lengthOfMatch (rv_c hB (by decide) (by rw [h57]; exact ⟨_, rfl⟩)) ?_
  simp only [F_X6_lengthOfMatch, fI_c hB, fZ_c hB, fJ_c hB, fR_c hB, fN_c hB, pF_c hB, gI_c hB, gZ_c hB, gJ_c hB, gN_c hB, sI_c hB, sZ_c hB, sJ_c hB, sN_c hB, aL_c hB, Nat.reduceLT, h57, rR6_0, rN6_0, rP6_0]
  refine s_X1_copy (d := d + 20) (k := 58) hB (by decide) (by decide) (by omega) hr h58 (hS.lys hG) fun C' a1 a2 => ?_
  have hz : ∀ n len C' (r' : RO), len + n = 14 → Fk 58 C C' → OUr P X T N C' → LDr P (xl X) (allL T) C' 58 r' → GD (allL T) r'.1 → r'.2 < 65537 → r'.1.length = r.1.length + len → (∀ C', Fk 58 C C' → OUr P X T N C' → LDs P C' 58 → K (nI (mtc T (allL T) p q (r.1.length % 2) n len (tkn (allL T) r'.1) r'.1.getLast? r'.2)) (ch 75 P C' τ)) → Z_X6_lengthOfMatch_12 l G (d + 21) K (n + 1) (P 57) (nI p) (nI q) (P 2) (nI len) (ch 75 P C' τ) := by
    intro n
    induction n with
    | zero =>
      intro len C' r' hn c1 c2 c3 hG' hs' hl hk
      simp only [Z_X6_lengthOfMatch_12, F_X6_lengthOfMatch_12]
      rw [show (14 : Int32) = nI 14 from rfl, nt_le (by decide) (by omega)]
      obtain rfl : len = 14 := by omega
      exact ⟨fun _ => hk C' c1 c2 c3.s, fun hc => absurd (by omega) hc⟩
    | succ n ih =>
      intro len C' r' hn c1 c2 c3 hG' hs' hl hk
      have b57 := (c1 57 (by omega) (by decide) (by decide)).trans h57
      have hwho : (r.1.length % 2 + len) % 2 = r'.1.length % 2 := by omega
      simp only [mtc, hwho] at hk
      have h32 : ∀ pl, pl < 5 → (if len % 2 = 0 then p else q) = pl → F_X6_lengthOfMatch_32 l G (d + 21) (Z_X6_lengthOfMatch_12 l G (d + 21) K (n + 1)) (P 57) (nI p) (nI q) (P 2) (nI len) (P 57) (nI pl) (ch 75 P C' τ) K := by
        intro pl hpl hpe
        rw [hpe] at hk
        simp only [F_X6_lengthOfMatch_32, fI_c hB, fZ_c hB, fJ_c hB, fR_c hB, fN_c hB, pF_c hB, gI_c hB, gZ_c hB, gJ_c hB, gN_c hB, sI_c hB, sZ_c hB, sJ_c hB, sN_c hB, aL_c hB, Nat.reduceLT, b57, rR6_0, rN6_0, rP6_0]
        have hsd' := chs_sd (T := T) (L := allL T) (p := pl) (tk := tkn (allL T) r'.1) (who := r'.1.length % 2) (last := r'.1.getLast?) hs'
        refine s_X6_choose (d := d) hS c2 (by decide) (by decide) c3 hG' hs' b57 hpl fun C2 e1 e2 e3 => ?_
        cases hm : mvs T (allL T) (tkn (allL T) r'.1) (r'.1.length % 2) with
        | nil =>
          rw [chs_none hm] at hk ⊢
          exact ⟨fun b hb => (by cases hb), fun _ => hk C2 (c1.tr e1) e2 e3.s⟩
        | cons y ys =>
          obtain ⟨x, e, f1, f2, f3⟩ := chs_ok (T := T) (L := allL T) (p := pl) (tk := tkn (allL T) r'.1) (who := r'.1.length % 2) (last := r'.1.getLast?) (s := r'.2) (by rw [hm]; simp)
          generalize hc : chs T (allL T) pl (tkn (allL T) r'.1) (r'.1.length % 2) r'.1.getLast? r'.2 = y at hk f1 e3 hsd'
          obtain ⟨o, sd'⟩ := y
          simp only at f1 hsd'
          subst f1
          simp only at hk
          obtain ⟨w1, w2⟩ := may_13 hV hG' f2 f3
          obtain ⟨q1, h2⟩ := hS.2.1.2.2.2.2.2.2 _ _ f2
          refine ⟨fun b hb => ?_, fun hc => by cases hc⟩
          simp only [Option.map_some, Option.some.injEq] at hb
          subst hb
          have b57' := (e1 57 (by omega) (by decide) (by decide)).trans b57
          simp only [fI_c hB, fZ_c hB, fJ_c hB, fR_c hB, fN_c hB, pF_c hB, gI_c hB, gZ_c hB, gJ_c hB, gN_c hB, sI_c hB, sZ_c hB, sJ_c hB, sN_c hB, aL_c hB, Nat.reduceLT, b57', rR6_0, rN6_0, rP6_0]
          refine s_X1_add (d := d + 20) (k := 58) hB (by decide) e3 (hQ _ q1) h2 f2 w1 fun C3 g1 g2 => ?_
          rw [show nI len + 1 = nI (len + 1) from nt_add len 1]
          refine ih (len + 1) C3 (r'.1 ++ [x], sd') (by omega) ((c1.tr e1).tr g1.fk) (e2.cg fun j _ _ => g1 j (by omega)) g2 w2 hsd' (by rw [List.length_append, hl]; rfl) fun C4 k1 k2 k3 => ?_
          have := hk C4 k1 k2 k3
          simp only
          rw [tkn_snoc, List.getLast?_append]
          exact this
      rw [show n + 1 + 1 = (n + 1) + 1 from rfl, Z_X6_lengthOfMatch_12]
      simp only [F_X6_lengthOfMatch_12]
      rw [show (14 : Int32) = nI 14 from rfl, nt_le (by decide) (by omega), show (1 : Int32) = nI 1 from rfl, nt_and, Nat.and_one_is_mod, nt_0 (by omega)]
      exact ⟨fun hc => by omega, fun _ => ⟨fun h1 => h32 q hq (if_neg h1), fun h1 => h32 p hp (if_pos h1)⟩⟩
  exact ⟨_, hz 14 0 C' r (by omega) a1.fk (hO.cg fun j _ _ => a1 j (by omega)) a2 hG hsd rfl hK⟩
end PLAYC
