/-! players in the model -/
theorem mAt_spec {f : LY → Bool} : ∀ (L : List LY) k i n, mAt f L k i = some n → ∃ e, L[n - k]? = some e ∧ f e = true
  | [], k, i, n => by simp [mAt]
  | e :: es, k, i, n => by
    simp only [mAt]
    split
    · rename_i h1
      split
      · intro h; cases h; exact ⟨e, by simp, h1⟩
      · intro h
        obtain ⟨e', h2, h3⟩ := mAt_spec es (k + 1) (i - 1) n h
        have := mAt_lt _ _ _ _ h
        refine ⟨e', ?_, h3⟩
        rw [show n - k = (n - (k + 1)) + 1 by omega, List.getElem?_cons_succ]
        exact h2
    · intro h
      obtain ⟨e', h2, h3⟩ := mAt_spec es (k + 1) i n h
      have := mAt_lt _ _ _ _ h
      refine ⟨e', ?_, h3⟩
      rw [show n - k = (n - (k + 1)) + 1 by omega, List.getElem?_cons_succ]
      exact h2
theorem mAt_first {f : LY → Bool} : ∀ (L : List LY) k n, mAt f L k 0 = some n → ∀ j e, k + j < n → L[j]? = some e → f e = false
  | [], k, n => by simp [mAt]
  | e :: es, k, n => by
    simp only [mAt, if_true]
    split
    · intro h; cases h; intro j e' hj; omega
    · rename_i h1
      intro h j e' hj he
      cases j with
      | zero => simp at he; subst he; simpa using h1
      | succ j => exact mAt_first es (k + 1) n h j e' (by omega) (by simpa using he)
theorem mAt_some {f : LY → Bool} : ∀ (L : List LY) k i, i < (L.filter f).length → ∃ n, mAt f L k i = some n
  | [], k, i => by simp
  | e :: es, k, i => by
    simp only [mAt, List.filter_cons]
    split
    · intro h
      split
      · exact ⟨_, rfl⟩
      · exact mAt_some es (k + 1) (i - 1) (by simp at h; omega)
    · intro h; exact mAt_some es (k + 1) i h
theorem msr_ok {T : TB} {L : List LY} {tk who : Nat} : ∀ (es : List LY) (k : Nat) (a : Option (Nat × Nat)), (∀ j, es[j]? = L[k + j]?) → (∀ i c, a = some (i, c) → ∃ e, L[i]? = some e ∧ myE T e tk who = true) → (a = none → es.filter (fun e => myE T e tk who) ≠ []) → ∃ i c e, msr T L tk who es k a = some (i, c) ∧ L[i]? = some e ∧ myE T e tk who = true
  | [], k, a => fun _ h1 h2 => by
    cases a with
    | none => exact absurd rfl (h2 rfl)
    | some x =>
      obtain ⟨e, h3, h4⟩ := h1 x.1 x.2 rfl
      exact ⟨x.1, x.2, e, rfl, h3, h4⟩
  | e :: es, k, a => fun h0 h1 h2 => by
    have hk : L[k]? = some e := by have := h0 0; simpa using this.symm
    have h0' : ∀ j, es[j]? = L[k + 1 + j]? := fun j => by
      have := h0 (j + 1)
      rw [List.getElem?_cons_succ] at this
      rw [this]
      congr 1
      omega
    simp only [msr]
    cases hm : myE T e tk who with
    | true =>
      simp only [if_true]
      refine msr_ok es (k + 1) _ h0' (fun i c hi => ?_) (fun hc => ?_)
      · cases a with
        | none => simp only [Option.some.injEq, Prod.mk.injEq] at hi; rw [← hi.1]; exact ⟨e, hk, hm⟩
        | some x =>
          simp only at hi
          split at hi
          · simp only [Option.some.injEq, Prod.mk.injEq] at hi; rw [← hi.1]; exact ⟨e, hk, hm⟩
          · simp only [Option.some.injEq, Prod.mk.injEq] at hi; rw [← hi.1]; exact h1 x.1 x.2 rfl
      · cases a with
        | none => simp at hc
        | some x => simp only at hc; split at hc <;> cases hc
    | false =>
      simp only [Bool.false_eq_true, if_false]
      refine msr_ok es (k + 1) a h0' h1 fun hc => ?_
      have := h2 hc
      rwa [List.filter_cons, if_neg (by rw [hm]; decide)] at this
theorem mvs_ne {T : TB} {L : List LY} {tk who f : Nat} (h : mAt (fun e => myE T e tk who) L 0 0 = some f) : mvs T L tk who ≠ [] := by
  intro hc
  have : mAt (fun e => myE T e tk who) L 0 0 = none := (mAt_0 L 0).mpr hc
  rw [this] at h
  cases h
theorem chs_ok {T : TB} {L : List LY} {p tk who : Nat} {last : Option Nat} {s : Nat} (h : mvs T L tk who ≠ []) : ∃ x e, (chs T L p tk who last s).1 = some x ∧ L[x]? = some e ∧ myE T e tk who = true := by
  obtain ⟨f, hf⟩ : ∃ f, mAt (fun e => myE T e tk who) L 0 0 = some f := by
    cases hm : mAt (fun e => myE T e tk who) L 0 0 with
    | none => exact absurd ((mAt_0 L 0).mp hm) h
    | some f => exact ⟨f, rfl⟩
  obtain ⟨ef, hf1, hf2⟩ := mAt_spec L 0 0 f hf
  rw [Nat.sub_zero] at hf1
  unfold chs
  simp only [hf]
  split
  · exact ⟨f, ef, rfl, hf1, hf2⟩
  split
  · obtain ⟨i, c, e, h1, h2, h3⟩ := msr_ok (T := T) (tk := tk) (who := who) (L := L) L 0 none (fun j => by rw [Nat.zero_add]) (fun i c hc => by cases hc) (fun _ => h)
    exact ⟨i, e, by rw [h1]; rfl, h2, h3⟩
  split
  · split
    · exact ⟨f, ef, rfl, hf1, hf2⟩
    · rename_i o ho
      split
      · rename_i hm
        cases hL : L[o]? with
        | none => rw [hL] at hm; simp at hm
        | some e => rw [hL] at hm; exact ⟨o, e, rfl, hL, by simpa using hm⟩
      · exact ⟨f, ef, rfl, hf1, hf2⟩
  split
  · have hp : 0 < (mvs T L tk who).length := List.length_pos_iff.mpr h
    obtain ⟨n, hn⟩ := mAt_some (f := fun e => myE T e tk who) L 0 (drw s % (mvs T L tk who).length) (Nat.mod_lt _ hp)
    obtain ⟨e, h1, h2⟩ := mAt_spec L 0 _ n hn
    exact ⟨n, e, hn, by simpa using h1, h2⟩
  · cases hg : mAt (gdE T L tk who) L 0 0 with
    | none => exact ⟨f, ef, rfl, hf1, hf2⟩
    | some n =>
      obtain ⟨e, h1, h2⟩ := mAt_spec L 0 0 n hg
      refine ⟨n, e, rfl, by simpa using h1, ?_⟩
      simp only [gdE, Bool.and_eq_true] at h2
      exact h2.1
theorem chs_none {T : TB} {L : List LY} {p tk who : Nat} {last : Option Nat} {s : Nat} (h : mvs T L tk who = []) : chs T L p tk who last s = (none, s) := by
  have : mAt (fun e => myE T e tk who) L 0 0 = none := (mAt_0 L 0).mpr h
  simp only [chs, this]
theorem drw_lt (s : Nat) : drw s < 65537 := Nat.mod_lt _ (by decide)
theorem chs_sd {T : TB} {L : List LY} {p tk who : Nat} {last : Option Nat} {s : Nat} (h : s < 65537) : (chs T L p tk who last s).2 < 65537 := by
  unfold chs
  split
  · exact h
  · (repeat' split) <;> first | exact h | exact drw_lt s
section PLY
variable {l : Launch} {G : GG} {d m : Nat} {A : Nat → Nat} {S : MS} {ρ : Hp} {Z : ST} {T : TB} {L : List LY}
theorem s_X12_latest (hA : okA m A) {r : RO} (hr : RW r (S.2.2.1 17) 0) (h14 : r.1.length ≤ 14) (hb : ∀ (k v : Nat), r.1[k]? = some v → v < 2 ^ 31) {K : Int32 → Hp → Prop} (h : K (optF (lastO r)) (mh m A S ρ)) : C_X12_latest l G (d + 1) m (mh m A S ρ) K := by
  obtain ⟨r0, r1, -⟩ := hr
  refine m_X12_latest rv_m ?_
  simp only [F_X12_latest_29, F_X12_latest, mfI_0, mpI_0, mfN_1, mfI_2, mpI_2, mfI_3, mpI_3, mfI_4, mpI_4, mfI_5, mpI_5, mfI_6, mpI_6, mfI_7, mpI_7, mfI_8, mpI_8, mfI_9, mpI_9, mfI_10, mpI_10, mfI_11, mpI_11, mfN_12, mfZ_13, mpZ_13, mfZ_14, mpZ_14, mfN_15, mfN_16, mfN_17, mfN_18, mfN_19, mfN_20, mfI_21, mpI_21, mfI_22, mpI_22, mfN_23, mfN_24, mfN_25, mfN_26, mfN_27, mfN_28, mfN_29, mfI_30, mpI_30, mfN_31, mfN_32, mfN_33, mfN_34, mfN_35, mfN_36, mfN_37, mfI_38, mpI_38, mfN_39, mfI_40, mpI_40, mfI_41, mpI_41, mgI_1 hA, msI_1 hA, mgI_12 hA, msI_12 hA, mgI_15 hA, msI_15 hA, mgI_16 hA, msI_16 hA, mgI_17 hA, msI_17 hA, mgI_18 hA, msI_18 hA, mgI_19 hA, msI_19 hA, mgI_20 hA, msI_20 hA, mgI_23 hA, msI_23 hA, mgI_24 hA, msI_24 hA, mgI_25 hA, msI_25 hA, mgI_26 hA, msI_26 hA, mgI_27 hA, msI_27 hA, mgI_28 hA, msI_28 hA, mgI_29 hA, msI_29 hA, mgI_31 hA, msI_31 hA, mgI_32 hA, msI_32 hA, mgI_33 hA, msI_33 hA, mgI_34 hA, msI_34 hA, mgI_35 hA, msI_35 hA, mgI_36 hA, msI_36 hA, mgI_39 hA, msI_39 hA, mgJ hA, msJ hA, show (0 : Int32).toNatClampNeg = 0 from rfl, r0]
  rw [nt_0 (by omega)]
  refine ⟨(vin 0 (by decide) (by decide)), fun h1 => ⟨(vin 0 (by decide) (by decide)), ?_⟩, fun h1 => ?_⟩
  · rw [show (1 : Int32) + nI r.1.length - 1 = nI r.1.length by rw [show (1 : Int32) = nI 1 from rfl, nt_add, nt_sub (by omega) (by omega)]; congr 1; omega, nI_clamp (by omega)]
    obtain ⟨v, hv⟩ : ∃ v, r.1[r.1.length - 1]? = some v := ⟨_, List.getElem?_eq_getElem (by omega)⟩
    have := r1 _ v hv
    rw [show 0 + 1 + (r.1.length - 1) = r.1.length by omega] at this
    rw [this]
    refine ⟨(nt_in (by omega)).mpr (by omega), ?_⟩
    rw [lastO, List.getLast?_eq_getElem?, hv] at h
    exact h
  · have : r.1 = [] := List.length_eq_zero_iff.mp h1
    rw [lastO, this] at h
    exact h
theorem s_X12_isPlayer (hT : S.2.1 14 = true) {v : Int32} {K : Bool → Hp → Prop} (h : K (inR v 0 4) (mh m A S ρ)) : C_X12_isPlayer l G (d + 2) m v (mh m A S ρ) K := by
  refine m_X12_isPlayer rv_m ?_
  simp only [F_X12_isPlayer_21, F_X12_isPlayer_20, F_X12_isPlayer, mfZ_14, hT, reduceCtorEq, false_implies, true_implies, forall_const, true_and, and_true, eq_self]
  refine s_X12_inR 0 4 ?_
  exact ⟨fun h1 => by rw [h1] at h; exact h, fun h1 => by rw [h1] at h; exact h⟩
theorem s_X12_isPlayer_no (hT : S.2.1 14 = false) {v : Int32} {K : Bool → Hp → Prop} (h : K false (mh m A S ρ)) : C_X12_isPlayer l G (d + 2) m v (mh m A S ρ) K := by
  refine m_X12_isPlayer rv_m ?_
  simp only [F_X12_isPlayer_21, F_X12_isPlayer_20, F_X12_isPlayer, mfZ_14, hT, reduceCtorEq, false_implies, true_implies, forall_const, true_and, and_true, eq_self]
  exact h
theorem z_miser (hA : okA m A) (gS : GS T L S) (hW : WFT T) (hV : VL T L) {tk who f : Nat} (htk : tk < 16384) (hwho : who < 2) (hf : mAt (fun e => myE T e tk who) L 0 0 = some f) {K : Int32 → Hp → Prop} : ∀ r k (a : Option (Nat × Nat)) i, k + r = L.length → (a = none ∧ i = f ∧ k ≤ f ∨ ∃ e, L[i]? = some e ∧ myE T e tk who = true ∧ a = some (i, (mvs T L (tk ||| eS e) (1 - who)).length)) → K (optF ((msr T L tk who (L.drop k) k a).map fun x => x.1)) (mh m A S ρ) → Z_X12_wouldLay_58 l G (d + 29) K (r + 1) m (nI (sd tk who)) (nI i) (nI k) (mh m A S ρ) := by
  have h224 := gS.2.1.1
  have hfl := mAt_lt _ _ _ _ hf
  obtain ⟨ef, hf1, hf2⟩ := mAt_spec L 0 0 f hf
  rw [Nat.sub_zero] at hf1
  intro r
  induction r with
  | zero =>
    intro k a i hk ha h
    rw [List.drop_eq_nil_of_le (by omega)] at h
    simp only [Z_X12_wouldLay_58, F_X12_wouldLay_58, mfI_0, mpI_0, mfN_1, mfI_2, mpI_2, mfI_3, mpI_3, mfI_4, mpI_4, mfI_5, mpI_5, mfI_6, mpI_6, mfI_7, mpI_7, mfI_8, mpI_8, mfI_9, mpI_9, mfI_10, mpI_10, mfI_11, mpI_11, mfN_12, mfZ_13, mpZ_13, mfZ_14, mpZ_14, mfN_15, mfN_16, mfN_17, mfN_18, mfN_19, mfN_20, mfI_21, mpI_21, mfI_22, mpI_22, mfN_23, mfN_24, mfN_25, mfN_26, mfN_27, mfN_28, mfN_29, mfI_30, mpI_30, mfN_31, mfN_32, mfN_33, mfN_34, mfN_35, mfN_36, mfN_37, mfI_38, mpI_38, mfN_39, mfI_40, mpI_40, mfI_41, mpI_41, gS.2.1.2.1]
    rw [nt_le (by omega) (by omega)]
    refine ⟨fun _ => ?_, fun hc => absurd (by omega) hc⟩
    rcases ha with ⟨h1, h2, h3⟩ | ⟨e, h1, h2, h3⟩
    · omega
    · rw [h3] at h; exact h
  | succ r ih =>
    intro k a i hk ha h
    obtain ⟨o, ho⟩ : ∃ o, L[k]? = some o := ⟨_, List.getElem?_eq_getElem (by omega)⟩
    obtain ⟨⟨p, hp⟩, -, u1, u2, -⟩ := hV k o ho
    rw [drop_at ho] at h
    simp only [msr] at h
    have e1 : nI k + 1 = nI (k + 1) := nt_add k 1
    rw [show r + 1 + 1 = (r + 1) + 1 from rfl, Z_X12_wouldLay_58]
    simp only [F_X12_wouldLay_58, F_X12_wouldLay_106, mfI_0, mpI_0, mfN_1, mfI_2, mpI_2, mfI_3, mpI_3, mfI_4, mpI_4, mfI_5, mpI_5, mfI_6, mpI_6, mfI_7, mpI_7, mfI_8, mpI_8, mfI_9, mpI_9, mfI_10, mpI_10, mfI_11, mpI_11, mfN_12, mfZ_13, mpZ_13, mfZ_14, mpZ_14, mfN_15, mfN_16, mfN_17, mfN_18, mfN_19, mfN_20, mfI_21, mpI_21, mfI_22, mpI_22, mfN_23, mfN_24, mfN_25, mfN_26, mfN_27, mfN_28, mfN_29, mfI_30, mpI_30, mfN_31, mfN_32, mfN_33, mfN_34, mfN_35, mfN_36, mfN_37, mfI_38, mpI_38, mfN_39, mfI_40, mpI_40, mfI_41, mpI_41, gS.2.1.2.1, e1]
    rw [nt_le (by omega) (by omega)]
    refine ⟨fun hc => by omega, fun _ => s_X12_mayBe hA gS.1 hW gS.2.1 ho hp htk hwho ⟨fun h1 => ?_, fun h1 => ?_⟩⟩
    · rw [if_neg (by rw [h1]; decide)] at h
      refine ih (k + 1) a i (by omega) ?_ h
      rcases ha with ⟨a1, a2, a3⟩ | ha
      · refine Or.inl ⟨a1, a2, ?_⟩
        rcases Nat.lt_or_ge k f with h3 | h3
        · omega
        · obtain rfl : k = f := by omega
          rw [hf1] at ho
          cases ho
          rw [hf2] at h1
          exact absurd h1 (by decide)
      · exact Or.inr ha
    · rw [if_pos h1] at h
      have hcl : ∀ tk' who', (mvs T L tk' who').length ≤ L.length := fun _ _ => List.length_filter_le _ _
      have hco := hcl (tk ||| eS o) (1 - who)
      refine s_X12_behind hA gS.2.1 hV ho htk hwho ?_
      refine s_X12_manyMay hA gS.1 hW gS.2.1 hV (Nat.or_lt_two_pow (n := 14) htk u2) (by omega) ?_
      rcases ha with ⟨a1, a2, a3⟩ | ⟨e, b1, b2, b3⟩
      · have hkf : k = f := by
          rcases Nat.lt_or_ge k f with h3 | h3
          · have := mAt_first L 0 f hf k o (by omega) ho
            rw [h1] at this
            exact absurd this (by decide)
          · omega
        subst hkf a2 a1
        refine s_X12_behind hA gS.2.1 hV ho htk hwho ?_
        refine s_X12_manyMay hA gS.1 hW gS.2.1 hV (Nat.or_lt_two_pow (n := 14) htk u2) (by omega) ?_
        have hr := ih (i + 1) (some (i, (mvs T L (tk ||| eS o) (1 - who)).length)) i (by omega) (Or.inr ⟨o, ho, h1, rfl⟩) h
        exact ⟨fun _ => hr, fun _ => hr⟩
      · have hil := (List.getElem?_eq_some_iff.mp b1).1
        have hci := hcl (tk ||| eS e) (1 - who)
        refine s_X12_behind hA gS.2.1 hV b1 htk hwho ?_
        refine s_X12_manyMay hA gS.1 hW gS.2.1 hV (Nat.or_lt_two_pow (n := 14) htk (hV i e b1).2.2.2.1) (by omega) ?_
        rw [b3] at h
        try simp only at h
        have hle := nt_le (a := (mvs T L (tk ||| eS e) (1 - who)).length) (b := (mvs T L (tk ||| eS o) (1 - who)).length) (Nat.lt_of_le_of_lt hci (by omega)) (Nat.lt_of_le_of_lt hco (by omega))
        refine ⟨fun h5 => ?_, fun h5 => ?_⟩
        · rw [if_neg (Nat.not_lt.mpr (hle.mp h5))] at h
          exact ih (k + 1) _ i (by omega) (Or.inr ⟨e, b1, b2, rfl⟩) h
        · rw [if_pos (Nat.lt_of_not_le fun h6 => h5 (hle.mpr h6))] at h
          exact ih (k + 1) _ k (by omega) (Or.inr ⟨o, ho, h1, rfl⟩) h
theorem s_X12_wouldLay (hA : okA m A) (gS : GS T L S) (hW : WFT T) (hV : VL T L) {p tk who s : Nat} {last : Option Nat} (hp4 : p ≤ 4) (htk : tk < 16384) (hwho : who < 2) (hs : s < 65537) (h40 : S.1 40 = nI s) (hl : ∀ n, last = some n → n < L.length) {K : Int32 → Hp → Prop} (hK : ∀ S', Gm [38, 40] S S' → GS T L S' → S'.1 40 = nI (chs T L p tk who last s).2 → K (optF (chs T L p tk who last s).1) (mh m A S' ρ)) : C_X12_wouldLay l G (d + 30) m (nI p) (nI (sd tk who)) (optF last) (mh m A S ρ) K := by
  have h224 := gS.2.1.1
  refine m_X12_wouldLay rv_m ?_
  simp only [F_X12_wouldLay]
  refine s_X12_mayAt hA gS.1 hW gS.2.1 hV htk hwho (i := 0) (by decide) ?_
  unfold chs at hK
  cases hf : mAt (fun e => myE T e tk who) L 0 0 with
  | none =>
    simp only [hf] at hK
    exact ⟨fun hc => absurd rfl hc, fun _ => hK S Gm.rf gS h40⟩
  | some f =>
    simp only [hf] at hK
    have hfl := mAt_lt _ _ _ _ hf
    refine ⟨fun _ => ?_, fun hc => absurd hc (nI_nm2 (by omega))⟩
    rw [show (0 : Int32) = nI 0 from rfl, show (1 : Int32) = nI 1 from rfl, show (2 : Int32) = nI 2 from rfl, show (3 : Int32) = nI 3 from rfl, nt_eq (by omega) (by omega), nt_eq (by omega) (by omega), nt_eq (by omega) (by omega), nt_eq (by omega) (by omega)]
    refine ⟨fun h1 => ?_, fun h1 => ?_, fun h1 => ?_, fun h1 => ?_, fun n0 n1 n2 n3 => ?_⟩
    · subst h1
      simp only [if_true] at hK
      exact hK S Gm.rf gS h40
    · subst h1
      simp only [if_true, show ¬ (1 = 0) by decide, if_false] at hK
      exact ⟨_, z_miser hA gS hW hV htk hwho hf L.length 0 none f (by omega) (Or.inl ⟨rfl, rfl, by omega⟩) (hK S Gm.rf gS h40)⟩
    · subst h1
      simp only [show ¬ (2 = 0) by decide, show ¬ (2 = 1) by decide, if_false, if_true] at hK
      have h131 : ∀ o, (last.bind fun n => (L[n]?).bind fun e => acr T L e) = o → F_X12_wouldLay_131 l G (d + 29) m (nI (sd tk who)) (optF (some f)) (optF o) (mh m A S ρ) K := by
        intro o ho
        rw [ho] at hK
        simp only [F_X12_wouldLay_131, F_X12_wouldLay_155, F_X12_wouldLay_157]
        cases o with
        | none => exact ⟨fun _ => hK S Gm.rf gS h40, fun hc => absurd rfl hc⟩
        | some o =>
          simp only at hK
          obtain ⟨n, hn, h2⟩ := Option.bind_eq_some_iff.mp ho
          obtain ⟨e, he, h3⟩ := Option.bind_eq_some_iff.mp h2
          obtain ⟨eo, heo⟩ := acr_lt h3
          have hol := (List.getElem?_eq_some_iff.mp heo).1
          obtain ⟨⟨p2, hp2⟩, -⟩ := hV o eo heo
          rw [heo] at hK
          simp only [Option.map_some, Option.getD_some] at hK
          refine ⟨fun hc => absurd hc (nI_nm2 (by omega)), fun _ => s_X12_mayBe hA gS.1 hW gS.2.1 heo hp2 htk hwho ⟨fun h5 => ?_, fun h5 => ?_⟩⟩
          · rw [if_neg (by rw [h5]; decide)] at hK
            exact hK S Gm.rf gS h40
          · rw [if_pos h5] at hK
            exact hK S Gm.rf gS h40
      cases hlast : last with
      | none =>
        refine ⟨fun hc => absurd rfl hc, fun _ => h131 none (by rw [hlast]; rfl)⟩
      | some n =>
        have hn := hl n hlast
        obtain ⟨e, he⟩ : ∃ e, L[n]? = some e := ⟨_, List.getElem?_eq_getElem hn⟩
        refine ⟨fun _ => s_X12_acrossOf hA gS.1 hW gS.2.1 hV he (h131 _ (by rw [hlast]; simp [he])), fun hc => absurd hc (nI_nm2 (by omega))⟩
    · subst h1
      simp only [show ¬ (3 = 0) by decide, show ¬ (3 = 1) by decide, show ¬ (3 = 2) by decide, if_false, if_true] at hK
      have hd := drw_lt s
      have hcl : (mvs T L tk who).length ≤ L.length := List.length_filter_le _ _
      have hpos : 0 < (mvs T L tk who).length := List.length_pos_iff.mpr (mvs_ne hf)
      have hmod : drw s % (mvs T L tk who).length < (mvs T L tk who).length := Nat.mod_lt _ hpos
      simp only [mfI_40, mpI_40, h40, ms_i, ms_i2, ms_b1, ms_b, ms_b2, ms_a1, ms_a2, ms_a, ms_a3, ms_j1, ms_j2, ms_j3, ms_j, ↓reduceIte, Nat.reduceEqDiff]
      rw [show (75 : Int32) = nI 75 from rfl, show (74 : Int32) = nI 74 from rfl, show (65537 : Int32) = nI 65537 from rfl, nt_mul, nt_add, nt_rem (by omega) (by decide) (by decide)]
      have gS' : GS T L (seti S 40 (nI ((75 * s + 74) % 65537))) := gS.i (by decide)
      refine ⟨by decide, s_X12_manyMay hA gS'.1 hW gS'.2.1 hV htk hwho ?_⟩
      have hmv : (L.filter fun e => myE T e tk who) = mvs T L tk who := rfl
      rw [hmv, show nI 0 = (0 : Int32) from rfl, nt_0 (Nat.lt_of_le_of_lt hcl (by omega))]
      refine ⟨Nat.ne_of_gt hpos, ?_⟩
      rw [nt_rem (show (75 * s + 74) % 65537 < 2 ^ 31 by omega) hpos (Nat.lt_of_le_of_lt hcl (by omega))]
      refine s_X12_mayAt hA gS'.1 hW gS'.2.1 hV htk hwho (Nat.lt_of_lt_of_le hmod (by omega)) ?_
      exact hK _ ⟨fun j hj => if_neg fun e => hj (by rw [e]; decide), rfl, fun _ _ => rfl⟩ gS' rfl
    · simp only [n0, n1, n2, n3, if_false] at hK
      refine s_X12_goodOnes hA hW hV htk hwho gS fun S' g1 g2 g3 => ?_
      have hcl : (L.filter (gdE T L tk who)).length ≤ L.length := List.length_filter_le _ _
      have hk := hK S' (g1.mo (by decide)) g2 ((g1.1 40 (by decide)).trans h40)
      simp only [F_X12_wouldLay_209, mfI_38, g3]
      rw [nt_le (by omega) (by omega)]
      refine ⟨fun h5 => ?_, fun h5 => ?_⟩
      · have h6 : L.filter (gdE T L tk who) = [] := List.length_eq_zero_iff.mp (by omega)
        have h7 := (mAt_0 (f := gdE T L tk who) L 0).mpr h6
        rw [h7] at hk
        exact hk
      · cases h7 : mAt (gdE T L tk who) L 0 0 with
        | none =>
          have := (mAt_0 L 0).mp h7
          rw [this] at h5
          exact absurd (Nat.le_refl 0) h5
        | some n =>
          rw [h7] at hk
          exact hk
theorem z_winner (hA : okA m A) (hW : WFT T) (hV : VL T L) {p q w0 : Nat} (hp : p ≤ 4) (hq : q ≤ 4) {R : Nat} {S0 : MS} {K : Int32 → Hp → Prop} (hK : ∀ S', Gm [38, 40, 41] S0 S' → S'.1 41 = nI R → GS T L S' → K (nI (winN T R)) (mh m A S' ρ)) : ∀ n S' len tk last s, fr tk ≤ n → len + n ≤ 14 → Gm [38, 40, 41] S0 S' → GS T L S' → S'.1 40 = nI s → s < 65537 → S'.1 41 = nI len → tk < 16384 → (∀ n, last = some n → n < L.length) → mtc T L p q w0 n len tk last s = R → Z_X12_winner_27 l G (d + 34) K (n + 1) m (nI p) (nI q) (nI (sd tk ((w0 + len) % 2))) (optF last) (mh m A S' ρ) := by
  have hover : ∀ S', Gm [38, 40, 41] S0 S' → S'.1 41 = nI R → R ≤ 14 → GS T L S' → (vp_in 1 100 ∧ (¬ bi T.1.2.1 = (1 : Int32) → K (1 - (nI R - nI R / 2 * 2)) (mh m A S' ρ)) ∧ (bi T.1.2.1 = (1 : Int32) → K (nI R - nI R / 2 * 2) (mh m A S' ρ))) := by
    intro S' h1 h2 h3 h4
    have hk := hK S' h1 h2 h4
    rw [show (2 : Int32) = nI 2 from rfl, nt_rem (by omega) (by decide) (by decide), show (1 : Int32) = nI 1 from rfl, nt_sub (by omega) (by decide)]
    unfold winN at hk
    refine ⟨(vin 1 (by decide) (by decide)), fun h5 => ?_, fun h5 => ?_⟩
    · cases e : T.1.2.1 with
      | true => rw [e] at h5; exact absurd rfl h5
      | false => rw [e, if_neg (by decide)] at hk; exact hk
    · cases e : T.1.2.1 with
      | true => rw [e, if_pos rfl] at hk; exact hk
      | false => rw [e] at h5; exact absurd h5 (by decide)
  intro n
  induction n with
  | zero =>
    intro S' len tk last s hn hlen h1 h2 h40 hs h41 htk hl hR
    simp only [mtc] at hR
    subst hR
    have h0 : mvs T L tk ((w0 + len) % 2) = [] := by
      cases hm : mvs T L tk ((w0 + len) % 2) with
      | nil => rfl
      | cons e es =>
        have := fr_mv hV (e := e) (tk := tk) (who := (w0 + len) % 2) (by rw [hm]; exact List.mem_cons_self)
        omega
    simp only [Z_X12_winner_27, F_X12_winner_27, F_X12_winner_106]
    refine s_X12_isOver hA h2.1 hW h2.2.1 hV htk (Nat.mod_lt _ (by decide)) ?_
    simp only [h0, List.isEmpty_nil, reduceCtorEq, false_implies, true_implies, forall_const, true_and, and_true, eq_self, mfI_0, mpI_0, mfN_1, mfI_2, mpI_2, mfI_3, mpI_3, mfI_4, mpI_4, mfI_5, mpI_5, mfI_6, mpI_6, mfI_7, mpI_7, mfI_8, mpI_8, mfI_9, mpI_9, mfI_10, mpI_10, mfI_11, mpI_11, mfN_12, mfZ_13, mpZ_13, mfZ_14, mpZ_14, mfN_15, mfN_16, mfN_17, mfN_18, mfN_19, mfN_20, mfI_21, mpI_21, mfI_22, mpI_22, mfN_23, mfN_24, mfN_25, mfN_26, mfN_27, mfN_28, mfN_29, mfI_30, mpI_30, mfN_31, mfN_32, mfN_33, mfN_34, mfN_35, mfN_36, mfN_37, mfI_38, mpI_38, mfN_39, mfI_40, mpI_40, mfI_41, mpI_41, mgI_1 hA, msI_1 hA, mgI_12 hA, msI_12 hA, mgI_15 hA, msI_15 hA, mgI_16 hA, msI_16 hA, mgI_17 hA, msI_17 hA, mgI_18 hA, msI_18 hA, mgI_19 hA, msI_19 hA, mgI_20 hA, msI_20 hA, mgI_23 hA, msI_23 hA, mgI_24 hA, msI_24 hA, mgI_25 hA, msI_25 hA, mgI_26 hA, msI_26 hA, mgI_27 hA, msI_27 hA, mgI_28 hA, msI_28 hA, mgI_29 hA, msI_29 hA, mgI_31 hA, msI_31 hA, mgI_32 hA, msI_32 hA, mgI_33 hA, msI_33 hA, mgI_34 hA, msI_34 hA, mgI_35 hA, msI_35 hA, mgI_36 hA, msI_36 hA, mgI_39 hA, msI_39 hA, mgJ hA, msJ hA, h41, show (1 : Int32).toNatClampNeg = 1 from rfl, h2.1.1.2.1]
    exact ⟨by decide, hover S' h1 h41 (by omega) h2⟩
  | succ n ih =>
    intro S' len tk last s hn hlen h1 h2 h40 hs h41 htk hl hR
    rw [show n + 1 + 1 = (n + 1) + 1 from rfl, Z_X12_winner_27]
    simp only [F_X12_winner_27, F_X12_winner_50, F_X12_winner_106]
    refine s_X12_isOver hA h2.1 hW h2.2.1 hV htk (Nat.mod_lt _ (by decide)) ?_
    cases hm : mvs T L tk ((w0 + len) % 2) with
    | nil =>
      simp only [mtc] at hR
      rw [chs_none hm] at hR
      simp only at hR
      subst hR
      simp only [List.isEmpty_nil, reduceCtorEq, false_implies, true_implies, forall_const, true_and, and_true, eq_self, mfI_0, mpI_0, mfN_1, mfI_2, mpI_2, mfI_3, mpI_3, mfI_4, mpI_4, mfI_5, mpI_5, mfI_6, mpI_6, mfI_7, mpI_7, mfI_8, mpI_8, mfI_9, mpI_9, mfI_10, mpI_10, mfI_11, mpI_11, mfN_12, mfZ_13, mpZ_13, mfZ_14, mpZ_14, mfN_15, mfN_16, mfN_17, mfN_18, mfN_19, mfN_20, mfI_21, mpI_21, mfI_22, mpI_22, mfN_23, mfN_24, mfN_25, mfN_26, mfN_27, mfN_28, mfN_29, mfI_30, mpI_30, mfN_31, mfN_32, mfN_33, mfN_34, mfN_35, mfN_36, mfN_37, mfI_38, mpI_38, mfN_39, mfI_40, mpI_40, mfI_41, mpI_41, mgI_1 hA, msI_1 hA, mgI_12 hA, msI_12 hA, mgI_15 hA, msI_15 hA, mgI_16 hA, msI_16 hA, mgI_17 hA, msI_17 hA, mgI_18 hA, msI_18 hA, mgI_19 hA, msI_19 hA, mgI_20 hA, msI_20 hA, mgI_23 hA, msI_23 hA, mgI_24 hA, msI_24 hA, mgI_25 hA, msI_25 hA, mgI_26 hA, msI_26 hA, mgI_27 hA, msI_27 hA, mgI_28 hA, msI_28 hA, mgI_29 hA, msI_29 hA, mgI_31 hA, msI_31 hA, mgI_32 hA, msI_32 hA, mgI_33 hA, msI_33 hA, mgI_34 hA, msI_34 hA, mgI_35 hA, msI_35 hA, mgI_36 hA, msI_36 hA, mgI_39 hA, msI_39 hA, mgJ hA, msJ hA, h41, show (1 : Int32).toNatClampNeg = 1 from rfl, h2.1.1.2.1]
      exact ⟨by decide, hover S' h1 h41 (by omega) h2⟩
    | cons e0 es0 =>
      have hne : mvs T L tk ((w0 + len) % 2) ≠ [] := by rw [hm]; exact List.cons_ne_nil _ _
      simp only [List.isEmpty_cons, reduceCtorEq, false_implies, true_implies, forall_const, true_and, and_true, eq_self, mfI_0, mpI_0, mfN_1, mfI_2, mpI_2, mfI_3, mpI_3, mfI_4, mpI_4, mfI_5, mpI_5, mfI_6, mpI_6, mfI_7, mpI_7, mfI_8, mpI_8, mfI_9, mpI_9, mfI_10, mpI_10, mfI_11, mpI_11, mfN_12, mfZ_13, mpZ_13, mfZ_14, mpZ_14, mfN_15, mfN_16, mfN_17, mfN_18, mfN_19, mfN_20, mfI_21, mpI_21, mfI_22, mpI_22, mfN_23, mfN_24, mfN_25, mfN_26, mfN_27, mfN_28, mfN_29, mfI_30, mpI_30, mfN_31, mfN_32, mfN_33, mfN_34, mfN_35, mfN_36, mfN_37, mfI_38, mpI_38, mfN_39, mfI_40, mpI_40, mfI_41, mpI_41, mgI_1 hA, msI_1 hA, mgI_12 hA, msI_12 hA, mgI_15 hA, msI_15 hA, mgI_16 hA, msI_16 hA, mgI_17 hA, msI_17 hA, mgI_18 hA, msI_18 hA, mgI_19 hA, msI_19 hA, mgI_20 hA, msI_20 hA, mgI_23 hA, msI_23 hA, mgI_24 hA, msI_24 hA, mgI_25 hA, msI_25 hA, mgI_26 hA, msI_26 hA, mgI_27 hA, msI_27 hA, mgI_28 hA, msI_28 hA, mgI_29 hA, msI_29 hA, mgI_31 hA, msI_31 hA, mgI_32 hA, msI_32 hA, mgI_33 hA, msI_33 hA, mgI_34 hA, msI_34 hA, mgI_35 hA, msI_35 hA, mgI_36 hA, msI_36 hA, mgI_39 hA, msI_39 hA, mgJ hA, msJ hA, h41]
      rw [show (2 : Int32) = nI 2 from rfl, nt_rem (show len < 2 ^ 31 by omega) (by decide) (by decide), nt_0 (show len % 2 < 2 ^ 31 by omega)]
      have hgo : ∀ pl, pl ≤ 4 → (if len % 2 = 0 then p else q) = pl → C_X12_wouldLay l G (d + 34) m (nI pl) (nI (sd tk ((w0 + len) % 2))) (optF last) (mh m A S' ρ) fun r2 σ1 => C_X12_behind l G (d + 34) m (nI (sd tk ((w0 + len) % 2))) r2 σ1 fun r4 σ3 => fI σ3 m 12 41 fun x5 => pF σ3 m 12 41 (aI (x5 + 1)) fun σ6 => Z_X12_winner_27 l G (d + 34) K (n + 1) m (nI p) (nI q) r4 r2 σ6 := by
        intro pl hpl4 hpl
        simp only [mtc, hpl] at hR
        obtain ⟨x, ex, c1, c2, c3⟩ := chs_ok (T := T) (L := L) (p := pl) (tk := tk) (who := (w0 + len) % 2) (last := last) (s := s) hne
        have hsd := chs_sd (T := T) (L := L) (p := pl) (tk := tk) (who := (w0 + len) % 2) (last := last) hs
        refine s_X12_wouldLay (d := d + 4) hA h2 hW hV hpl4 htk (Nat.mod_lt _ (by decide)) hs h40 hl fun S1 g1 g2 g3 => ?_
        cases hc : chs T L pl tk ((w0 + len) % 2) last s with
        | mk o s' =>
          rw [hc] at c1 hR g3 hsd
          simp only at c1 hsd
          subst c1
          simp only [sqN_at c2] at hR
          obtain ⟨q1, q2⟩ := kid_at hV c2 c3 htk
          refine s_X12_behind hA g2.2.1 hV c2 htk (Nat.mod_lt _ (by decide)) ?_
          simp only [mfI_41, mpI_41, show S1.1 41 = nI len from (g1.1 41 (by decide)).trans h41, show nI len + 1 = nI (len + 1) from nt_add len 1]
          rw [show 1 - (w0 + len) % 2 = (w0 + (len + 1)) % 2 by omega]
          have hxl := (List.getElem?_eq_some_iff.mp c2).1
          refine ih (seti S1 41 (nI (len + 1))) (len + 1) _ (some x) s' (by omega) (by omega) ((h1.tr (g1.mo (by decide))).tr ⟨fun j hj => if_neg fun e => hj (by rw [e]; decide), rfl, fun _ _ => rfl⟩) (g2.i (by decide)) g3 hsd rfl q2 (fun n' hn' => by cases hn'; exact hxl) hR
      refine ⟨by decide, fun h5 => hgo q hq (if_neg h5), fun h5 => hgo p hp (if_pos h5)⟩
theorem s_X12_winner (hA : okA m A) (hZ : VZ Z) (hM : MI Z S) (hT : zT Z = some T) {p q : Nat} (hp : p ≤ 4) (hq : q ≤ 4) {K : Int32 → Hp → Prop} (hK : ∀ S', MI Z S' → S'.1 41 = nI (mtZ Z T p q) → K (nI (winN T (mtZ Z T p q))) (mh m A S' ρ)) : C_X12_winner l G (d + 35) m (nI p) (nI q) (mh m A S ρ) K := by
  obtain ⟨g14, gS, gW⟩ := hM.so hT
  obtain ⟨hW, hV, hG, htk, hwho, hs⟩ := hZ.so hT
  have h14 := hG.le14 hV
  have hvl : ∀ k v, (zW Z).1[k]? = some v → v < (allL T).length := fun k v hv => by
    obtain ⟨e, he, -⟩ := hG k v hv
    exact (List.getElem?_eq_some_iff.mp he).1
  have h224 := gS.2.1.1
  refine m_X12_winner rv_m ?_
  simp only [F_X12_winner]
  refine s_X12_standNow hA gS.2.1 hV gW hG ?_
  refine s_X12_latest hA gW h14 (fun k v hv => Nat.lt_of_lt_of_le (hvl k v hv) (by omega)) ?_
  have g15 := gW.2.2
  rw [Nat.zero_add] at g15
  simp only [mfI_0, mpI_0, mfN_1, mfI_2, mpI_2, mfI_3, mpI_3, mfI_4, mpI_4, mfI_5, mpI_5, mfI_6, mpI_6, mfI_7, mpI_7, mfI_8, mpI_8, mfI_9, mpI_9, mfI_10, mpI_10, mfI_11, mpI_11, mfN_12, mfZ_13, mpZ_13, mfZ_14, mpZ_14, mfN_15, mfN_16, mfN_17, mfN_18, mfN_19, mfN_20, mfI_21, mpI_21, mfI_22, mpI_22, mfN_23, mfN_24, mfN_25, mfN_26, mfN_27, mfN_28, mfN_29, mfI_30, mpI_30, mfN_31, mfN_32, mfN_33, mfN_34, mfN_35, mfN_36, mfN_37, mfI_38, mpI_38, mfN_39, mfI_40, mpI_40, mfI_41, mpI_41, mgI_1 hA, msI_1 hA, mgI_12 hA, msI_12 hA, mgI_15 hA, msI_15 hA, mgI_16 hA, msI_16 hA, mgI_17 hA, msI_17 hA, mgI_18 hA, msI_18 hA, mgI_19 hA, msI_19 hA, mgI_20 hA, msI_20 hA, mgI_23 hA, msI_23 hA, mgI_24 hA, msI_24 hA, mgI_25 hA, msI_25 hA, mgI_26 hA, msI_26 hA, mgI_27 hA, msI_27 hA, mgI_28 hA, msI_28 hA, mgI_29 hA, msI_29 hA, mgI_31 hA, msI_31 hA, mgI_32 hA, msI_32 hA, mgI_33 hA, msI_33 hA, mgI_34 hA, msI_34 hA, mgI_35 hA, msI_35 hA, mgI_36 hA, msI_36 hA, mgI_39 hA, msI_39 hA, mgJ hA, msJ hA, show (15 : Int32).toNatClampNeg = 15 from rfl, g15]
  rw [show (zW Z).1.length % 2 = ((zW Z).1.length % 2 + 0) % 2 by omega]
  refine ⟨(vin 15 (by decide) (by decide)), _, z_winner (w0 := (zW Z).1.length % 2) (S0 := S) hA hW hV hp hq (fun S' a b c => hK S' (hM.g hT (a.mo (by decide)) c) b) 14 (seti (seti S 40 (nI (zW Z).2)) 41 0) 0 _ (lastO (zW Z)) (zW Z).2 (fr_le _) (by decide) ⟨fun j hj => ?_, rfl, fun _ _ => rfl⟩ ((gS.i (by decide)).i (by decide)) rfl hs rfl htk (fun n hn => ?_) ?_⟩
  · simp only [ms_i, ms_i2, ms_b1, ms_b, ms_b2, ms_a1, ms_a2, ms_a, ms_a3, ms_j1, ms_j2, ms_j3, ms_j, ↓reduceIte, Nat.reduceEqDiff]
    rw [if_neg fun e => hj (by rw [e]; decide), if_neg fun e => hj (by rw [e]; decide)]
  · rw [lastO, List.getLast?_eq_getElem?] at hn
    exact hvl _ n hn
  · rfl
end PLY
