/-! the class's tokens -/
/-- the tape, and the tokens at a -/
def kd (B : Nat → Nat) (N a : Nat) : Nat := if eK B N a = 0 then 0 else if eK B N a = 1 then 4 else if eK B N a = 2 then 1 else if eK B N a = 3 then 2 else 3
def TP (σ : Hp) (tp : Nat) (B : Nat → Nat) (N : Nat) : Prop := N ≤ 900 ∧ (∀ j, B j < 256) ∧ ∃ f, σ tp = some (iA 900 f) ∧ ∀ j, j < N → f j = nI (B j)
/-- the tokens at a, told so far up to p -/
def TK0 (σ : Hp) (tk tp : Nat) (N p : Nat) (k ln : Int32) : Prop := σ tk = some (O10 (some tp) (nI N) (nI p) k ln)
def TKr (σ : Hp) (tk tp : Nat) (B : Nat → Nat) (N a : Nat) : Prop := ∃ ln, σ tk = some (O10 (some tp) (nI N) (nI a) (nI (kd B N a)) ln) ∧ (eK B N a ≠ 1 → ln = nI (eE B N a - a))
/-- what a place holds: 0 none, 1 letter, 2 digit, 3 sign, 4 other -/
def kc (B : Nat → Nat) (N k : Nat) : Nat := if N ≤ k then 0 else if pSm B N k then 1 else if pDg B N k then 2 else if B k = 59 ∨ B k = 44 then 3 else 4
section TOK
variable {l : Launch} {G : GG} {d : Nat} {σ : Hp} {tk tp : Nat} {B : Nat → Nat} {N a k p : Nat}
theorem TP.hs (h : TP σ tp B N) {q : Nat} {c : CE} (hq : σ q ≠ some c ∨ True) (hne : q ≠ tp) : TP (hset σ q c) tp B N := by
  obtain ⟨h1, h2, f, h3, h4⟩ := h
  exact ⟨h1, h2, f, by rw [hset_ne (Ne.symm hne)]; exact h3, h4⟩
theorem TP.ne (h : TP σ tp B N) {q t : Nat} {fs : List AV} (hq : σ q = some (.inl (t, fs))) : q ≠ tp := by
  obtain ⟨h1, h2, f, h3, h4⟩ := h
  intro e
  rw [e, h3] at hq
  cases hq
theorem s_X10_byteAt (hP : TP σ tp B N) {x ln : Int32} {pl : Int32} (h : σ tk = some (O10 (some tp) (nI N) pl x ln)) (hk : k < 2 ^ 31) {K : Int32 → Hp → Prop} (hK : K (lk B N k) σ) : C_X10_byteAt l G (d + 1) tk (nI k) σ K := by
  obtain ⟨h9, hb, f, h3, h4⟩ := hP
  refine m_X10_byteAt (rv_at h ⟨_, rfl⟩) ?_
  simp only [F_X10_byteAt_31, F_X10_byteAt_30, F_X10_byteAt, fI_at (h), fZ_at (h), fJ_at (h), fR_at (h), fN_at (h), pF_at (h), rR10_0, rN10_0, rP10_0, rI10_1, rP10_1, rI10_2, rP10_2, rI10_3, rP10_3, rI10_4, rP10_4, aL_i h3, gI_at h3, nI_clamp hk]
  unfold lk at hK
  rw [nt_le (by omega) hk, nt_le (by decide) hk]
  refine ⟨fun hc => absurd hc (nt_neg hk), fun _ => ⟨fun h5 => ?_, fun h5 => ⟨fun h6 => by omega, fun h6 => ⟨(nt_in hk).mpr (by omega), ?_⟩⟩⟩⟩
  · rw [if_neg (by omega)] at hK; exact hK
  · rw [if_pos (by omega)] at hK
    rw [h4 k (by omega)]; exact hK
theorem s_X10_kindOf (hb : ∀ j, B j < 256) {K : Int32 → Hp → Prop} (hK : K (nI (kc B N k)) σ) : C_X10_kindOf l G (d + 1) (lk B N k) σ K := by
  refine m_X10_kindOf ?_
  simp only [F_X10_kindOf_52, F_X10_kindOf_47, F_X10_kindOf_35, F_X10_kindOf_21, F_X10_kindOf]
  unfold kc at hK
  have hsm := lk_sm (N := N) (k := k) hb
  have hdg := lk_dg (N := N) (k := k) hb
  unfold smallI at hsm
  unfold digitI at hdg
  by_cases hN : N ≤ k
  · rw [if_pos hN] at hK
    have e : lk B N k = -1 := if_neg (by omega)
    rw [e]
    exact ⟨fun hc => absurd rfl hc, fun _ => hK⟩
  · rw [if_neg hN] at hK
    have e : lk B N k = nI (B k) := if_pos (by omega)
    have hbk := hb k
    rw [e] at hsm hdg ⊢
    refine ⟨fun _ => ?_, fun hc => absurd hc (nI_nm1 (by omega))⟩
    have h35 : pSm B N k = false → pDg B N k = false → (((nI (B k) : Int32) = 59 → K 3 σ) ∧ (¬ (nI (B k) : Int32) = 59 → (¬ (nI (B k) : Int32) = 44 → K 4 σ) ∧ ((nI (B k) : Int32) = 44 → K 3 σ))) := by
      intro e1 e2
      rw [if_neg (by rw [e1]; decide), if_neg (by rw [e2]; decide)] at hK
      rw [show (59 : Int32) = nI 59 from rfl, show (44 : Int32) = nI 44 from rfl, nt_eq (by omega) (by decide), nt_eq (by omega) (by decide)]
      refine ⟨fun h => ?_, fun h => ⟨fun h2 => ?_, fun h2 => ?_⟩⟩
      · rw [if_pos (Or.inl h)] at hK; exact hK
      · rw [if_neg (by omega)] at hK; exact hK
      · rw [if_pos (Or.inr h2)] at hK; exact hK
    have h21 : pSm B N k = false → ((nI (B k) : Int32) < 48 → (((nI (B k) : Int32) = 59 → K 3 σ) ∧ (¬ (nI (B k) : Int32) = 59 → (¬ (nI (B k) : Int32) = 44 → K 4 σ) ∧ ((nI (B k) : Int32) = 44 → K 3 σ)))) ∧ (¬ (nI (B k) : Int32) < 48 → ((57 : Int32) < nI (B k) → (((nI (B k) : Int32) = 59 → K 3 σ) ∧ (¬ (nI (B k) : Int32) = 59 → (¬ (nI (B k) : Int32) = 44 → K 4 σ) ∧ ((nI (B k) : Int32) = 44 → K 3 σ)))) ∧ (¬ (57 : Int32) < nI (B k) → K 2 σ)) := by
      intro e1
      refine ⟨fun h => h35 e1 ?_, fun h => ⟨fun h2 => h35 e1 ?_, fun h2 => ?_⟩⟩
      · rw [← hdg]; exact decide_eq_false fun hc => hc.1 h
      · rw [← hdg]; exact decide_eq_false fun hc => hc.2 h2
      · have e2 : pDg B N k = true := by rw [← hdg]; exact decide_eq_true ⟨h, h2⟩
        rw [if_neg (by rw [e1]; decide), if_pos e2] at hK
        exact hK
    refine ⟨fun h => h21 ?_, fun h => ⟨fun h2 => h21 ?_, fun h2 => ?_⟩⟩
    · rw [← hsm]; exact decide_eq_false fun hc => hc.1 h
    · rw [← hsm]; exact decide_eq_false fun hc => hc.2 h2
    · have e2 : pSm B N k = true := by rw [← hsm]; exact decide_eq_true ⟨h, h2⟩
      rw [if_pos e2] at hK
      exact hK
theorem kc_lt : kc B N k < 5 := by
  unfold kc
  (repeat' split) <;> omega
theorem kc_1 : kc B N k = 1 ↔ pSm B N k = true := by
  unfold kc
  by_cases h : N ≤ k
  · rw [if_pos h]
    simp [pSm]; omega
  · rw [if_neg h]
    by_cases h1 : pSm B N k = true
    · rw [if_pos h1]; simp [h1]
    · rw [if_neg h1]
      exact ⟨fun h => absurd h (by (repeat' split) <;> decide), fun h => absurd h h1⟩
theorem kc_2 : kc B N k = 2 ↔ pDg B N k = true := by
  unfold kc
  by_cases h : N ≤ k
  · rw [if_pos h]
    simp [pDg]; omega
  · rw [if_neg h]
    by_cases h1 : pSm B N k = true
    · rw [if_pos h1]
      have : pDg B N k = false := by
        simp only [pSm, pDg, Bool.and_eq_true, decide_eq_true_eq] at h1 ⊢
        simp; omega
      simp [this]
    · rw [if_neg h1]
      by_cases h2 : pDg B N k = true
      · rw [if_pos h2]; simp [h2]
      · rw [if_neg h2]
        exact ⟨fun h => absurd h (by split <;> decide), fun h => absurd h h2⟩
theorem s_X10_runFrom (hP : TP σ tp B N) {pl ln : Int32} (ha : a ≤ N) (h : σ tk = some (O10 (some tp) (nI N) pl (nI (kc B N a)) ln)) {K : Int32 → Hp → Prop} (hK : K (nI (eE B N a - a)) σ) : C_X10_runFrom l G (d + 2) tk (nI a) σ K := by
  have h9 := hP.1
  have hb := hP.2.1
  have hkl := kc_lt (B := B) (N := N) (k := a)
  have hz : ∀ (q : Nat → Bool) (v : Nat), 0 < v → (∀ k, kc B N k = v ↔ q k = true) → kc B N a = v → ∀ n k, N - k ≤ n → a ≤ k → k ≤ N → K (nI (rn q n k - a)) σ → ∃ m, Z_X10_runFrom_33 l G (d + 1) K m tk (nI a) (nI k) σ := by
    intro q v hv0 hq hv n
    induction n with
    | zero =>
      intro k hn hak hk hx
      refine ⟨1, ?_⟩
      simp only [rn] at hx
      simp only [Z_X10_runFrom_33, F_X10_runFrom_33, F_X10_runFrom_62, fI_at (h), fZ_at (h), fJ_at (h), fR_at (h), fN_at (h), pF_at (h), rR10_0, rN10_0, rP10_0, rI10_1, rP10_1, rI10_2, rP10_2, rI10_3, rP10_3, rI10_4, rP10_4]
      rw [nt_le (by omega) (by omega), nt_sub hak (by omega)]
      exact ⟨fun _ => hx, fun hc => absurd (by omega) hc⟩
    | succ n ih =>
      intro k hn hak hk hx
      simp only [rn] at hx
      have hk5 := kc_lt (B := B) (N := N) (k := k)
      by_cases hq1 : q k = true
      · rw [if_pos hq1] at hx
        have hkN : k < N := Nat.lt_of_not_le fun hc => by
          have h1 := (hq k).mpr hq1
          have h0 : kc B N k = 0 := if_pos hc
          omega
        obtain ⟨m, hm⟩ := ih (k + 1) (by omega) (by omega) (by omega) hx
        refine ⟨m + 1, ?_⟩
        simp only [Z_X10_runFrom_33, F_X10_runFrom_33, F_X10_runFrom_62, fI_at (h), fZ_at (h), fJ_at (h), fR_at (h), fN_at (h), pF_at (h), rR10_0, rN10_0, rP10_0, rI10_1, rP10_1, rI10_2, rP10_2, rI10_3, rP10_3, rI10_4, rP10_4, show nI k + 1 = nI (k + 1) from nt_add k 1]
        rw [nt_le (by omega) (by omega)]
        refine ⟨fun hc => by omega, fun _ => s_X10_byteAt (d := d) hP h (by omega) (s_X10_kindOf (d := d) hb ?_)⟩
        simp only [fI_at (h), fZ_at (h), fJ_at (h), fR_at (h), fN_at (h), pF_at (h), rR10_0, rN10_0, rP10_0, rI10_1, rP10_1, rI10_2, rP10_2, rI10_3, rP10_3, rI10_4, rP10_4]
        rw [nt_eq (by omega) (by omega)]
        exact ⟨fun hc => absurd (((hq k).mpr hq1).trans hv.symm) hc, fun _ => hm⟩
      · rw [if_neg hq1] at hx
        refine ⟨1, ?_⟩
        simp only [Z_X10_runFrom_33, F_X10_runFrom_33, F_X10_runFrom_62, fI_at (h), fZ_at (h), fJ_at (h), fR_at (h), fN_at (h), pF_at (h), rR10_0, rN10_0, rP10_0, rI10_1, rP10_1, rI10_2, rP10_2, rI10_3, rP10_3, rI10_4, rP10_4, show nI k + 1 = nI (k + 1) from nt_add k 1]
        rw [nt_le (by omega) (by omega), nt_sub hak (by omega)]
        refine ⟨fun _ => hx, fun _ => s_X10_byteAt (d := d) hP h (by omega) (s_X10_kindOf (d := d) hb ?_)⟩
        simp only [fI_at (h), fZ_at (h), fJ_at (h), fR_at (h), fN_at (h), pF_at (h), rR10_0, rN10_0, rP10_0, rI10_1, rP10_1, rI10_2, rP10_2, rI10_3, rP10_3, rI10_4, rP10_4]
        rw [nt_eq (by omega) (by omega)]
        exact ⟨fun _ => hx, fun hc => absurd ((hq k).mp (hc.trans hv)) hq1⟩
  have hrun : ∀ (q : Nat → Bool) (v : Nat), 0 < v → (∀ k, kc B N k = v ↔ q k = true) → kc B N a = v → eE B N a = rn q (N - a) a → ∃ m, Z_X10_runFrom_33 l G (d + 1) K m tk (nI a) (nI a + 1) σ := by
    intro q v hv0 hq hv he
    have haN : a < N := Nat.lt_of_not_le fun hc => by
      have h0 : kc B N a = 0 := if_pos hc
      omega
    rw [show nI a + 1 = nI (a + 1) from nt_add a 1]
    refine hz q v hv0 hq hv (N - (a + 1)) (a + 1) (Nat.le_refl _) (by omega) (by omega) ?_
    rw [he, show N - a = (N - (a + 1)) + 1 by omega] at hK
    simp only [rn, (hq a).mp hv, if_true] at hK
    exact hK
  refine m_X10_runFrom (rv_at h ⟨_, rfl⟩) ?_
  simp only [F_X10_runFrom, F_X10_runFrom_28, F_X10_runFrom_29, fI_at (h), fZ_at (h), fJ_at (h), fR_at (h), fN_at (h), pF_at (h), rR10_0, rN10_0, rP10_0, rI10_1, rP10_1, rI10_2, rP10_2, rI10_3, rP10_3, rI10_4, rP10_4]
  rw [nt_1 (by omega), show (2 : Int32) = nI 2 from rfl, nt_eq (by omega) (by decide), nt_0 (by omega)]
  refine ⟨fun h1 => ?_, fun h1 => ⟨fun h2 => ?_, fun h2 => ⟨fun h3 => ?_, fun h3 => ?_⟩⟩⟩
  · refine hrun (pSm B N) 1 (by decide) (fun k => kc_1) h1 ?_
    have h2 := kc_1.mp h1
    have haN : ¬ N ≤ a := fun hc => by
      have h0 : kc B N a = 0 := if_pos hc
      omega
    unfold eE
    rw [if_neg haN, if_pos h2]
  · refine hrun (pDg B N) 2 (by decide) (fun k => kc_2) h2 ?_
    have h4 := kc_2.mp h2
    have haN : ¬ N ≤ a := fun hc => by
      have h0 : kc B N a = 0 := if_pos hc
      omega
    unfold eE
    rw [if_neg haN, if_neg fun hc => h1 (kc_1.mpr hc), if_pos h4]
  · have haN : ¬ N ≤ a := fun hc => h3 (if_pos hc)
    unfold eE at hK
    rw [if_neg haN, if_neg fun hc => h1 (kc_1.mpr hc), if_neg fun hc => h2 (kc_2.mpr hc), show a + 1 - a = 1 by omega] at hK
    exact hK
  · have haN : N ≤ a := by
      unfold kc at h3
      split at h3
      · assumption
      · (repeat' split at h3) <;> omega
    unfold eE at hK
    rw [if_pos haN, Nat.sub_self] at hK
    exact hK
theorem kd_kc : kd B N a = if kc B N a = 1 ∧ 8 < eE B N a - a ∨ kc B N a = 2 ∧ 3 < eE B N a - a then 4 else kc B N a := by
  unfold kd eK kc
  by_cases h0 : N ≤ a
  · simp [h0]
  · by_cases h1 : pSm B N a = true
    · by_cases h2 : 8 < eE B N a - a <;> simp [h0, h1, h2]
    · by_cases h2 : pDg B N a = true
      · by_cases h3 : 3 < eE B N a - a <;> simp [h0, h1, h2, h3]
      · by_cases h3 : B a = 59
        · simp [h0, h1, h2, h3]
        · by_cases h4 : B a = 44
          · simp [h0, h1, h2, h4]
          · simp [h0, h1, h2, h3, h4]
theorem s_X10_advance (hP : TP σ tp B N) {p ln : Nat} {x : Int32} (hp : p + ln ≤ N) (h : σ tk = some (O10 (some tp) (nI N) (nI p) x (nI ln))) {K : Hp → Prop} (hK : TKr (hset σ tk (O10 (some tp) (nI N) (nI (tA B N (p + ln))) (nI (kd B N (tA B N (p + ln)))) (nI (eE B N (tA B N (p + ln)) - tA B N (p + ln))))) tk tp B N (tA B N (p + ln)) → K (hset σ tk (O10 (some tp) (nI N) (nI (tA B N (p + ln))) (nI (kd B N (tA B N (p + ln)))) (nI (eE B N (tA B N (p + ln)) - tA B N (p + ln)))))) : C_X10_advance l G (d + 3) tk σ K := by
  have h9 := hP.1
  have hb := hP.2.1
  have hnt := hP.ne h
  refine m_X10_advance (rv_at h ⟨_, rfl⟩) ?_
  simp only [F_X10_advance, fI_at (h), fZ_at (h), fJ_at (h), fR_at (h), fN_at (h), pF_at (h), rR10_0, rN10_0, rP10_0, rI10_1, rP10_1, rI10_2, rP10_2, rI10_3, rP10_3, rI10_4, rP10_4, nt_add]
  have h34 : tA B N (p + ln) ≤ N → F_X10_advance_34 l G (d + 2) tk (nI (tA B N (p + ln))) σ K := by
    generalize tA B N (p + ln) = a at hK
    intro ha
    have he := eE_le (B := B) ha
    have hk := hK ⟨_, hset_eq .., fun _ => rfl⟩
    rw [kd_kc] at hk
    have hkl := kc_lt (B := B) (N := N) (k := a)
    simp only [F_X10_advance_34, F_X10_advance_77, F_X10_advance_93, F_X10_advance_98, fI_at (h), fZ_at (h), fJ_at (h), fR_at (h), fN_at (h), pF_at (h), rR10_0, rN10_0, rP10_0, rI10_1, rP10_1, rI10_2, rP10_2, rI10_3, rP10_3, rI10_4, rP10_4]
    refine s_X10_byteAt (d := d + 1) (hP.hs (Or.inr trivial) hnt) (hset_eq ..) (by omega) (s_X10_kindOf (d := d + 1) hb ?_)
    simp only [pF_hs, rR10_0, rN10_0, rP10_0, rI10_1, rP10_1, rI10_2, rP10_2, rI10_3, rP10_3, rI10_4, rP10_4]
    refine s_X10_runFrom (d := d) (hP.hs (Or.inr trivial) hnt) ha (hset_eq ..) ?_
    simp only [pF_hs, fI_hs, rR10_0, rN10_0, rP10_0, rI10_1, rP10_1, rI10_2, rP10_2, rI10_3, rP10_3, rI10_4, rP10_4]
    rw [nt_1 (by omega), show (2 : Int32) = nI 2 from rfl, show (8 : Int32) = nI 8 from rfl, show (3 : Int32) = nI 3 from rfl, nt_eq (by omega) (by decide), nt_lt (by decide) (by omega), nt_le (by omega) (by decide)]
    have k1 : (kc B N a = 1 ∧ 8 < eE B N a - a ∨ kc B N a = 2 ∧ 3 < eE B N a - a) → K (hset σ tk (O10 (some tp) (nI N) (nI a) 4 (nI (eE B N a - a)))) := fun hc => by rw [if_pos hc] at hk; exact hk
    have k2 : ¬ (kc B N a = 1 ∧ 8 < eE B N a - a ∨ kc B N a = 2 ∧ 3 < eE B N a - a) → K (hset σ tk (O10 (some tp) (nI N) (nI a) (nI (kc B N a)) (nI (eE B N a - a)))) := fun hc => by rw [if_neg hc] at hk; exact hk
    refine ⟨fun c1 => ⟨fun c2 => k2 (by omega), fun c2 => ⟨fun c3 => k2 (by omega), fun c3 => k1 (by omega)⟩⟩, fun c1 => ⟨fun c2 => k1 (by omega), fun c2 => ⟨fun c3 => k2 (by omega), fun c3 => ⟨fun c4 => k2 (by omega), fun c4 => k1 (by omega)⟩⟩⟩⟩
  have hz : ∀ n k, N - k ≤ n → k ≤ N → rn (pSp B N) n k = tA B N (p + ln) → ∃ m, Z_X10_advance_10 l G (d + 2) K m tk (nI k) σ := by
    intro n
    induction n with
    | zero =>
      intro k hn hk hx
      refine ⟨1, ?_⟩
      simp only [rn] at hx
      simp only [Z_X10_advance_10, F_X10_advance_10, fI_at (h), fZ_at (h), fJ_at (h), fR_at (h), fN_at (h), pF_at (h), rR10_0, rN10_0, rP10_0, rI10_1, rP10_1, rI10_2, rP10_2, rI10_3, rP10_3, rI10_4, rP10_4]
      rw [nt_le (by omega) (by omega)]
      refine ⟨fun _ => ?_, fun hc => absurd (by omega) hc⟩
      have := h34 (by omega)
      rwa [← hx] at this
    | succ n ih =>
      intro k hn hk hx
      simp only [rn] at hx
      by_cases hq1 : pSp B N k = true
      · rw [if_pos hq1] at hx
        have hkN : k < N := by simp [pSp] at hq1; exact hq1.1
        obtain ⟨m, hm⟩ := ih (k + 1) (by omega) (by omega) hx
        refine ⟨m + 1, ?_⟩
        simp only [Z_X10_advance_10, F_X10_advance_10, fI_at (h), fZ_at (h), fJ_at (h), fR_at (h), fN_at (h), pF_at (h), rR10_0, rN10_0, rP10_0, rI10_1, rP10_1, rI10_2, rP10_2, rI10_3, rP10_3, rI10_4, rP10_4, show nI k + 1 = nI (k + 1) from nt_add k 1]
        rw [nt_le (by omega) (by omega)]
        exact ⟨fun hc => by omega, fun _ => s_X10_byteAt (d := d + 1) hP h (by omega) ⟨fun hc => absurd ((lk_sp hb).mpr hq1) hc, fun _ => hm⟩⟩
      · rw [if_neg hq1] at hx
        have := h34 (by rw [← hx]; exact hk)
        rw [← hx] at this
        refine ⟨1, ?_⟩
        simp only [Z_X10_advance_10, F_X10_advance_10, fI_at (h), fZ_at (h), fJ_at (h), fR_at (h), fN_at (h), pF_at (h), rR10_0, rN10_0, rP10_0, rI10_1, rP10_1, rI10_2, rP10_2, rI10_3, rP10_3, rI10_4, rP10_4, show nI k + 1 = nI (k + 1) from nt_add k 1]
        rw [nt_le (by omega) (by omega)]
        exact ⟨fun _ => this, fun _ => s_X10_byteAt (d := d + 1) hP h (by omega) ⟨fun _ => this, fun hc => absurd ((lk_sp hb).mp hc) hq1⟩⟩
  exact hz (N - (p + ln)) (p + ln) (Nat.le_refl _) hp rfl
theorem kd_1 : kd B N a = 1 ↔ eK B N a = 2 := by
  unfold kd
  by_cases h0 : eK B N a = 0
  · simp [h0]
  · by_cases h1 : eK B N a = 1
    · simp [h1]
    · by_cases h2 : eK B N a = 2
      · simp [h2]
      · by_cases h3 : eK B N a = 3
        · simp [h3]
        · simp [h0, h1, h2, h3]
theorem kd_2 : kd B N a = 2 ↔ eK B N a = 3 := by
  unfold kd
  by_cases h0 : eK B N a = 0
  · simp [h0]
  · by_cases h1 : eK B N a = 1
    · simp [h1]
    · by_cases h2 : eK B N a = 2
      · simp [h2]
      · by_cases h3 : eK B N a = 3
        · simp [h3]
        · simp [h0, h1, h2, h3]
theorem kd_0 : kd B N a = 0 ↔ eK B N a = 0 := by
  unfold kd
  by_cases h0 : eK B N a = 0
  · simp [h0]
  · simp only [h0, if_false, iff_false]
    (repeat' split) <;> omega
theorem kd_3 : kd B N a = 3 ↔ eK B N a = 59 ∨ eK B N a = 44 := by
  have h := eK_lt (B := B) (N := N) (a := a)
  have hv : eK B N a = 0 ∨ eK B N a = 1 ∨ eK B N a = 2 ∨ eK B N a = 3 ∨ eK B N a = 59 ∨ eK B N a = 44 := by
    unfold eK
    (repeat' split) <;> omega
  unfold kd
  rcases hv with h | h | h | h | h | h <;> simp [h]
theorem kd_lt : kd B N a < 5 := by
  unfold kd
  (repeat' split) <;> omega
theorem eK_sg {c : Nat} (hc : c = 59 ∨ c = 44) : eK B N a = c ↔ (a < N ∧ pSm B N a = false ∧ pDg B N a = false ∧ B a = c) := by
  unfold eK
  by_cases h0 : N ≤ a
  · rw [if_pos h0]; constructor
    · intro h; omega
    · intro h; omega
  · rw [if_neg h0]
    by_cases h1 : pSm B N a = true
    · rw [if_pos h1]
      constructor
      · intro h; split at h <;> omega
      · rintro ⟨-, h2, -⟩; rw [h1] at h2; cases h2
    · rw [if_neg h1]
      by_cases h2 : pDg B N a = true
      · rw [if_pos h2]
        constructor
        · intro h; split at h <;> omega
        · rintro ⟨-, -, h3, -⟩; rw [h2] at h3; cases h3
      · rw [if_neg h2]
        constructor
        · intro h
          refine ⟨by omega, by simpa using h1, by simpa using h2, ?_⟩
          split at h
          · omega
          · split at h <;> omega
        · rintro ⟨-, -, -, h⟩
          rcases hc with rfl | rfl
          · rw [if_pos h]
          · rw [if_neg (by omega), if_pos h]
theorem s_X10_isSign (hP : TP σ tp B N) (ha : a ≤ N) (h : TKr σ tk tp B N a) {c : Nat} (hc : c = 59 ∨ c = 44) {K : Bool → Hp → Prop} (hK : K (decide (eK B N a = c)) σ) : C_X10_isSign l G (d + 2) tk (nI c) σ K := by
  obtain ⟨ln, h1, h2⟩ := h
  have h9 := hP.1
  have hb := hP.2.1
  have hkl := kd_lt (B := B) (N := N) (a := a)
  refine m_X10_isSign (rv_at h1 ⟨_, rfl⟩) ?_
  simp only [F_X10_isSign_25, F_X10_isSign_24, F_X10_isSign, fI_at (h1), fZ_at (h1), fJ_at (h1), fR_at (h1), fN_at (h1), pF_at (h1), rR10_0, rN10_0, rP10_0, rI10_1, rP10_1, rI10_2, rP10_2, rI10_3, rP10_3, rI10_4, rP10_4]
  rw [show (3 : Int32) = nI 3 from rfl, nt_eq (by omega) (by decide), kd_3]
  refine ⟨fun h3 => ?_, fun h3 => s_X10_byteAt (d := d) hP h1 (by omega) ?_⟩
  · rw [decide_eq_false (by omega)] at hK; exact hK
  · have haN : a < N := by
      rcases h3 with h3 | h3
      · exact ((eK_sg (Or.inl rfl)).mp h3).1
      · exact ((eK_sg (Or.inr rfl)).mp h3).1
    have hba := hb a
    rw [show lk B N a = nI (B a) from if_pos haN, nt_eq (by omega) (by omega)]
    have e : eK B N a = B a := by
      rcases h3 with h3 | h3
      · rw [h3, ((eK_sg (Or.inl rfl)).mp h3).2.2.2]
      · rw [h3, ((eK_sg (Or.inr rfl)).mp h3).2.2.2]
    refine ⟨fun h4 => ?_, fun h4 => ?_⟩
    · rw [decide_eq_false (by omega)] at hK; exact hK
    · rw [decide_eq_true (by omega)] at hK; exact hK
theorem lk_w (he : eE B N a ≤ N) {j : Nat} (hj : j < eE B N a - a) : lk B N (a + j) = nI (B (a + j)) := if_pos (by omega)
theorem s_X10_isWord (hP : TP σ tp B N) (ha : a ≤ N) (h : TKr σ tk tp B N a) {j : Nat} {q : String × Nat × String × List Nat} (hq : ssz[j]? = some q) {K : Bool → Hp → Prop} (hK : K (isW B N a q.2.2.2) σ) : C_X10_isWord l G (d + 5) tk (gK G j) σ K := by
  obtain ⟨ln, h1, h2⟩ := h
  have h9 := hP.1
  have hb := hP.2.1
  have hkl := kd_lt (B := B) (N := N) (a := a)
  have he := (eE_le (B := B) ha).2
  have hl8 := (ssz_small q (ssz_mem hq)).1
  refine m_X10_isWord (rv_at h1 ⟨_, rfl⟩) ?_
  simp only [F_X10_isWord, F_X10_isWord_19, fI_at (h1), fZ_at (h1), fJ_at (h1), fR_at (h1), fN_at (h1), pF_at (h1), rR10_0, rN10_0, rP10_0, rI10_1, rP10_1, rI10_2, rP10_2, rI10_3, rP10_3, rI10_4, rP10_4]
  rw [nt_1 (by omega), kd_1]
  refine ⟨fun h3 => ?_, fun h3 => ?_⟩
  · rw [isW, decide_eq_false (fun hc => h3 hc.1)] at hK; exact hK
  · have hln := h2 (by omega)
    subst hln
    refine s_J0_length (d := d + 2) hq ?_
    rw [nt_eq (by omega) (by omega)]
    refine ⟨fun h4 => ?_, fun h4 => ?_⟩
    · have hw : isW B N a q.2.2.2 = weq B a q.2.2.2 (eE B N a - a) 0 := by
        rw [Bool.eq_iff_iff, isW, decide_eq_true_eq, weq_iff, tw_eq h4]
        exact ⟨fun hc j _ hj => hc.2 j (by omega), fun hc => ⟨h3, fun j hj => hc j (by omega) (by omega)⟩⟩
      rw [hw] at hK
      have hz : ∀ n k, k + n = eE B N a - a → K (weq B a q.2.2.2 n k) σ → Z_X10_isWord_23 l G (d + 4) K (n + 1) tk (gK G j) (nI k) σ := by
        intro n
        induction n with
        | zero =>
          intro k hk hx
          simp only [Z_X10_isWord_23, F_X10_isWord_23, fI_at (h1), fZ_at (h1), fJ_at (h1), fR_at (h1), fN_at (h1), pF_at (h1), rR10_0, rN10_0, rP10_0, rI10_1, rP10_1, rI10_2, rP10_2, rI10_3, rP10_3, rI10_4, rP10_4]
          rw [nt_le (by omega) (by omega)]
          exact ⟨fun _ => hx, fun hc => absurd (by omega) hc⟩
        | succ n ih =>
          intro k hk hx
          simp only [weq] at hx
          rw [show n + 1 + 1 = (n + 1) + 1 from rfl, Z_X10_isWord_23]
          simp only [F_X10_isWord_23, fI_at (h1), fZ_at (h1), fJ_at (h1), fR_at (h1), fN_at (h1), pF_at (h1), rR10_0, rN10_0, rP10_0, rI10_1, rP10_1, rI10_2, rP10_2, rI10_3, rP10_3, rI10_4, rP10_4, show nI k + 1 = nI (k + 1) from nt_add k 1, nt_add]
          rw [nt_le (by omega) (by omega)]
          refine ⟨fun hc => by omega, fun _ => s_X10_byteAt (d := d + 3) hP h1 (by omega) ?_⟩
          rw [lk_w he (by omega)]
          refine s_J0_charAt (d := d) hq (by omega) ?_
          have hbk := hb (a + k)
          have hc := ssz_c hq k
          rw [nt_eq (by omega) (by omega)]
          refine ⟨fun e => ?_, fun e => ?_⟩
          · rw [decide_eq_true e, Bool.true_and] at hx
            exact ih (k + 1) (by omega) hx
          · rw [decide_eq_false e, Bool.false_and] at hx
            exact hx
      exact ⟨_, hz _ 0 (by omega) hK⟩
    · rw [isW, decide_eq_false (fun hc => h4 (by rw [← hc.2, tw_len]))] at hK; exact hK
theorem s_X10_isName (hP : TP σ tp B N) (ha : a ≤ N) (h : TKr σ tk tp B N a) {K : Bool → Hp → Prop} (hK : K (nmOK B N a) σ) : C_X10_isName l G (d + 6) tk σ K := by
  obtain ⟨ln, h1, h2⟩ := id h
  have hkl := kd_lt (B := B) (N := N) (a := a)
  refine m_X10_isName (rv_at h1 ⟨_, rfl⟩) ?_
  simp only [F_X10_isName_58, F_X10_isName_57, F_X10_isName, fI_at (h1), fZ_at (h1), fJ_at (h1), fR_at (h1), fN_at (h1), pF_at (h1), rR10_0, rN10_0, rP10_0, rI10_1, rP10_1, rI10_2, rP10_2, rI10_3, rP10_3, rI10_4, rP10_4]
  rw [nt_1 (by omega), kd_1]
  unfold nmOK at hK
  refine ⟨fun h3 => ?_, fun h3 => ?_⟩
  · rw [decide_eq_false h3, Bool.false_and] at hK; exact hK
  · rw [decide_eq_true h3, Bool.true_and] at hK
    refine s_X10_isWord (d := d) (j := 5) hP ha h rfl ?_
    rw [isW_tw h3]
    refine ⟨fun e => ?_, fun e1 => s_X10_isWord (d := d) (j := 6) hP ha h rfl ?_⟩
    · simp only [beq_iff_eq] at e
      rw [e] at hK; exact hK
    rw [isW_tw h3]
    refine ⟨fun e => ?_, fun e2 => s_X10_isWord (d := d) (j := 7) hP ha h rfl ?_⟩
    · simp only [beq_iff_eq] at e
      rw [e] at hK; exact hK
    rw [isW_tw h3]
    refine ⟨fun e => ?_, fun e3 => s_X10_isWord (d := d) (j := 8) hP ha h rfl ?_⟩
    · simp only [beq_iff_eq] at e
      rw [e] at hK; exact hK
    rw [isW_tw h3]
    refine ⟨fun e => ?_, fun e4 => s_X10_isWord (d := d) (j := 9) hP ha h rfl ?_⟩
    · simp only [beq_iff_eq] at e
      rw [e] at hK; exact hK
    rw [isW_tw h3]
    refine ⟨fun e => ?_, fun e5 => ?_⟩
    · simp only [beq_iff_eq] at e
      rw [e] at hK; exact hK
    · have : bwords.contains (tw B N a) = false := by
        simp only [beq_eq_false_iff_ne, ne_eq] at e1 e2 e3 e4 e5
        simp [bwords, e1, e2, e3, e4, e5]
      rw [this] at hK; exact hK
/-- a name as a number of base 27 -/
def wcN (w : List Nat) : Nat := w.foldl (fun c x => c * 27 + (x - 96)) 0
def wcd (w : List Nat) : Int64 := lN (wcN w)
theorem wcN_snoc (w : List Nat) (x : Nat) : wcN (w ++ [x]) = wcN w * 27 + (x - 96) := by simp [wcN]
theorem snoc_ind {p : List Nat → Prop} (h0 : p []) (hs : ∀ w x, p w → p (w ++ [x])) (w : List Nat) : p w := by
  have h : ∀ v : List Nat, p v.reverse := by
    intro v
    induction v with
    | nil => exact h0
    | cons x v ih => rw [List.reverse_cons]; exact hs _ _ ih
  have := h w.reverse
  rwa [List.reverse_reverse] at this
theorem wcN_lt (w : List Nat) : (∀ c ∈ w, 97 ≤ c ∧ c ≤ 122) → wcN w < 27 ^ w.length := by
  refine snoc_ind (p := fun w => (∀ c ∈ w, 97 ≤ c ∧ c ≤ 122) → wcN w < 27 ^ w.length) (fun _ => by simp [wcN]) (fun w x ih h => ?_) w
  have h1 := ih fun c hc => h c (by simp [hc])
  have h2 := h x (by simp)
  rw [wcN_snoc, List.length_append, List.length_singleton, Nat.pow_succ]
  omega
theorem wcN_inj (w : List Nat) : ∀ v : List Nat, (∀ c ∈ w, 97 ≤ c ∧ c ≤ 122) → (∀ c ∈ v, 97 ≤ c ∧ c ≤ 122) → wcN w = wcN v → w = v := by
  refine snoc_ind (p := fun w => ∀ v : List Nat, (∀ c ∈ w, 97 ≤ c ∧ c ≤ 122) → (∀ c ∈ v, 97 ≤ c ∧ c ≤ 122) → wcN w = wcN v → w = v) (fun v => ?_) (fun w x ih v => ?_) w
  · refine snoc_ind (p := fun v => (∀ c ∈ ([] : List Nat), 97 ≤ c ∧ c ≤ 122) → (∀ c ∈ v, 97 ≤ c ∧ c ≤ 122) → wcN [] = wcN v → [] = v) (fun _ _ _ => rfl) (fun v x _ hw hv h => ?_) v
    have h2 := hv x (by simp)
    rw [wcN_snoc] at h
    simp only [wcN, List.foldl_nil] at h
    omega
  · refine snoc_ind (p := fun v => (∀ c ∈ w ++ [x], 97 ≤ c ∧ c ≤ 122) → (∀ c ∈ v, 97 ≤ c ∧ c ≤ 122) → wcN (w ++ [x]) = wcN v → w ++ [x] = v) (fun hw hv h => ?_) (fun v y _ hw hv h => ?_) v
    · have h2 := hw x (by simp)
      rw [wcN_snoc] at h
      simp only [wcN, List.foldl_nil] at h
      omega
    · have h2 := hw x (by simp)
      have h3 := hv y (by simp)
      rw [wcN_snoc, wcN_snoc] at h
      have e1 : wcN w = wcN v := by omega
      have e2 : x = y := by omega
      rw [ih v (fun c hc => hw c (by simp [hc])) (fun c hc => hv c (by simp [hc])) e1, e2]
theorem NM.wlt {w : List Nat} (h : NM w) : wcN w < 2 ^ 62 := Nat.lt_of_lt_of_le (wcN_lt _ h.2.2) (Nat.le_trans (Nat.pow_le_pow_right (by decide) h.2.1) (by decide))
theorem wcd_inj {w v : List Nat} (hw : NM w) (hv : NM v) : wcd w = wcd v ↔ w = v := by
  refine ⟨fun h => wcN_inj _ _ hw.2.2 hv.2.2 ?_, fun h => by rw [h]⟩
  have h1 := hw.wlt
  have h2 := hv.wlt
  unfold wcd at h
  rwa [pk_lEQ (by omega) (by omega)] at h
theorem wd_step (c x : Nat) (h1 : 97 ≤ x) (h2 : x ≤ 122) : lN c * (27 : Int64) + ((((nI x - 97) + 1) : Int32).toInt64) = lN (c * 27 + (x - 96)) := by
  have e : ((((nI x - 97) + 1) : Int32).toInt64) = lN (x - 96) := by
    have : ∀ y : Fin 26, ((((nI (97 + y.val) - 97) + 1) : Int32).toInt64) = lN (97 + y.val - 96) := by decide +kernel
    have := this ⟨x - 97, by omega⟩
    simp only [show 97 + (x - 97) = x by omega] at this
    exact this
  rw [e, show (27 : Int64) = lN 27 from rfl]
  show Int64.ofNat c * Int64.ofNat 27 + Int64.ofNat (x - 96) = Int64.ofNat (c * 27 + (x - 96))
  rw [Int64.ofNat_add, Int64.ofNat_mul]
theorem s_X10_wordCode (hP : TP σ tp B N) (ha : a ≤ N) (h : TKr σ tk tp B N a) (h3 : eK B N a = 2) {K : Int64 → Hp → Prop} (hK : K (wcd (tw B N a)) σ) : C_X10_wordCode l G (d + 2) tk σ K := by
  obtain ⟨ln, h1, h2⟩ := h
  have h9 := hP.1
  have hb := hP.2.1
  have he := (eE_le (B := B) ha).2
  have hN := tw_NM ha h3
  have hln := h2 (by omega)
  subst hln
  have h8 : eE B N a - a ≤ 8 := by rw [← tw_len]; exact hN.2.1
  have hz : ∀ n k, k + n = eE B N a - a → Z_X10_wordCode_4 l G (d + 1) K (n + 1) tk (lN (wcN ((tw B N a).take k))) (nI k) σ := by
    intro n
    induction n with
    | zero =>
      intro k hk
      simp only [Z_X10_wordCode_4, F_X10_wordCode_4, F_X10_wordCode_47, fI_at (h1), fZ_at (h1), fJ_at (h1), fR_at (h1), fN_at (h1), pF_at (h1), rR10_0, rN10_0, rP10_0, rI10_1, rP10_1, rI10_2, rP10_2, rI10_3, rP10_3, rI10_4, rP10_4]
      rw [nt_le (by omega) (by omega), List.take_of_length_le (by rw [tw_len]; omega)]
      exact ⟨fun _ => hK, fun hc => absurd (by omega) hc⟩
    | succ n ih =>
      intro k hk
      have hb1 := hb (a + k)
      have hm : B (a + k) ∈ tw B N a := List.mem_of_getElem? (tw_at (by omega))
      have hr := hN.2.2 _ hm
      rw [show n + 1 + 1 = (n + 1) + 1 from rfl, Z_X10_wordCode_4]
      simp only [F_X10_wordCode_4, F_X10_wordCode_47, fI_at (h1), fZ_at (h1), fJ_at (h1), fR_at (h1), fN_at (h1), pF_at (h1), rR10_0, rN10_0, rP10_0, rI10_1, rP10_1, rI10_2, rP10_2, rI10_3, rP10_3, rI10_4, rP10_4, show nI k + 1 = nI (k + 1) from nt_add k 1, nt_add]
      rw [nt_le (by omega) (by omega), show (8 : Int32) = nI 8 from rfl, nt_le (by decide) (by omega)]
      refine ⟨fun hc => by omega, fun _ => ⟨fun hc => by omega, fun _ => s_X10_byteAt (d := d) hP h1 (by omega) ?_⟩⟩
      rw [lk_w (j := k) he (by omega), wd_step _ _ hr.1 hr.2, ← wcN_snoc]
      have e : (tw B N a).take k ++ [B (a + k)] = (tw B N a).take (k + 1) := by
        rw [List.take_add_one, tw_at (by omega)]
        rfl
      rw [e]
      exact ih (k + 1) (by omega)
  refine m_X10_wordCode (rv_at h1 ⟨_, rfl⟩) ?_
  simp only [F_X10_wordCode]
  exact ⟨_, hz (eE B N a - a) 0 (by omega)⟩
theorem s_X10_wholeValue (hP : TP σ tp B N) (ha : a ≤ N) (h : TKr σ tk tp B N a) (h3 : eK B N a = 3) {K : Int32 → Hp → Prop} (hK : K (nI (tV B N a)) σ) : C_X10_wholeValue l G (d + 2) tk σ K := by
  obtain ⟨ln, h1, h2⟩ := h
  have h9 := hP.1
  have hb := hP.2.1
  have he := (eE_le (B := B) ha).2
  have hln := h2 (by omega)
  subst hln
  have hd : pDg B N a = true ∧ eE B N a - a ≤ 3 := by
    unfold eK at h3
    split at h3
    · cases h3
    · split at h3
      · split at h3 <;> cases h3
      · split at h3
        · rename_i hd
          refine ⟨hd, ?_⟩
          split at h3 <;> omega
        · (repeat' split at h3) <;> omega
  have hdg : ∀ k, k < eE B N a - a → 48 ≤ B (a + k) ∧ B (a + k) ≤ 57 := by
    intro k hk
    have hs : ¬ pSm B N a = true := by
      have := hd.1
      simp only [pSm, pDg, Bool.and_eq_true, decide_eq_true_eq] at this ⊢
      omega
    have haN : ¬ N ≤ a := by
      have := hd.1
      simp only [pDg, Bool.and_eq_true, decide_eq_true_eq] at this
      omega
    have e : eE B N a = rn (pDg B N) (N - a) a := by
      unfold eE
      rw [if_neg haN, if_neg hs, if_pos hd.1]
    have := rn_in (pDg B N) (N - a) a (a + k) (by omega) (by rw [← e]; omega)
    simp only [pDg, Bool.and_eq_true, decide_eq_true_eq] at this
    exact this.2
  have hz : ∀ n k, k + n = eE B N a - a → Z_X10_wholeValue_4 l G (d + 1) K (n + 1) tk (nI (dg B a k)) (nI k) σ := by
    intro n
    induction n with
    | zero =>
      intro k hk
      simp only [Z_X10_wholeValue_4, F_X10_wholeValue_4, F_X10_wholeValue_42, fI_at (h1), fZ_at (h1), fJ_at (h1), fR_at (h1), fN_at (h1), pF_at (h1), rR10_0, rN10_0, rP10_0, rI10_1, rP10_1, rI10_2, rP10_2, rI10_3, rP10_3, rI10_4, rP10_4]
      rw [nt_le (by omega) (by omega)]
      obtain rfl : k = eE B N a - a := by omega
      exact ⟨fun _ => hK, fun hc => absurd (by omega) hc⟩
    | succ n ih =>
      intro k hk
      have hb1 := hb (a + k)
      have hr := hdg k (by omega)
      rw [show n + 1 + 1 = (n + 1) + 1 from rfl, Z_X10_wholeValue_4]
      simp only [F_X10_wholeValue_4, F_X10_wholeValue_42, fI_at (h1), fZ_at (h1), fJ_at (h1), fR_at (h1), fN_at (h1), pF_at (h1), rR10_0, rN10_0, rP10_0, rI10_1, rP10_1, rI10_2, rP10_2, rI10_3, rP10_3, rI10_4, rP10_4, show nI k + 1 = nI (k + 1) from nt_add k 1, nt_add]
      rw [nt_le (by omega) (by omega), show (3 : Int32) = nI 3 from rfl, nt_le (by decide) (by omega)]
      refine ⟨fun hc => by omega, fun _ => ⟨fun hc => by omega, fun _ => s_X10_byteAt (d := d) hP h1 (by omega) ?_⟩⟩
      rw [lk_w (j := k) he (by omega), show (10 : Int32) = nI 10 from rfl, show (48 : Int32) = nI 48 from rfl, nt_mul, nt_sub (by omega) (by omega), nt_add, Nat.mul_comm]
      exact ih (k + 1) (by omega)
  refine m_X10_wholeValue (rv_at h1 ⟨_, rfl⟩) ?_
  simp only [F_X10_wholeValue]
  exact ⟨_, hz (eE B N a - a) 0 (by omega)⟩
end TOK
