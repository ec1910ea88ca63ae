/-! rows of squares as heaps, the class's (Rows): 60 the object, 61 sizes, 62.. rows, 72 made, 73 nothing, 74 seen -/
theorem nt_subl {n k i : Nat} (hn : n < 2 ^ 30) (hk : k < 2 ^ 30) (hi : i < 2 ^ 30) : nI n - nI k < nI i ↔ n < i + k := by
  rw [fa_lt, Int32.toInt_sub, nI_toInt (by omega), nI_toInt (by omega), nI_toInt (by omega)]
  unfold Int.bmod
  simp only [Nat.reducePow]
  split <;> omega
def nn (md : Nat → Bool) : Nat → Nat
  | 0 => 0
  | n + 1 => nn md n + if md n then 0 else 1
theorem nn_up (md : Nat → Bool) {k : Nat} (h : md k = false) : ∀ n, nn (up_ md k true) n + (if k < n then 1 else 0) = nn md n
  | 0 => rfl
  | n + 1 => by
    simp only [nn]
    have ih := nn_up md h n
    by_cases e : n = k
    · subst e
      rw [up_eq, h, if_pos (show n < n + 1 by omega)]
      rw [if_neg (show ¬ n < n by omega)] at ih
      simp only [if_true, Bool.false_eq_true, if_false]
      omega
    · rw [up_ne e]
      by_cases e2 : k < n
      · rw [if_pos e2] at ih
        rw [if_pos (show k < n + 1 by omega)]
        omega
      · rw [if_neg e2] at ih
        rw [if_neg (show ¬ k < n + 1 by omega)]
        omega
theorem nn_le (md : Nat → Bool) : ∀ n, nn md n ≤ n
  | 0 => Nat.le_refl _
  | n + 1 => by have := nn_le md n; simp only [nn]; split <;> omega
def RWr (P : Nat → Nat) (C : Nat → CE) : Prop := ∃ g md sn st, C 60 = O7 (some (P 61)) (some (P 72)) (some (P 73)) (some (P 74)) (nI st) ∧ (C 61 = rA 5 10 g ∧ ∀ i, i < 10 → g i = some (P (62 + i))) ∧ C 72 = zA 10 md ∧ (∃ f, C 73 = iA 0 f) ∧ C 74 = iA 256 sn ∧ (∀ j, j < 256 → ∃ s, s ≤ st ∧ sn j = nI s) ∧ st + 201 * nn md 10 ≤ 2010 ∧ ∀ k, k < 10 → ∃ f, C (62 + k) = iA 201 f ∧ (md k = true → ∀ n, n ≤ 200 → f n = nI (sz k n))
theorem RWr.cg {P : Nat → Nat} {C C' : Nat → CE} (h : RWr P C) (hc : ∀ j, 60 ≤ j → j < 75 → C' j = C j) : RWr P C' := by
  obtain ⟨g, md, sn, st, h1, ⟨h2, h2'⟩, h3, ⟨f, h4⟩, h5, h6, h7, h8⟩ := h
  refine ⟨g, md, sn, st, (hc _ (by omega) (by omega)).trans h1, ⟨(hc _ (by omega) (by omega)).trans h2, h2'⟩, (hc _ (by omega) (by omega)).trans h3, ⟨f, (hc _ (by omega) (by omega)).trans h4⟩, (hc _ (by omega) (by omega)).trans h5, h6, h7, fun k hk => ?_⟩
  obtain ⟨f, a, b⟩ := h8 k hk
  exact ⟨f, (hc _ (by omega) (by omega)).trans a, b⟩
theorem opC_lt (k n : Nat) : ∀ r i a, a < 2 ^ 32 → opC k n r i a < 2 ^ 32
  | 0, _, a => fun h => h
  | r + 1, i, a => fun h => by
    simp only [opC]
    split
    · exact opC_lt k n r (i + 1) _ (lt_two h (xor_lt32 (sz_lt _ _) (sz_lt _ _)))
    · exact h
section ROWC
variable {l : Launch} {G : GG} {d : Nat} {P : Nat → Nat} {C : Nat → CE} {τ : Hp}
theorem s_X7_isLength {σ : Hp} {n : Int32} {K : Bool → Hp → Prop} (hK : K (inR n 0 200) σ) : C_X7_isLength l G (d + 1) n σ K := by
  refine m_X7_isLength ?_
  simp only [F_X7_isLength_16, F_X7_isLength_15, F_X7_isLength]
  unfold inR at hK
  refine ⟨fun c => ?_, fun c => ⟨fun c2 => ?_, fun c2 => ?_⟩⟩
  · rwa [decide_eq_false fun e => e.1 c] at hK
  · rwa [decide_eq_false fun e => e.2 c2] at hK
  · rwa [decide_eq_true ⟨c, c2⟩] at hK
theorem s_X7_isWidth {σ : Hp} {n : Int32} {K : Bool → Hp → Prop} (hK : K (inR n 1 9) σ) : C_X7_isWidth l G (d + 1) n σ K := by
  refine m_X7_isWidth ?_
  simp only [F_X7_isWidth_16, F_X7_isWidth_15, F_X7_isWidth]
  unfold inR at hK
  refine ⟨fun c => ?_, fun c => ⟨fun c2 => ?_, fun c2 => ?_⟩⟩
  · rwa [decide_eq_false fun e => e.1 c] at hK
  · rwa [decide_eq_false fun e => e.2 c2] at hK
  · rwa [decide_eq_true ⟨c, c2⟩] at hK
theorem s_X7_behind {σ : Hp} {a N i j : Nat} {f : Nat → Int32} (h : σ a = some (iA N f)) (hN : N < 2 ^ 30) (hi : i < N) (hj : j < N) {K : Int32 → Hp → Prop} (hK : K (f i ^^^ f j) σ) : C_X7_behind l G (d + 1) a (nI i) (nI j) σ K := by
  refine m_X7_behind ?_
  simp only [F_X7_behind_20, F_X7_behind, aL_i h, gI_at h, nI_clamp (show i < 2 ^ 31 by omega), nI_clamp (show j < 2 ^ 31 by omega)]
  rw [nt_le (by omega) (by omega), nt_lt (show j < 2 ^ 31 by omega) (by omega)]
  exact ⟨fun hc => absurd hc (nt_neg (by omega)), fun _ => ⟨fun hc => by omega, fun _ => ⟨fun hc => absurd hc (nt_neg (by omega)), fun _ => ⟨fun _ => ⟨(nt_in (by omega)).mpr hi, (nt_in (by omega)).mpr hj, hK⟩, fun hc => absurd hj hc⟩⟩⟩⟩
theorem s_X7_leastMissing (hB : okB 75 P) {k n st : Nat} {f sn : Nat → Int32} (h1 : 1 ≤ k) (h9 : k ≤ 9) (hn : n ≤ 200) {q1 q2 q3 : Option Nat} (a1 : C 60 = O7 q1 q2 q3 (some (P 74)) (nI st)) (a2 : C 74 = iA 256 sn) (a3 : C (62 + k) = iA 201 f) (hf : ∀ j, j < n → f j = nI (sz k j)) (hst : st < 3000) (hsn : ∀ j, j < 256 → ∃ s, s ≤ st ∧ sn j = nI s) {K : Int32 → Hp → Prop} (hK : ∀ C' sn', (∀ j, j ≠ 60 → j ≠ 74 → C' j = C j) → C' 60 = O7 q1 q2 q3 (some (P 74)) (nI (st + 1)) → C' 74 = iA 256 sn' → (∀ j, j < 256 → ∃ s, s ≤ st + 1 ∧ sn' j = nI s) → K (nI (sz k n)) (ch 75 P C' τ)) : C_X7_leastMissing l G (d + 2) (P 60) (P (62 + k)) (nI n) (nI k) (ch 75 P C τ) K := by
  have hk0 : 62 + k < 75 := by omega
  have n1 : (62 + k = 60) = False := eq_false (by omega)
  have n2 : (62 + k = 74) = False := eq_false (by omega)
  obtain ⟨hm1, hm2⟩ := szC h1 h9 hn
  have hbl := opC_lt k n 202 0 0 (by decide)
  have hsl := sz_lt k n
  generalize hOP : opC k n 202 0 0 = OP at hm1 hm2 hbl
  have h70 : ∀ C' sn', (∀ j, j ≠ 60 → j ≠ 74 → C' j = C j) → C' 60 = O7 q1 q2 q3 (some (P 74)) (nI (st + 1)) → C' 74 = iA 256 sn' → (∀ j, j < 256 → ∃ s, s ≤ st + 1 ∧ sn' j = nI s) → (∀ j, j < 256 → (sn' j = nI (st + 1) ↔ OP.testBit j = true)) → ∀ q v, v + q = sz k n → Z_X7_leastMissing_70 l G (d + 1) K (q + 1) (P 60) (nI v) (ch 75 P C' τ) := by
    intro C' sn' c1 c2 c3 c4 c5 q
    induction q with
    | zero =>
      intro v hv
      obtain rfl : v = sz k n := by omega
      simp only [Z_X7_leastMissing_70, F_X7_leastMissing_70, fI_c hB, fZ_c hB, fJ_c hB, fR_c hB, fN_c hB, pF_c hB, gI_c hB, gZ_c hB, gJ_c hB, gN_c hB, sI_c hB, sZ_c hB, sJ_c hB, sN_c hB, aL_c hB, Nat.reduceLT, c2, c3, rR7_0, rN7_0, rP7_0, rR7_1, rN7_1, rP7_1, rR7_2, rN7_2, rP7_2, rR7_3, rN7_3, rP7_3, rI7_4, rP7_4, xI_r, xZ_r, xJ_r, xN_r, yI_r, yZ_r, yJ_r, yN_r, cL_i, cL_z, cL_j, cL_r, nI_clamp (show sz k n < 2 ^ 31 by omega)]
      rw [nt_le (by omega) (by omega), c5 _ (by omega), hm1]
      exact ⟨fun hc => by omega, fun _ => ⟨(nt_in (by omega)).mpr (by omega), fun hc => (by cases hc), fun _ => hK C' sn' c1 c2 c3 c4⟩⟩
    | succ q ih =>
      intro v hv
      rw [show q + 1 + 1 = (q + 1) + 1 from rfl, Z_X7_leastMissing_70]
      simp only [F_X7_leastMissing_70, fI_c hB, fZ_c hB, fJ_c hB, fR_c hB, fN_c hB, pF_c hB, gI_c hB, gZ_c hB, gJ_c hB, gN_c hB, sI_c hB, sZ_c hB, sJ_c hB, sN_c hB, aL_c hB, Nat.reduceLT, c2, c3, rR7_0, rN7_0, rP7_0, rR7_1, rN7_1, rP7_1, rR7_2, rN7_2, rP7_2, rR7_3, rN7_3, rP7_3, rI7_4, rP7_4, xI_r, xZ_r, xJ_r, xN_r, yI_r, yZ_r, yJ_r, yN_r, cL_i, cL_z, cL_j, cL_r, nI_clamp (show v < 2 ^ 31 by omega)]
      rw [nt_le (by omega) (by omega), c5 _ (by omega), hm2 v (by omega), show nI v + 1 = nI (v + 1) from nt_add v 1]
      exact ⟨fun hc => by omega, fun _ => ⟨(nt_in (by omega)).mpr (by omega), fun _ => ih (v + 1) (by omega), fun hc => absurd rfl hc⟩⟩
  have h13 : ∀ q i a C' sn', i + q = 202 → a < 2 ^ 32 → opC k n q i a = OP → (∀ j, j ≠ 60 → j ≠ 74 → C' j = C j) → C' 60 = O7 q1 q2 q3 (some (P 74)) (nI (st + 1)) → C' 74 = iA 256 sn' → (∀ j, j < 256 → ∃ s, s ≤ st + 1 ∧ sn' j = nI s) → (∀ j, j < 256 → (sn' j = nI (st + 1) ↔ a.testBit j = true)) → Z_X7_leastMissing_13 l G (d + 1) K (q + 1) (P 60) (P (62 + k)) (nI n) (nI k) (nI i) (ch 75 P C' τ) := by
    intro q
    induction q with
    | zero =>
      intro i a C' sn' hi ha hop c1 c2 c3 c4 c5
      simp only [opC] at hop
      subst hop
      simp only [Z_X7_leastMissing_13, F_X7_leastMissing_13]
      rw [nt_subl (by omega) (by omega) (by omega)]
      exact ⟨fun _ => ⟨_, h70 C' sn' c1 c2 c3 c4 c5 (sz k n) 0 (by omega)⟩, fun hc => absurd (show n < i + k by omega) hc⟩
    | succ q ih =>
      intro i a C' sn' hi ha hop c1 c2 c3 c4 c5
      simp only [opC] at hop
      rw [show q + 1 + 1 = (q + 1) + 1 from rfl, Z_X7_leastMissing_13]
      simp only [F_X7_leastMissing_13, F_X7_leastMissing_61]
      rw [nt_subl (by omega) (by omega) (by omega)]
      refine ⟨fun hc => ?_, fun hc => ?_⟩
      · rw [if_neg (by omega)] at hop
        subst hop
        exact ⟨_, h70 C' sn' c1 c2 c3 c4 c5 (sz k n) 0 (by omega)⟩
      · rw [if_pos (by omega)] at hop
        have hx := xor_lt32 (sz_lt k i) (sz_lt k (n - k - i))
        rw [nt_sub (b := k) (by omega) (by omega), nt_sub (b := i) (by omega) (by omega)]
        have hrow : ch 75 P C' τ (P (62 + k)) = some (iA 201 f) := (ch_a hB hk0).trans (congrArg some ((c1 _ (by omega) (by omega)).trans a3))
        refine s_X7_behind (d := d) hrow (by decide) (by omega) (by omega) ?_
        rw [hf i (by omega), hf (n - k - i) (by omega), nt_xor]
        generalize hw : sz k i ^^^ sz k (n - k - i) = w at hop hx
        simp only [fI_c hB, fZ_c hB, fJ_c hB, fR_c hB, fN_c hB, pF_c hB, gI_c hB, gZ_c hB, gJ_c hB, gN_c hB, sI_c hB, sZ_c hB, sJ_c hB, sN_c hB, aL_c hB, Nat.reduceLT, c2, c3, rR7_0, rN7_0, rP7_0, rR7_1, rN7_1, rP7_1, rR7_2, rN7_2, rP7_2, rR7_3, rN7_3, rP7_3, rI7_4, rP7_4, xI_r, xZ_r, xJ_r, xN_r, yI_r, yZ_r, yJ_r, yN_r, cL_i, cL_z, cL_j, cL_r, nI_clamp (show w < 2 ^ 31 by omega), show nI i + 1 = nI (i + 1) from nt_add i 1]
        rw [nt_le (by omega) (by omega)]
        refine ⟨fun hc => absurd hc (nt_neg (by omega)), fun _ => ⟨fun hc => by omega, fun _ => ⟨(nt_in (by omega)).mpr (by omega), ?_⟩⟩⟩
        refine ih (i + 1) _ _ (up_ sn' w (nI (st + 1))) (by omega) (lt_two ha hx) hop (fun j h1 h2 => by rw [up_ne h2]; exact c1 j h1 h2) (by rw [up_ne (by decide)]; exact c2) (up_eq _ _ _) (fun j hj => ?_) (fun j hj => ?_)
        · by_cases e : j = w
          · subst e; rw [up_eq]; exact ⟨st + 1, Nat.le_refl _, rfl⟩
          · rw [up_ne e]; exact c4 j hj
        · rw [fb_bit_set]
          by_cases e : j = w
          · subst e; rw [up_eq, decide_eq_true rfl, Bool.or_true]; simp
          · rw [up_ne e, decide_eq_false e, Bool.or_false]; exact c5 j hj
  refine m_X7_leastMissing (rv_c hB (by decide) (by rw [a1]; exact ⟨_, rfl⟩)) ?_
  simp only [F_X7_leastMissing, fI_c hB, fZ_c hB, fJ_c hB, fR_c hB, fN_c hB, pF_c hB, gI_c hB, gZ_c hB, gJ_c hB, gN_c hB, sI_c hB, sZ_c hB, sJ_c hB, sN_c hB, aL_c hB, Nat.reduceLT, a1, rR7_0, rN7_0, rP7_0, rR7_1, rN7_1, rP7_1, rR7_2, rN7_2, rP7_2, rR7_3, rN7_3, rP7_3, rI7_4, rP7_4, show nI st + 1 = nI (st + 1) from nt_add st 1]
  refine ⟨_, h13 202 0 0 _ sn (by omega) (by decide) hOP (fun j h1 h2 => up_ne h1) (up_eq _ _ _) (by rw [up_ne (by decide)]; exact a2) (fun j hj => ?_) (fun j hj => ?_)⟩
  · obtain ⟨s, h1, h2⟩ := hsn j hj; exact ⟨s, by omega, h2⟩
  · obtain ⟨s, h1, h2⟩ := hsn j hj
    rw [h2, nt_eq (by omega) (by omega), Nat.zero_testBit]
    simp only [Bool.false_eq_true, iff_false]
    omega
theorem s_X7_rowOf (hB : okB 75 P) (h : RWr P C) {k : Nat} (h1 : 1 ≤ k) (h9 : k ≤ 9) {K : Nat → Hp → Prop} (hK : ∀ C' f, Ck 60 74 C C' → RWr P C' → C' (62 + k) = iA 201 f → (∀ n, n ≤ 200 → f n = nI (sz k n)) → K (P (62 + k)) (ch 75 P C' τ)) : C_X7_rowOf l G (d + 3) (P 60) (nI k) (ch 75 P C τ) K := by
  have hh := h
  have hk0 : 62 + k < 75 := by omega
  obtain ⟨g, md, sn, st, a1, ⟨a2, a2'⟩, a3, ⟨f4, a4⟩, a5, a6, a7, a8⟩ := h
  obtain ⟨fk, b1, b2⟩ := a8 k (by omega)
  refine m_X7_rowOf (rv_c hB (by decide) (by rw [a1]; exact ⟨_, rfl⟩)) ?_
  simp only [F_X7_rowOf, F_X7_rowOf_77]
  refine s_X7_isWidth (d := d + 1) ?_
  have hin : inR (nI k) 1 9 = true := decide_eq_true ⟨by rw [nt_lt (by omega) (by decide)]; omega, by rw [nt_lt (by decide) (by omega)]; omega⟩
  rw [hin]
  simp only [fI_c hB, fZ_c hB, fJ_c hB, fR_c hB, fN_c hB, pF_c hB, gI_c hB, gZ_c hB, gJ_c hB, gN_c hB, sI_c hB, sZ_c hB, sJ_c hB, sN_c hB, aL_c hB, Nat.reduceLT, a1, a2, a3, rR7_0, rN7_0, rP7_0, rR7_1, rN7_1, rP7_1, rR7_2, rN7_2, rP7_2, rR7_3, rN7_3, rP7_3, rI7_4, rP7_4, xI_r, xZ_r, xJ_r, xN_r, yI_r, yZ_r, yJ_r, yN_r, cL_i, cL_z, cL_j, cL_r, reduceCtorEq, false_implies, true_implies, forall_const, true_and, and_true, eq_self, nI_clamp (show k < 2 ^ 31 by omega)]
  rw [nt_le (by omega) (by omega), nt_lt (by omega) (by omega)]
  refine ⟨fun hc => by omega, fun _ => ⟨fun _ => ⟨P (62 + k), (nt_in (by omega)).mpr (by omega), a2' k (by omega), (nt_in (by omega)).mpr (by omega), fun hm => hK C fk Ck.rf hh b1 (b2 hm), fun hm => ⟨(nt_in (by omega)).mpr (by omega), 202, ?_⟩⟩, fun hc => absurd (by omega) hc⟩⟩
  have hnn := nn_up md hm 10
  rw [if_pos (by omega)] at hnn
  have hz : ∀ q n C' f sn' st', n + q = 201 → st' = st + n → (∀ j, j ≠ 60 → j ≠ 72 → j ≠ 74 → j ≠ 62 + k → C' j = C j) → C' 60 = O7 (some (P 61)) (some (P 72)) (some (P 73)) (some (P 74)) (nI st') → C' 72 = zA 10 (up_ md k true) → C' 74 = iA 256 sn' → (∀ j, j < 256 → ∃ s, s ≤ st' ∧ sn' j = nI s) → C' (62 + k) = iA 201 f → (∀ j, j < n → f j = nI (sz k j)) → Z_X7_rowOf_55 l G (d + 2) K (q + 1) (P 60) (nI k) (P (62 + k)) (nI n) (ch 75 P C' τ) := by
    intro q
    induction q with
    | zero =>
      intro n C' f sn' st' hn hst c1 c2 c3 c4 c5 c6 c7
      simp only [Z_X7_rowOf_55, F_X7_rowOf_55, F_X7_rowOf_77, fI_c hB, fZ_c hB, fJ_c hB, fR_c hB, fN_c hB, pF_c hB, gI_c hB, gZ_c hB, gJ_c hB, gN_c hB, sI_c hB, sZ_c hB, sJ_c hB, sN_c hB, aL_c hB, Nat.reduceLT, hk0, c6, xI_r, xZ_r, xJ_r, xN_r, yI_r, yZ_r, yJ_r, yN_r, cL_i, cL_z, cL_j, cL_r]
      rw [nt_le (by omega) (by omega)]
      refine ⟨fun _ => hK C' f (fun j hj => c1 j (by omega) (by omega) (by omega) (by omega)) ⟨g, up_ md k true, sn', st', c2, ⟨(c1 61 (by decide) (by decide) (by decide) (by omega)).trans a2, a2'⟩, c3, ⟨f4, (c1 73 (by decide) (by decide) (by decide) (by omega)).trans a4⟩, c4, c5, by omega, fun k' hk' => ?_⟩ c6 fun n hn => c7 n (by omega), fun hc => absurd (by omega) hc⟩
      by_cases e : k' = k
      · subst e; exact ⟨f, c6, fun _ n hn => c7 n (by omega)⟩
      · obtain ⟨f', e1, e2⟩ := a8 k' hk'
        exact ⟨f', (c1 _ (by omega) (by omega) (by omega) (by omega)).trans e1, fun hm => e2 (by rwa [up_ne e] at hm)⟩
    | succ q ih =>
      intro n C' f sn' st' hn hst c1 c2 c3 c4 c5 c6 c7
      rw [show q + 1 + 1 = (q + 1) + 1 from rfl, Z_X7_rowOf_55]
      simp only [F_X7_rowOf_55, F_X7_rowOf_77, fI_c hB, fZ_c hB, fJ_c hB, fR_c hB, fN_c hB, pF_c hB, gI_c hB, gZ_c hB, gJ_c hB, gN_c hB, sI_c hB, sZ_c hB, sJ_c hB, sN_c hB, aL_c hB, Nat.reduceLT, hk0, c6, xI_r, xZ_r, xJ_r, xN_r, yI_r, yZ_r, yJ_r, yN_r, cL_i, cL_z, cL_j, cL_r]
      rw [nt_le (by omega) (by omega)]
      refine ⟨fun hc => by omega, fun _ => s_X7_leastMissing (d := d) hB h1 h9 (by omega) c2 c4 c6 c7 (by omega) c5 fun C'' sn'' e1 e2 e3 e4 => ?_⟩
      have e6 : C'' (62 + k) = iA 201 f := (e1 _ (by omega) (by omega)).trans c6
      simp only [fI_c hB, fZ_c hB, fJ_c hB, fR_c hB, fN_c hB, pF_c hB, gI_c hB, gZ_c hB, gJ_c hB, gN_c hB, sI_c hB, sZ_c hB, sJ_c hB, sN_c hB, aL_c hB, Nat.reduceLT, hk0, e6, xI_r, xZ_r, xJ_r, xN_r, yI_r, yZ_r, yJ_r, yN_r, cL_i, cL_z, cL_j, cL_r, nI_clamp (show n < 2 ^ 31 by omega), show nI n + 1 = nI (n + 1) from nt_add n 1]
      refine ⟨(nt_in (by omega)).mpr (by omega), ih (n + 1) _ (up_ f n (nI (sz k n))) sn'' (st' + 1) (by omega) (by omega) (fun j h1 h2 h3 h4 => ?_) ?_ ?_ ?_ e4 (up_eq _ _ _) (fun j hj => ?_)⟩
      · rw [up_ne h4, e1 j h1 h3]; exact c1 j h1 h2 h3 h4
      · rw [up_ne (by omega)]; exact e2
      · rw [up_ne (by omega), e1 _ (by decide) (by decide)]; exact c3
      · rw [up_ne (by omega)]; exact e3
      · by_cases e : j = n
        · subst e; rw [up_eq]
        · rw [up_ne e]; exact c7 j (by omega)
  exact hz 201 0 _ fk sn st (by omega) (by omega) (fun j h1 h2 h3 h4 => up_ne h2) (by rw [up_ne (by decide)]; exact a1) (up_eq _ _ _) (by rw [up_ne (by decide)]; exact a5) a6 (by rw [up_ne (by omega)]; exact b1) fun j hj => by omega
theorem s_X7_sizeOf (hB : okB 75 P) (h : RWr P C) {k n : Nat} (h1 : 1 ≤ k) (h9 : k ≤ 9) (hn : n ≤ 200) {K : Int32 → Hp → Prop} (hK : ∀ C', Ck 60 74 C C' → RWr P C' → K (nI (sz k n)) (ch 75 P C' τ)) : C_X7_sizeOf l G (d + 4) (P 60) (nI n) (nI k) (ch 75 P C τ) K := by
  have hk0 : 62 + k < 75 := by omega
  obtain ⟨g, md, sn, st, a1, -⟩ := id h
  refine m_X7_sizeOf (rv_c hB (by decide) (by rw [a1]; exact ⟨_, rfl⟩)) ?_
  simp only [F_X7_sizeOf_23, F_X7_sizeOf_22, F_X7_sizeOf]
  refine s_X7_rowOf (d := d) hB h h1 h9 fun C' f c1 c2 c3 c4 => ?_
  simp only [fI_c hB, fZ_c hB, fJ_c hB, fR_c hB, fN_c hB, pF_c hB, gI_c hB, gZ_c hB, gJ_c hB, gN_c hB, sI_c hB, sZ_c hB, sJ_c hB, sN_c hB, aL_c hB, Nat.reduceLT, hk0, c3, xI_r, xZ_r, xJ_r, xN_r, yI_r, yZ_r, yJ_r, yN_r, cL_i, cL_z, cL_j, cL_r, nI_clamp (show n < 2 ^ 31 by omega), c4 n hn]
  rw [nt_le (by omega) (by omega)]
  exact ⟨fun hc => absurd hc (nt_neg (by omega)), fun _ => ⟨fun hc => by omega, fun _ => ⟨(nt_in (by omega)).mpr (by omega), hK C' c1 c2⟩⟩⟩
theorem s_X7_firstMaking (hB : okB 75 P) (h : RWr P C) {k n v : Nat} (h1 : 1 ≤ k) (h9 : k ≤ 9) (hn : n ≤ 200) (hv : v ≤ 99) {K : Int32 → Hp → Prop} (hK : ∀ C', Ck 60 74 C C' → RWr P C' → K (optF (rlP n k v)) (ch 75 P C' τ)) : C_X7_firstMaking l G (d + 4) (P 60) (nI n) (nI k) (nI v) (ch 75 P C τ) K := by
  have hk0 : 62 + k < 75 := by omega
  obtain ⟨g, md, sn, st, a1, -⟩ := id h
  refine m_X7_firstMaking (rv_c hB (by decide) (by rw [a1]; exact ⟨_, rfl⟩)) ?_
  simp only [F_X7_firstMaking_10, F_X7_firstMaking]
  refine s_X7_rowOf (d := d) hB h h1 h9 fun C' f c1 c2 c3 c4 => ?_
  have hrow : ch 75 P C' τ (P (62 + k)) = some (iA 201 f) := (ch_a hB hk0).trans (congrArg some c3)
  have hz : ∀ q i, i + q = n + 1 - k → K (optF (fst1 (fun i => decide (sz k i ^^^ sz k (n - k - i) = v)) q i)) (ch 75 P C' τ) → Z_X7_firstMaking_10 l G (d + 3) K (q + 1) (nI n) (nI k) (nI v) (P (62 + k)) (nI i) (ch 75 P C' τ) := by
    intro q
    induction q with
    | zero =>
      intro i hi hk
      simp only [Z_X7_firstMaking_10, F_X7_firstMaking_10]
      rw [nt_subl (by omega) (by omega) (by omega)]
      exact ⟨fun _ => hk, fun hc => absurd (show n < i + k by omega) hc⟩
    | succ q ih =>
      intro i hi hk
      rw [show q + 1 + 1 = (q + 1) + 1 from rfl, Z_X7_firstMaking_10]
      simp only [F_X7_firstMaking_10]
      rw [nt_subl (by omega) (by omega) (by omega), nt_sub (b := k) (by omega) (by omega), nt_sub (b := i) (by omega) (by omega)]
      refine ⟨fun hc => by omega, fun _ => s_X7_behind (d := d + 2) hrow (by decide) (by omega) (by omega) ?_⟩
      have hx := xor_lt32 (sz_lt k i) (sz_lt k (n - k - i))
      simp only [fst1] at hk
      rw [c4 i (by omega), c4 (n - k - i) (by omega), nt_xor, nt_eq (by omega) (by omega), show nI i + 1 = nI (i + 1) from nt_add i 1]
      refine ⟨fun h5 => ih (i + 1) (by omega) (by rwa [if_neg (by simpa using h5)] at hk), fun h5 => by rwa [if_pos (by simpa using h5)] at hk⟩
  refine ⟨_, hz (n + 1 - k) 0 (by omega) (hK C' c1 c2)⟩
theorem xor_0 {a b : Nat} : a ^^^ b = 0 ↔ a = b := by
  constructor
  · intro h
    apply Nat.eq_of_testBit_eq
    intro i
    have := congrArg (fun z => z.testBit i) h
    simp only [Nat.testBit_xor, Nat.zero_testBit] at this
    revert this
    cases a.testBit i <;> cases b.testBit i <;> simp
  · rintro rfl; exact Nat.xor_self a
/-- from the n-th on: what the start is -/
def upS (k p : Nat) : Nat → Nat → Nat → Nat
  | 0, _, s => s
  | r + 1, n, s => upS k p r (n + 1) (if sz k n = sz k (n + p) then s else n + 1)
theorem upS_dn (k p : Nat) : ∀ r n, upS k p r n (dn k p n) = dn k p (n + r)
  | 0, n => rfl
  | r + 1, n => by
    rw [upS, show (if sz k n = sz k (n + p) then dn k p n else n + 1) = dn k p (n + 1) from rfl, upS_dn k p r (n + 1)]
    congr 1
    omega
theorem s_X7_startOf (hB : okB 75 P) (h : RWr P C) {k p : Nat} (h1 : 1 ≤ k) (h9 : k ≤ 9) (hp1 : 1 ≤ p) (hp : p ≤ 60) {K : Int32 → Hp → Prop} (hK : ∀ C', Ck 60 74 C C' → RWr P C' → K (nI (stP k p)) (ch 75 P C' τ)) : C_X7_startOf l G (d + 4) (P 60) (nI k) (nI p) (ch 75 P C τ) K := by
  have hk0 : 62 + k < 75 := by omega
  obtain ⟨g, md, sn, st, a1, -⟩ := id h
  refine m_X7_startOf (rv_c hB (by decide) (by rw [a1]; exact ⟨_, rfl⟩)) ?_
  simp only [F_X7_startOf_40, F_X7_startOf_12, F_X7_startOf]
  refine s_X7_rowOf (d := d) hB h h1 h9 fun C' f c1 c2 c3 c4 => ?_
  have hrow : ch 75 P C' τ (P (62 + k)) = some (iA 201 f) := (ch_a hB hk0).trans (congrArg some c3)
  have hz : ∀ q n s, n + q = 201 - p → K (nI (upS k p q n s)) (ch 75 P C' τ) → Z_X7_startOf_12 l G (d + 3) K (q + 1) (nI p) (P (62 + k)) (nI s) (nI n) (ch 75 P C' τ) := by
    intro q
    induction q with
    | zero =>
      intro n s hi hk
      simp only [Z_X7_startOf_12, F_X7_startOf_12, fI_c hB, fZ_c hB, fJ_c hB, fR_c hB, fN_c hB, pF_c hB, gI_c hB, gZ_c hB, gJ_c hB, gN_c hB, sI_c hB, sZ_c hB, sJ_c hB, sN_c hB, aL_c hB, Nat.reduceLT, hk0, c3, xI_r, xZ_r, xJ_r, xN_r, yI_r, yZ_r, yJ_r, yN_r, cL_i, cL_z, cL_j, cL_r, nt_add]
      rw [nt_le (by omega) (by omega)]
      exact ⟨fun _ => hk, fun hc => absurd (by omega) hc⟩
    | succ q ih =>
      intro n s hi hk
      rw [show q + 1 + 1 = (q + 1) + 1 from rfl, Z_X7_startOf_12]
      simp only [F_X7_startOf_12, F_X7_startOf_40, fI_c hB, fZ_c hB, fJ_c hB, fR_c hB, fN_c hB, pF_c hB, gI_c hB, gZ_c hB, gJ_c hB, gN_c hB, sI_c hB, sZ_c hB, sJ_c hB, sN_c hB, aL_c hB, Nat.reduceLT, hk0, c3, xI_r, xZ_r, xJ_r, xN_r, yI_r, yZ_r, yJ_r, yN_r, cL_i, cL_z, cL_j, cL_r, nt_add]
      rw [nt_le (by omega) (by omega)]
      refine ⟨fun hc => by omega, fun _ => s_X7_behind (d := d + 2) hrow (by decide) (by omega) (by omega) ?_⟩
      simp only [upS] at hk
      have e1 : nI (sz k n) ^^^ nI (sz k (n + p)) = 0 ↔ sz k n = sz k (n + p) := by
        have hx := xor_lt32 (sz_lt k n) (sz_lt k (n + p))
        rw [nt_xor, nt_0 (by omega)]
        exact xor_0
      rw [c4 n (by omega), c4 (n + p) (by omega), e1, show nI n + 1 = nI (n + 1) from nt_add n 1]
      refine ⟨fun h5 => ih (n + 1) _ (by omega) (by rwa [if_pos h5] at hk), fun h5 => ih (n + 1) _ (by omega) (by rwa [if_neg h5] at hk)⟩
  refine ⟨_, hz (201 - p) 0 0 (by omega) ?_⟩
  have hu := upS_dn k p (201 - p) 0
  rw [Nat.zero_add] at hu
  rw [show upS k p (201 - p) 0 0 = stP k p from hu]
  exact hK C' c1 c2
theorem s_X7_periodOf (hB : okB 75 P) (h : RWr P C) {k : Nat} (h1 : 1 ≤ k) (h9 : k ≤ 9) {K : Int32 → Hp → Prop} (hK : ∀ C', Ck 60 74 C C' → RWr P C' → K (match perP k with | none => -1 | some p => nI p) (ch 75 P C' τ)) : C_X7_periodOf l G (d + 5) (P 60) (nI k) (ch 75 P C τ) K := by
  obtain ⟨g, md, sn, st, a1, -⟩ := id h
  refine m_X7_periodOf (rv_c hB (by decide) (by rw [a1]; exact ⟨_, rfl⟩)) ?_
  simp only [F_X7_periodOf]
  have hz : ∀ q p C', p + q = 61 → 1 ≤ p → Ck 60 74 C C' → RWr P C' → (∀ C'', Ck 60 74 C C'' → RWr P C'' → K (match fst1 (fun p => decide (stP k p ≤ 100)) q p with | none => -1 | some p => nI p) (ch 75 P C'' τ)) → Z_X7_periodOf_2 l G (d + 4) K (q + 1) (P 60) (nI k) (nI p) (ch 75 P C' τ) := by
    intro q
    induction q with
    | zero =>
      intro p C' hp hp1 c1 c2 hk
      simp only [Z_X7_periodOf_2, F_X7_periodOf_2]
      rw [show (60 : Int32) = nI 60 from rfl, nt_lt (by decide) (by omega)]
      exact ⟨fun _ => hk C' c1 c2, fun hc => absurd (by omega) hc⟩
    | succ q ih =>
      intro p C' hp hp1 c1 c2 hk
      rw [show q + 1 + 1 = (q + 1) + 1 from rfl, Z_X7_periodOf_2]
      simp only [F_X7_periodOf_2]
      rw [show (60 : Int32) = nI 60 from rfl, nt_lt (by decide) (by omega)]
      refine ⟨fun hc => by omega, fun _ => s_X7_startOf (d := d) hB c2 h1 h9 hp1 (by omega) fun C'' e1 e2 => ?_⟩
      have hle : stP k p ≤ 200 := Nat.le_trans (dn_le k p (201 - p)) (by omega)
      simp only [fst1] at hk
      rw [show (100 : Int32) = nI 100 from rfl, nt_lt (by decide) (by omega), show nI p + 1 = nI (p + 1) from nt_add p 1]
      refine ⟨fun h5 => ih (p + 1) C'' (by omega) (by omega) (c1.tr e1) e2 fun C3 g1 g2 => ?_, fun h5 => ?_⟩
      · have := hk C3 g1 g2
        rwa [if_neg (by simp only [decide_eq_true_eq]; omega)] at this
      · have := hk C'' (c1.tr e1) e2
        rwa [if_pos (by simp only [decide_eq_true_eq]; omega)] at this
  exact ⟨_, hz 60 1 C (by omega) (by decide) Ck.rf h hK⟩
end ROWC
