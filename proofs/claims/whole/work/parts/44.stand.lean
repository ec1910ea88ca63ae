/-! stands in the model -/
theorem vin (k : Nat) {N : Nat} (hk : k < 2147483648) (h : k < N) : vp_in (nI k) N := (nt_in hk).mpr h
abbrev eS (e : LY) : Nat := e.2.2.2.2.2.1
theorem sd_set {tk who sq : Nat} (htk : tk < 16384) (hsq : sq < 16384) (hwho : who < 2) : (sd tk who ||| sq) ^^^ 16384 = sd (tk ||| sq) (1 - who) := by
  have h1 : tk ||| sq < 2 ^ 14 := Nat.or_lt_two_pow (n := 14) htk hsq
  have e : ∀ a, a < 2 ^ 14 → a + 16384 = 2 ^ 14 ||| a := fun a ha => by
    rw [Nat.add_comm]
    have := Nat.two_pow_add_eq_or_of_lt ha 1
    simpa using this
  have b1 : tk.testBit 14 = false := Nat.testBit_lt_two_pow htk
  have b2 : sq.testBit 14 = false := Nat.testBit_lt_two_pow hsq
  unfold sd
  rcases (show who = 0 ∨ who = 1 by omega) with rfl | rfl
  · rw [show 16384 * (1 - 0) = 16384 from rfl, e _ h1, show tk + 16384 * 0 = tk from rfl, show (16384 : Nat) = 2 ^ 14 from rfl]
    apply Nat.eq_of_testBit_eq
    intro i
    simp only [Nat.testBit_xor, Nat.testBit_or, Nat.testBit_two_pow]
    by_cases hi : 14 = i
    · subst hi; simp [b1, b2]
    · simp [hi]
  · rw [show tk + 16384 * 1 = tk + 16384 from rfl, e _ htk, show (tk ||| sq) + 16384 * (1 - 1) = tk ||| sq from rfl, show (16384 : Nat) = 2 ^ 14 from rfl]
    apply Nat.eq_of_testBit_eq
    intro i
    simp only [Nat.testBit_xor, Nat.testBit_or, Nat.testBit_two_pow]
    by_cases hi : 14 = i
    · subst hi; simp [b1, b2]
    · simp [hi]
theorem mAt_lt {f : LY → Bool} : ∀ (L : List LY) k i n, mAt f L k i = some n → k ≤ n ∧ n < k + L.length
  | [], k, i, n => by simp [mAt]
  | e :: es, k, i, n => by
    simp only [mAt, List.length_cons]
    split
    · split
      · intro h; cases h; omega
      · intro h; have := mAt_lt es (k + 1) (i - 1) n h; omega
    · intro h; have := mAt_lt es (k + 1) i n h; omega
theorem mAt_0 {f : LY → Bool} : ∀ (L : List LY) k, mAt f L k 0 = none ↔ L.filter f = []
  | [], k => by simp [mAt]
  | e :: es, k => by
    simp only [mAt, List.filter_cons]
    cases h : f e with
    | true => simp
    | false => simpa using mAt_0 es (k + 1)
/-- the lays that may be -/
def mvs (T : TB) (L : List LY) (tk who : Nat) : List LY := L.filter fun e => myE T e tk who
/-- squares of a lay's number; what many cover -/
def sqN (L : List LY) (n : Nat) : Nat := ((L[n]?).map fun e => eS e).getD 0
def tkn (L : List LY) (ls : List Nat) : Nat := ls.foldl (fun a n => a ||| sqN L n) 0
theorem tkn_snoc (L : List LY) (ls : List Nat) (n : Nat) : tkn L (ls ++ [n]) = tkn L ls ||| sqN L n := by simp [tkn]
theorem sqN_at {L : List LY} {n : Nat} {e : LY} (h : L[n]? = some e) : sqN L n = eS e := by simp [sqN, h]
theorem tkn_lt {T : TB} {L : List LY} (hV : VL T L) (ls : List Nat) : tkn L ls < 16384 := by
  have h : ∀ (ls : List Nat) a, a < 16384 → ls.foldl (fun a n => a ||| sqN L n) a < 16384 := by
    intro ls
    induction ls with
    | nil => intro a h; exact h
    | cons n ls ih =>
      intro a h
      refine ih _ (Nat.or_lt_two_pow (n := 14) h ?_)
      unfold sqN
      cases e : L[n]? with
      | none => decide
      | some e' => exact (hV n e' e).2.2.2.1
  exact h ls 0 (by decide)
/-- a row of what lies (numbers, seed) in an array from o on -/
def RW (r : List Nat × Nat) (f : Nat → Int32) (o : Nat) : Prop := f o = nI r.1.length ∧ (∀ k v, r.1[k]? = some v → f (o + 1 + k) = nI v) ∧ f (o + 15) = nI r.2
/-- each was free as it was laid -/
def GD (L : List LY) (ls : List Nat) : Prop := ∀ i n, ls[i]? = some n → ∃ e, L[n]? = some e ∧ tkn L (ls.take i) &&& eS e = 0
theorem GD.nil (L : List LY) : GD L [] := fun i n h => by simp at h
theorem GD.snoc {L : List LY} {ls : List Nat} (h : GD L ls) {n : Nat} {e : LY} (he : L[n]? = some e) (h0 : tkn L ls &&& eS e = 0) : GD L (ls ++ [n]) := by
  intro i k hk
  by_cases hi : i < ls.length
  · rw [List.getElem?_append_left hi] at hk
    rw [List.take_append_of_le_length (by omega)]
    exact h i k hk
  · have h1 := (List.getElem?_eq_some_iff.mp hk).1
    simp only [List.length_append, List.length_cons, List.length_nil] at h1
    obtain rfl : i = ls.length := by omega
    simp at hk
    subst hk
    rw [List.take_append_of_le_length (Nat.le_refl _), List.take_length]
    exact ⟨e, he, h0⟩
theorem GD.take {L : List LY} {ls : List Nat} (h : GD L ls) (k : Nat) : GD L (ls.take k) := by
  intro i n hn
  have h1 := (List.getElem?_eq_some_iff.mp hn).1
  simp only [List.length_take] at h1
  rw [List.getElem?_take_of_lt (by omega)] at hn
  rw [List.take_take, Nat.min_eq_left (by omega)]
  exact h i n hn
theorem cnt_le (n : Nat) : cnt n ≤ 14 := fb_ct_le _ _
theorem cnt_or {a b : Nat} (h : a &&& b = 0) : cnt (a ||| b) = cnt a + cnt b := by
  unfold cnt
  rw [← fb_ct_or]
  · exact fb_ct_cong fun k _ => Nat.testBit_or a b k
  · intro k _ hk
    have h2 := congrArg (fun z => z.testBit k) h
    simp [hk.1, hk.2] at h2
theorem cnt_pos {a : Nat} (h : 0 < a) (h2 : a < 16384) : 0 < cnt a := by
  unfold cnt
  rw [fb_ct_pos]
  obtain ⟨i, hi⟩ := Nat.exists_testBit_of_ne_zero (Nat.pos_iff_ne_zero.mp h)
  refine ⟨i, ?_, hi⟩
  refine Nat.lt_of_not_le fun h3 => ?_
  rw [Nat.testBit_lt_two_pow (Nat.lt_of_lt_of_le h2 (Nat.pow_le_pow_right (by decide) h3 : 2 ^ 14 ≤ 2 ^ i))] at hi
  exact absurd hi (by decide)
theorem GD.len {T : TB} {L : List LY} (hV : VL T L) : ∀ {ls : List Nat}, GD L ls → ls.length ≤ cnt (tkn L ls) := by
  have h : ∀ k (ls : List Nat), ls.length = k → GD L ls → ls.length ≤ cnt (tkn L ls) := by
    intro k
    induction k with
    | zero => intro ls h _; omega
    | succ k ih =>
      intro ls hk hG
      have hn : ls ≠ [] := by intro e; rw [e] at hk; simp at hk
      obtain ⟨e, he, h0⟩ := hG k (ls.getLast hn) (by rw [List.getLast_eq_getElem, ← List.getElem?_eq_getElem]; congr 1; omega)
      have e1 : ls = ls.take k ++ [ls.getLast hn] := by
        have := (List.dropLast_concat_getLast hn).symm
        rw [List.dropLast_eq_take, hk, Nat.add_sub_cancel] at this
        exact this
      have h1 := ih (ls.take k) (by rw [List.length_take]; omega) (hG.take k)
      rw [e1, tkn_snoc, sqN_at he, cnt_or h0]
      obtain ⟨-, -, v1, v2, -⟩ := hV _ e he
      have h6 : 0 < cnt (eS e) := cnt_pos v1 v2
      simp only [List.length_append, List.length_cons, List.length_nil]
      omega
  intro ls h2
  exact h _ _ rfl h2
theorem GD.le14 {T : TB} {L : List LY} (hV : VL T L) {ls : List Nat} (h : GD L ls) : ls.length ≤ 14 := Nat.le_trans (h.len hV) (cnt_le _)
section STD
variable {l : Launch} {G : GG} {d m : Nat} {A : Nat → Nat} {S : MS} {ρ : Hp} {T : TB} {L : List LY}
theorem s_X12_isOver (hA : okA m A) (hR : TR T (S.2.2.1 15)) (hW : WFT T) (hL : LR L S) (hV : VL T L) {tk who : Nat} (htk : tk < 16384) (hwho : who < 2) {K : Bool → Hp → Prop} (h : K (mvs T L tk who).isEmpty (mh m A S ρ)) : C_X12_isOver l G (d + 5) m (nI (sd tk who)) (mh m A S ρ) K := by
  refine m_X12_isOver rv_m ?_
  simp only [F_X12_isOver_16, F_X12_isOver]
  refine s_X12_mayAt (d := d) (i := 0) hA hR hW hL hV htk hwho (by decide) ?_
  cases hm : mAt (fun e => myE T e tk who) L 0 0 with
  | none =>
    rw [mAt_0] at hm
    exact ⟨fun hc => absurd rfl hc, fun _ => kif h (by simp [mvs, hm])⟩
  | some n =>
    have h0 : ¬ mvs T L tk who = [] := by rw [mvs, ← mAt_0 L 0, hm]; simp
    have h1 := mAt_lt _ _ _ _ hm
    have h2 := hL.1
    have hne : ¬ nI n = (-2 : Int32) := by
      intro e
      have := congrArg Int32.toInt e
      rw [nI_toInt (by omega)] at this
      have h3 : (-2 : Int32).toInt = -2 := by decide
      omega
    exact ⟨fun _ => kif h (by simpa using h0), fun hc => absurd hc hne⟩
theorem s_X12_behind (hA : okA m A) (hL : LR L S) (hV : VL T L) {i tk who : Nat} {e : LY} (he : L[i]? = some e) (htk : tk < 16384) (hwho : who < 2) {K : Int32 → Hp → Prop} (h : K (nI (sd (tk ||| eS e) (1 - who))) (mh m A S ρ)) : C_X12_behind l G (d + 1) m (nI (sd tk who)) (nI i) (mh m A S ρ) K := by
  have hi := (List.getElem?_eq_some_iff.mp he).1
  have h224 := hL.1
  obtain ⟨-, -, -, -, -, g5, -⟩ := hL.2.2 i e he
  obtain ⟨-, -, -, v, -⟩ := hV i e he
  refine m_X12_behind rv_m ?_
  simp only [F_X12_behind, mfI_0, mpI_0, mfN_1, mfI_2, mpI_2, mfI_3, mpI_3, mfI_4, mpI_4, mfI_5, mpI_5, mfI_6, mpI_6, mfI_7, mpI_7, mfI_8, mpI_8, mfI_9, mpI_9, mfI_10, mpI_10, mfI_11, mpI_11, mfN_12, mfZ_13, mpZ_13, mfZ_14, mpZ_14, mfN_15, mfN_16, mfN_17, mfN_18, mfN_19, mfN_20, mfI_21, mpI_21, mfI_22, mpI_22, mfN_23, mfN_24, mfN_25, mfN_26, mfN_27, mfN_28, mfN_29, mfI_30, mpI_30, mfN_31, mfN_32, mfN_33, mfN_34, mfN_35, mfN_36, mfN_37, mfI_38, mpI_38, mfN_39, mfI_40, mpI_40, mfI_41, mpI_41, mgI_1 hA, msI_1 hA, mgI_12 hA, msI_12 hA, mgI_15 hA, msI_15 hA, mgI_16 hA, msI_16 hA, mgI_17 hA, msI_17 hA, mgI_18 hA, msI_18 hA, mgI_19 hA, msI_19 hA, mgI_20 hA, msI_20 hA, mgI_23 hA, msI_23 hA, mgI_24 hA, msI_24 hA, mgI_25 hA, msI_25 hA, mgI_26 hA, msI_26 hA, mgI_27 hA, msI_27 hA, mgI_28 hA, msI_28 hA, mgI_29 hA, msI_29 hA, mgI_31 hA, msI_31 hA, mgI_32 hA, msI_32 hA, mgI_33 hA, msI_33 hA, mgI_34 hA, msI_34 hA, mgI_35 hA, msI_35 hA, mgI_36 hA, msI_36 hA, mgI_39 hA, msI_39 hA, mgJ hA, msJ hA, nI_clamp (show i < 2 ^ 31 by omega), g5]
  refine ⟨(nt_in (by omega)).mpr (by omega), ?_⟩
  rw [nt_or, show (16384 : Int32) = nI 16384 from rfl, nt_xor, sd_set htk v hwho]
  exact h
theorem s_X12_standNow (hA : okA m A) (hL : LR L S) (hV : VL T L) {r : List Nat × Nat} (hr : RW r (S.2.2.1 17) 0) (hG : GD L r.1) {K : Int32 → Hp → Prop} (h : K (nI (sd (tkn L r.1) (r.1.length % 2))) (mh m A S ρ)) : C_X12_standNow l G (d + 1) m (mh m A S ρ) K := by
  have h14 := hG.le14 hV
  have h224 := hL.1
  obtain ⟨r0, r1, -⟩ := hr
  refine m_X12_standNow rv_m ?_
  simp only [F_X12_standNow]
  have hz : ∀ n k, k + n = r.1.length → ∃ n', Z_X12_standNow_4 l G d K n' m (nI (tkn L (r.1.take k))) (nI k) (mh m A S ρ) := by
    intro n
    induction n with
    | zero =>
      intro k hk
      refine ⟨1, ?_⟩
      simp only [Z_X12_standNow_4, F_X12_standNow_4, mfI_0, mpI_0, mfN_1, mfI_2, mpI_2, mfI_3, mpI_3, mfI_4, mpI_4, mfI_5, mpI_5, mfI_6, mpI_6, mfI_7, mpI_7, mfI_8, mpI_8, mfI_9, mpI_9, mfI_10, mpI_10, mfI_11, mpI_11, mfN_12, mfZ_13, mpZ_13, mfZ_14, mpZ_14, mfN_15, mfN_16, mfN_17, mfN_18, mfN_19, mfN_20, mfI_21, mpI_21, mfI_22, mpI_22, mfN_23, mfN_24, mfN_25, mfN_26, mfN_27, mfN_28, mfN_29, mfI_30, mpI_30, mfN_31, mfN_32, mfN_33, mfN_34, mfN_35, mfN_36, mfN_37, mfI_38, mpI_38, mfN_39, mfI_40, mpI_40, mfI_41, mpI_41, mgI_1 hA, msI_1 hA, mgI_12 hA, msI_12 hA, mgI_15 hA, msI_15 hA, mgI_16 hA, msI_16 hA, mgI_17 hA, msI_17 hA, mgI_18 hA, msI_18 hA, mgI_19 hA, msI_19 hA, mgI_20 hA, msI_20 hA, mgI_23 hA, msI_23 hA, mgI_24 hA, msI_24 hA, mgI_25 hA, msI_25 hA, mgI_26 hA, msI_26 hA, mgI_27 hA, msI_27 hA, mgI_28 hA, msI_28 hA, mgI_29 hA, msI_29 hA, mgI_31 hA, msI_31 hA, mgI_32 hA, msI_32 hA, mgI_33 hA, msI_33 hA, mgI_34 hA, msI_34 hA, mgI_35 hA, msI_35 hA, mgI_36 hA, msI_36 hA, mgI_39 hA, msI_39 hA, mgJ hA, msJ hA, show (0 : Int32).toNatClampNeg = 0 from rfl, r0]
      have e14 : (14 : Int32) &&& 31 = nI 14 := by decide
      rw [nt_le (by omega) (by omega), show (2 : Int32) = nI 2 from rfl, nt_rem (by omega) (by decide) (by decide), e14, nt_shl _ (by decide), nt_or, List.take_of_length_le (by omega)]
      have e : tkn L r.1 ||| r.1.length % 2 * 2 ^ 14 = sd (tkn L r.1) (r.1.length % 2) := by
        unfold sd
        rw [Nat.or_comm, Nat.mul_comm, ← Nat.two_pow_add_eq_or_of_lt (tkn_lt hV _), Nat.add_comm]
      rw [e]
      exact ⟨(vin 0 (by decide) (by decide)), fun _ => ⟨(vin 0 (by decide) (by decide)), by decide, h⟩, fun hc => absurd (by omega) hc⟩
    | succ n ih =>
      intro k hk
      obtain ⟨v, hv⟩ : ∃ v, r.1[k]? = some v := ⟨_, List.getElem?_eq_getElem (by omega)⟩
      obtain ⟨e, he, -⟩ := hG k v hv
      have hvl := (List.getElem?_eq_some_iff.mp he).1
      obtain ⟨-, -, -, -, -, g5, -⟩ := hL.2.2 v e he
      have r2 := r1 k v hv
      rw [show 0 + 1 + k = 1 + k by omega] at r2
      obtain ⟨n', hz⟩ := ih (k + 1) (by omega)
      have et : r.1.take (k + 1) = r.1.take k ++ [v] := by rw [List.take_add_one, hv]; rfl
      rw [et, tkn_snoc, sqN_at he] at hz
      refine ⟨n' + 1, ?_⟩
      simp only [Z_X12_standNow_4, F_X12_standNow_4, mfI_0, mpI_0, mfN_1, mfI_2, mpI_2, mfI_3, mpI_3, mfI_4, mpI_4, mfI_5, mpI_5, mfI_6, mpI_6, mfI_7, mpI_7, mfI_8, mpI_8, mfI_9, mpI_9, mfI_10, mpI_10, mfI_11, mpI_11, mfN_12, mfZ_13, mpZ_13, mfZ_14, mpZ_14, mfN_15, mfN_16, mfN_17, mfN_18, mfN_19, mfN_20, mfI_21, mpI_21, mfI_22, mpI_22, mfN_23, mfN_24, mfN_25, mfN_26, mfN_27, mfN_28, mfN_29, mfI_30, mpI_30, mfN_31, mfN_32, mfN_33, mfN_34, mfN_35, mfN_36, mfN_37, mfI_38, mpI_38, mfN_39, mfI_40, mpI_40, mfI_41, mpI_41, mgI_1 hA, msI_1 hA, mgI_12 hA, msI_12 hA, mgI_15 hA, msI_15 hA, mgI_16 hA, msI_16 hA, mgI_17 hA, msI_17 hA, mgI_18 hA, msI_18 hA, mgI_19 hA, msI_19 hA, mgI_20 hA, msI_20 hA, mgI_23 hA, msI_23 hA, mgI_24 hA, msI_24 hA, mgI_25 hA, msI_25 hA, mgI_26 hA, msI_26 hA, mgI_27 hA, msI_27 hA, mgI_28 hA, msI_28 hA, mgI_29 hA, msI_29 hA, mgI_31 hA, msI_31 hA, mgI_32 hA, msI_32 hA, mgI_33 hA, msI_33 hA, mgI_34 hA, msI_34 hA, mgI_35 hA, msI_35 hA, mgI_36 hA, msI_36 hA, mgI_39 hA, msI_39 hA, mgJ hA, msJ hA, show (0 : Int32).toNatClampNeg = 0 from rfl, r0, show (1 : Int32) + nI k = nI (1 + k) from nt_add 1 k, show nI k + 1 = nI (k + 1) from nt_add k 1, nI_clamp (show 1 + k < 2 ^ 31 by omega), r2, nI_clamp (show v < 2 ^ 31 by omega), g5, nt_or]
      rw [nt_le (by omega) (by omega)]
      exact ⟨(vin 0 (by decide) (by decide)), fun hc => by omega, fun _ => ⟨(nt_in (by omega)).mpr (by omega), (nt_in (by omega)).mpr (by omega), hz⟩⟩
  exact hz r.1.length 0 (by omega)
end STD
