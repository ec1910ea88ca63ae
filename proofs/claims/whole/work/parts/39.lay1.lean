/-! layOne in the model -/
/-- a lay: piece, board, x, y, turns, squares, those beside -/
abbrev LY : Type := Nat × Nat × Nat × Nat × Nat × Nat × Nat
def an (a b : Nat) : Nat := a ^^^ (a &&& b)
theorem nt_an (a b : Nat) : nI a &&& (nI b ^^^ (-1)) = nI (an a b) := by
  unfold an
  rw [← nt_xor, ← nt_and]
  apply Int32.toBitVec_inj.1
  apply BitVec.eq_of_getLsbD_eq
  intro i hi
  have h2 : (-1 : Int32).toBitVec.getLsbD i = true := by
    have : ∀ j : Fin 32, (-1 : Int32).toBitVec.getLsbD j.val = true := by decide +kernel
    exact this ⟨i, hi⟩
  show ((nI a).toBitVec &&& ((nI b).toBitVec ^^^ (-1 : Int32).toBitVec)).getLsbD i = ((nI a).toBitVec ^^^ ((nI a).toBitVec &&& (nI b).toBitVec)).getLsbD i
  rw [BitVec.getLsbD_and, BitVec.getLsbD_xor, BitVec.getLsbD_xor, BitVec.getLsbD_and, h2]
  cases (nI a).toBitVec.getLsbD i <;> cases (nI b).toBitVec.getLsbD i <;> rfl
def covR (p : PC) (f w x y t j : Nat) : Nat → Nat → Nat → Nat
  | 0, _, a => a
  | n + 1, i, a => covR p f w x y t j n (i + 1) (if hS p t i j then a ||| 2 ^ (f + w * (y + j) + x + i) else a)
def covA (p : PC) (f w x y t : Nat) : Nat → Nat → Nat → Nat
  | 0, _, a => a
  | n + 1, j, a => covA p f w x y t n (j + 1) (covR p f w x y t j (wO p t) 0 a)
def cov (p : PC) (b : BD) (x y t : Nat) : Nat := covA p b.2.2.1 b.1 x y t (hO p t) 0 0
def fits (p : PC) (b : BD) (x y t : Nat) : Bool := decide (x + wO p t ≤ b.1) && decide (y + hO p t ≤ b.2.1)
def lay1 (j : Nat) (pi bi : Nat) (p : PC) (b : BD) (x y t : Nat) : Option LY :=
  if fits p b x y t then (if cov p b x y t &&& j = 0 then some (pi, bi, x, y, t, cov p b x y t, an (besN (cov p b x y t) b.2.2.1 b.1 (b.1 * b.2.1) (b.1 * b.2.1) 0 0) (cov p b x y t)) else none) else none
def LR (L : List LY) (S : MS) : Prop := L.length ≤ 224 ∧ S.1 30 = nI L.length ∧ ∀ (i : Nat) (e : LY), L[i]? = some e → S.2.2.1 23 i = nI e.1 ∧ S.2.2.1 24 i = nI e.2.1 ∧ S.2.2.1 25 i = nI e.2.2.1 ∧ S.2.2.1 26 i = nI e.2.2.2.1 ∧ S.2.2.1 27 i = nI e.2.2.2.2.1 ∧ S.2.2.1 28 i = nI e.2.2.2.2.2.1 ∧ S.2.2.1 29 i = nI e.2.2.2.2.2.2
theorem lt_two {a b k : Nat} (h : a < 2 ^ k) (hb : b < k) : a ||| 2 ^ b < 2 ^ k := Nat.or_lt_two_pow h (Nat.pow_lt_pow_right (by decide) hb)
theorem covR_lt {p : PC} {f w x y t j : Nat} {H : Nat} (hf : f + w * H ≤ 14) (hy : y + j < H) : ∀ n i a, x + i + n ≤ w → a < 2 ^ 14 → covR p f w x y t j n i a < 2 ^ 14
  | 0, i, a => fun _ h => h
  | n + 1, i, a => fun h1 h => by
    simp only [covR]
    refine covR_lt hf hy n (i + 1) _ (by omega) ?_
    split
    · refine lt_two h ?_
      have h2 : w * (y + j + 1) ≤ w * H := Nat.mul_le_mul_left w (by omega)
      rw [Nat.mul_add, Nat.mul_one] at h2
      omega
    · exact h
theorem covA_lt {p : PC} {f w x y t : Nat} {H : Nat} (hf : f + w * H ≤ 14) (hx : x + wO p t ≤ w) : ∀ n j a, y + j + n ≤ H → a < 2 ^ 14 → covA p f w x y t n j a < 2 ^ 14
  | 0, j, a => fun _ h => h
  | n + 1, j, a => fun h1 h => by
    simp only [covA]
    exact covA_lt hf hx n (j + 1) _ (by omega) (covR_lt hf (by omega) _ 0 a (by omega) h)
section LAY1
variable {l : Launch} {G : GG} {d m : Nat} {A : Nat → Nat} {S : MS} {ρ : Hp} {T : TB} {kb : Nat}
theorem z_m_l60 (hA : okA m A) (hb : kb = 15 ∨ kb = 16) (hR : TR T (S.2.2.1 kb)) (hW : WFT T) {pi bi : Nat} {p : PC} {b : BD} (hp : T.2.2.1[pi]? = some p) (hbd : T.2.1[bi]? = some b) {x y t j : Nat} (ht : t < 4) (hx : x + wO p t ≤ b.1) (hy : y + j < b.2.1) {X45 : Nat → Nat → Int32 → Int32 → Int32 → Int32 → Int32 → Int32 → Int32 → Hp → Prop} {K : Hp → Prop} : ∀ r i a, i + r = wO p t → X45 m (A kb) (nI pi) (nI bi) (nI x) (nI y) (nI t) (nI (covR p b.2.2.1 b.1 x y t j r i a)) (nI j + 1) (mh m A S ρ) → ∃ n', Z_X12_layOne_60 l G (d + 1) X45 K n' m (A kb) (nI pi) (nI bi) (nI x) (nI y) (nI t) (nI a) (nI j) (nI i) (mh m A S ρ) := by
  obtain ⟨hk, hk2, w1, w2, w3, w4, -⟩ := WFP.bd hW hp
  have hwo := wO_bd (t := t) (show 1 ≤ p.2.1 ∧ p.2.1 ≤ 4 ∧ 1 ≤ p.2.2.1 ∧ p.2.2.1 ≤ 4 from ⟨w1, w2, w3, w4⟩)
  obtain ⟨k3, v1, v2, v3, v4⟩ := WFB.bd hW hbd
  obtain ⟨q1, q2⟩ := WFB.sq hW hbd
  obtain ⟨g0, g1, g2⟩ := hR.2.2.2.1 bi b hbd
  intro r
  induction r with
  | zero =>
    intro i a hi h
    refine ⟨1, ?_⟩
    simp only [Z_X12_layOne_60, F_X12_layOne_60]
    refine s_X12_wideOf hA hb hR hW hp ht ?_
    rw [nt_le (by omega) (by omega)]
    exact ⟨fun _ => h, fun hc => absurd (by omega) hc⟩
  | succ r ih =>
    intro i a hi h
    simp only [covR] at h
    obtain ⟨n', hz⟩ := ih (i + 1) _ (by omega) h
    have h2 : b.1 * (y + j + 1) ≤ b.1 * b.2.1 := Nat.mul_le_mul_left b.1 (by omega)
    rw [Nat.mul_add, Nat.mul_one] at h2
    refine ⟨n' + 1, ?_⟩
    simp only [Z_X12_layOne_60, F_X12_layOne_60, F_X12_layOne_119, show nI i + 1 = nI (i + 1) from nt_add i 1]
    refine s_X12_wideOf hA hb hR hW hp ht ?_
    rw [nt_le (by omega) (by omega)]
    refine ⟨fun hc => by omega, fun _ => ?_⟩
    refine s_X12_hasSquare hA hb hR hW hp ht (by omega) (by omega) ?_
    refine ⟨fun h3 => ?_, fun h3 => ?_⟩
    · rw [h3] at hz
      rw [show nI a ||| (0 : Int32) = nI a by rw [show (0 : Int32) = nI 0 from rfl, nt_or, Nat.or_zero]]
      exact hz
    · rw [h3] at hz
      simp only [mgI_b hA hb, show (13 + nI bi : Int32) = nI (13 + bi) from nt_add 13 bi, show (7 + nI bi : Int32) = nI (7 + bi) from nt_add 7 bi]
      rw [nI_clamp (by omega), nI_clamp (by omega), g0, g2, nt_add, nt_mul, nt_add, nt_add, nt_add, nt_one (by omega), nt_or]
      exact ⟨(nt_in (by omega)).mpr (by omega), (nt_in (by omega)).mpr (by omega), hz⟩
theorem LR.push {L : List LY} {S S' : MS} (h : LR L S) (hL : L.length < 224) (e : LY) (h30 : S'.1 30 = nI (L.length + 1))
    (g : S'.2.2.1 23 = up_ (S.2.2.1 23) L.length (nI e.1) ∧ S'.2.2.1 24 = up_ (S.2.2.1 24) L.length (nI e.2.1) ∧ S'.2.2.1 25 = up_ (S.2.2.1 25) L.length (nI e.2.2.1) ∧ S'.2.2.1 26 = up_ (S.2.2.1 26) L.length (nI e.2.2.2.1) ∧ S'.2.2.1 27 = up_ (S.2.2.1 27) L.length (nI e.2.2.2.2.1) ∧ S'.2.2.1 28 = up_ (S.2.2.1 28) L.length (nI e.2.2.2.2.2.1) ∧ S'.2.2.1 29 = up_ (S.2.2.1 29) L.length (nI e.2.2.2.2.2.2)) : LR (L ++ [e]) S' := by
  obtain ⟨h1, h2, h3⟩ := h
  obtain ⟨g1, g2, g3, g4, g5, g6, g7⟩ := g
  refine ⟨by simp; omega, by simpa using h30, fun i e' he => ?_⟩
  rw [g1, g2, g3, g4, g5, g6, g7]
  by_cases hi : i = L.length
  · subst hi
    simp only [List.getElem?_concat_length, Option.some.injEq] at he
    subst he
    simp only [up_eq, and_self]
  · have hlt : i < L.length := by
      have := (List.getElem?_eq_some_iff.mp he).1
      simp at this
      omega
    rw [List.getElem?_append_left hlt] at he
    simp only [up_ne hi]
    exact h3 i e' he
theorem z_m_l45 (hA : okA m A) (hb : kb = 15 ∨ kb = 16) (hR : TR T (S.2.2.1 kb)) (hW : WFT T) {L : List LY} (hL : LR L S) (hL2 : L.length < 224) {pi bi : Nat} {p : PC} {b : BD} (hp : T.2.2.1[pi]? = some p) (hbd : T.2.1[bi]? = some b) {x y t : Nat} (ht : t < 4) (hx : x + wO p t ≤ b.1) (hy : y + hO p t ≤ b.2.1) {K : Hp → Prop}
    (hK0 : ¬ cov p b x y t &&& T.2.2.2 = 0 → K (mh m A S ρ)) (hK : cov p b x y t &&& T.2.2.2 = 0 → ∀ S' : MS, Sm [30] [] [23, 24, 25, 26, 27, 28, 29] S S' → LR (L ++ [(pi, bi, x, y, t, cov p b x y t, an (besN (cov p b x y t) b.2.2.1 b.1 (b.1 * b.2.1) (b.1 * b.2.1) 0 0) (cov p b x y t))]) S' → K (mh m A S' ρ)) : ∀ r j a, j + r = hO p t → a < 2 ^ 14 → covA p b.2.2.1 b.1 x y t r j a = cov p b x y t → ∃ n', Z_X12_layOne_45 l G (d + 2) K n' m (A kb) (nI pi) (nI bi) (nI x) (nI y) (nI t) (nI a) (nI j) (mh m A S ρ) := by
  obtain ⟨hk, hk2, w1, w2, w3, w4, -⟩ := WFP.bd hW hp
  have hwo := wO_bd (t := t) (show 1 ≤ p.2.1 ∧ p.2.1 ≤ 4 ∧ 1 ≤ p.2.2.1 ∧ p.2.2.1 ≤ 4 from ⟨w1, w2, w3, w4⟩)
  obtain ⟨k3, v1, v2, v3, v4⟩ := WFB.bd hW hbd
  obtain ⟨q1, q2⟩ := WFB.sq hW hbd
  intro r
  induction r with
  | zero =>
    intro j a hj ha hc
    simp only [covA] at hc
    subst hc
    have h30 := hL.2.1
    have hin : vp_in (nI L.length) 224 := (nt_in (by omega)).mpr hL2
    have hcl : (nI L.length).toNatClampNeg = L.length := nI_clamp (by omega)
    have e1 : nI L.length + 1 = nI (L.length + 1) := nt_add _ 1
    refine ⟨1, ?_⟩
    simp only [Z_X12_layOne_45, F_X12_layOne_45]
    refine s_X12_highOf hA hb hR hW hp ht ?_
    rw [nt_le (by omega) (by omega)]
    refine ⟨fun _ => ?_, fun hc => absurd (by omega) hc⟩
    rw [mgI_b hA hb, show (16 : Int32).toNatClampNeg = 16 from rfl, hR.2.2.1.2, nt_and0 (by omega)]
    refine ⟨(nt_in (a := 16) (by decide)).mpr (by decide), fun h1 => ?_, fun h1 => hK0 h1⟩
    simp only [mfI_0, mpI_0, mfN_1, mfI_2, mpI_2, mfI_3, mpI_3, mfI_4, mpI_4, mfI_5, mpI_5, mfI_6, mpI_6, mfI_7, mpI_7, mfI_8, mpI_8, mfI_9, mpI_9, mfI_10, mpI_10, mfI_11, mpI_11, mfN_12, mfZ_13, mpZ_13, mfZ_14, mpZ_14, mfN_15, mfN_16, mfN_17, mfN_18, mfN_19, mfN_20, mfI_21, mpI_21, mfI_22, mpI_22, mfN_23, mfN_24, mfN_25, mfN_26, mfN_27, mfN_28, mfN_29, mfI_30, mpI_30, mfN_31, mfN_32, mfN_33, mfN_34, mfN_35, mfN_36, mfN_37, mfI_38, mpI_38, mfN_39, mfI_40, mpI_40, mfI_41, mpI_41, mgI_1 hA, msI_1 hA, mgI_12 hA, msI_12 hA, mgI_15 hA, msI_15 hA, mgI_16 hA, msI_16 hA, mgI_17 hA, msI_17 hA, mgI_18 hA, msI_18 hA, mgI_19 hA, msI_19 hA, mgI_20 hA, msI_20 hA, mgI_23 hA, msI_23 hA, mgI_24 hA, msI_24 hA, mgI_25 hA, msI_25 hA, mgI_26 hA, msI_26 hA, mgI_27 hA, msI_27 hA, mgI_28 hA, msI_28 hA, mgI_29 hA, msI_29 hA, mgI_31 hA, msI_31 hA, mgI_32 hA, msI_32 hA, mgI_33 hA, msI_33 hA, mgI_34 hA, msI_34 hA, mgI_35 hA, msI_35 hA, mgI_36 hA, msI_36 hA, mgI_39 hA, msI_39 hA, mgJ hA, msJ hA, ms_i, ms_i2, ms_b1, ms_b, ms_b2, ms_a1, ms_a2, ms_a, ms_a3, ms_j1, ms_j2, ms_j3, ms_j, ↓reduceIte, Nat.reduceEqDiff, h30, hin, hcl, true_and]
    have hkb : kb ≠ 23 ∧ kb ≠ 24 ∧ kb ≠ 25 ∧ kb ≠ 26 ∧ kb ≠ 27 ∧ kb ≠ 28 ∧ kb ≠ 29 := by omega
    refine s_X12_besides (kb := kb) hA hb (T := T) ?_ hW hbd (by omega) ?_
    · simpa only [ms_i, ms_i2, ms_b1, ms_b, ms_b2, ms_a1, ms_a2, ms_a, ms_a3, ms_j1, ms_j2, ms_j3, ms_j, ↓reduceIte, Nat.reduceEqDiff, hkb] using hR
    · rw [nt_an]
      simp only [mfI_0, mpI_0, mfN_1, mfI_2, mpI_2, mfI_3, mpI_3, mfI_4, mpI_4, mfI_5, mpI_5, mfI_6, mpI_6, mfI_7, mpI_7, mfI_8, mpI_8, mfI_9, mpI_9, mfI_10, mpI_10, mfI_11, mpI_11, mfN_12, mfZ_13, mpZ_13, mfZ_14, mpZ_14, mfN_15, mfN_16, mfN_17, mfN_18, mfN_19, mfN_20, mfI_21, mpI_21, mfI_22, mpI_22, mfN_23, mfN_24, mfN_25, mfN_26, mfN_27, mfN_28, mfN_29, mfI_30, mpI_30, mfN_31, mfN_32, mfN_33, mfN_34, mfN_35, mfN_36, mfN_37, mfI_38, mpI_38, mfN_39, mfI_40, mpI_40, mfI_41, mpI_41, mgI_1 hA, msI_1 hA, mgI_12 hA, msI_12 hA, mgI_15 hA, msI_15 hA, mgI_16 hA, msI_16 hA, mgI_17 hA, msI_17 hA, mgI_18 hA, msI_18 hA, mgI_19 hA, msI_19 hA, mgI_20 hA, msI_20 hA, mgI_23 hA, msI_23 hA, mgI_24 hA, msI_24 hA, mgI_25 hA, msI_25 hA, mgI_26 hA, msI_26 hA, mgI_27 hA, msI_27 hA, mgI_28 hA, msI_28 hA, mgI_29 hA, msI_29 hA, mgI_31 hA, msI_31 hA, mgI_32 hA, msI_32 hA, mgI_33 hA, msI_33 hA, mgI_34 hA, msI_34 hA, mgI_35 hA, msI_35 hA, mgI_36 hA, msI_36 hA, mgI_39 hA, msI_39 hA, mgJ hA, msJ hA, ms_i, ms_i2, ms_b1, ms_b, ms_b2, ms_a1, ms_a2, ms_a, ms_a3, ms_j1, ms_j2, ms_j3, ms_j, ↓reduceIte, Nat.reduceEqDiff, h30, hin, hcl, true_and, e1]
      refine hK h1 _ (Sm.i (Sm.a (Sm.a (Sm.a (Sm.a (Sm.a (Sm.a (Sm.a Sm.rf (by decide)) (by decide)) (by decide)) (by decide)) (by decide)) (by decide)) (by decide)) (by decide)) ?_
      exact hL.push hL2 _ rfl ⟨rfl, rfl, rfl, rfl, rfl, rfl, rfl⟩
  | succ r ih =>
    intro j a hj ha hc
    simp only [covA] at hc
    obtain ⟨n', hz⟩ := ih (j + 1) _ (by omega) (covR_lt (H := b.2.1) (by omega) (by omega) _ 0 a (by omega) ha) hc
    refine ⟨n' + 1, ?_⟩
    simp only [Z_X12_layOne_45, F_X12_layOne_45]
    refine s_X12_highOf hA hb hR hW hp ht ?_
    rw [nt_le (by omega) (by omega)]
    refine ⟨fun hc => by omega, fun _ => ?_⟩
    refine z_m_l60 (d := d + 1) hA hb hR hW hp hbd ht hx (by omega) (wO p t) 0 a (by omega) ?_
    rw [show nI j + 1 = nI (j + 1) from nt_add j 1]
    exact hz
theorem s_X12_layOne (hA : okA m A) (hb : kb = 15 ∨ kb = 16) (hR : TR T (S.2.2.1 kb)) (hW : WFT T) {L : List LY} (hL : LR L S) (hL2 : L.length < 224) {pi bi : Nat} {p : PC} {b : BD} (hp : T.2.2.1[pi]? = some p) (hbd : T.2.1[bi]? = some b) {x y t : Nat} (ht : t < 4) (hx : x < 100) (hy : y < 100) {K : Hp → Prop}
    (hK : ∀ S' : MS, Sm [30] [] [23, 24, 25, 26, 27, 28, 29] S S' → LR (L ++ (lay1 T.2.2.2 pi bi p b x y t).toList) S' → K (mh m A S' ρ)) : C_X12_layOne l G (d + 3) m (A kb) (nI pi) (nI bi) (nI x) (nI y) (nI t) (mh m A S ρ) K := by
  obtain ⟨hk, hk2, w1, w2, w3, w4, -⟩ := WFP.bd hW hp
  have hwo := wO_bd (t := t) (show 1 ≤ p.2.1 ∧ p.2.1 ≤ 4 ∧ 1 ≤ p.2.2.1 ∧ p.2.2.1 ≤ 4 from ⟨w1, w2, w3, w4⟩)
  obtain ⟨k3, v1, v2, v3, v4⟩ := WFB.bd hW hbd
  obtain ⟨g0, g1, g2⟩ := hR.2.2.2.1 bi b hbd
  have hno : lay1 T.2.2.2 pi bi p b x y t = none → K (mh m A S ρ) := fun h => hK S Sm.rf (by rw [h]; simpa using hL)
  refine m_X12_layOne rv_m ?_
  simp only [F_X12_layOne, F_X12_layOne_38]
  refine s_X12_wideOf hA hb hR hW hp ht ?_
  rw [mgI_b hA hb, show (7 + nI bi : Int32) = nI (7 + bi) from nt_add 7 bi, nI_clamp (by omega), g0, nt_add, nt_lt (by omega) (by omega)]
  refine ⟨(nt_in (by omega)).mpr (by omega), fun h1 => hno (by simp [lay1, fits]; omega), fun h1 => ?_⟩
  refine s_X12_highOf hA hb hR hW hp ht ?_
  rw [mgI_b hA hb, show (10 + nI bi : Int32) = nI (10 + bi) from nt_add 10 bi, nI_clamp (by omega), g1, nt_add, nt_le (by omega) (by omega)]
  refine ⟨(nt_in (by omega)).mpr (by omega), fun h2 => ?_, fun h2 => hno (by simp [lay1, fits]; omega)⟩
  have hfit : fits p b x y t = true := by simp [fits]; omega
  refine z_m_l45 hA hb hR hW hL hL2 hp hbd ht (by omega) h2 (fun h3 => hno (by rw [lay1, if_pos hfit, if_neg h3])) (fun h3 S' hS hLR => hK S' hS (by rw [lay1, if_pos hfit, if_pos h3]; exact hLR)) (hO p t) 0 0 (by omega) (by decide) rfl
end LAY1
