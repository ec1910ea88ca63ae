/-! layOne in the model -/
/-- a lay: piece, board, x, y, turns, squares, those beside -/
abbrev LY : Type := Nat × Nat × Nat × Nat × Nat × Nat × Nat
def an (a b : Nat) : Nat := a ^^^ (a &&& b)
theorem nt_an (a b : Nat) : nI a &&& (nI b ^^^ (-1)) = nI (an a b) := by
  unfold an
  rw [← nt_xor, ← nt_and]
  apply Int32.toBitVec_inj.1
  apply BitVec.eq_of_getLsbD_eq
  intro i hi
  have h2 : (-1 : Int32).toBitVec.getLsbD i = true := by
    have : ∀ j : Fin 32, (-1 : Int32).toBitVec.getLsbD j.val = true := by decide +kernel
    exact this ⟨i, hi⟩
  show ((nI a).toBitVec &&& ((nI b).toBitVec ^^^ (-1 : Int32).toBitVec)).getLsbD i = ((nI a).toBitVec ^^^ ((nI a).toBitVec &&& (nI b).toBitVec)).getLsbD i
  rw [BitVec.getLsbD_and, BitVec.getLsbD_xor, BitVec.getLsbD_xor, BitVec.getLsbD_and, h2]
  cases (nI a).toBitVec.getLsbD i <;> cases (nI b).toBitVec.getLsbD i <;> rfl
def covR (p : PC) (f w x y t j : Nat) : Nat → Nat → Nat → Nat
  | 0, _, a => a
  | n + 1, i, a => covR p f w x y t j n (i + 1) (if hS p t i j then a ||| 2 ^ (f + w * (y + j) + x + i) else a)
def covA (p : PC) (f w x y t : Nat) : Nat → Nat → Nat → Nat
  | 0, _, a => a
  | n + 1, j, a => covA p f w x y t n (j + 1) (covR p f w x y t j (wO p t) 0 a)
def cov (p : PC) (b : BD) (x y t : Nat) : Nat := covA p b.2.2.1 b.1 x y t (hO p t) 0 0
def fits (p : PC) (b : BD) (x y t : Nat) : Bool := decide (x + wO p t ≤ b.1) && decide (y + hO p t ≤ b.2.1)
def lay1 (j : Nat) (pi bi : Nat) (p : PC) (b : BD) (x y t : Nat) : Option LY :=
  if fits p b x y t then (if cov p b x y t &&& j = 0 then some (pi, bi, x, y, t, cov p b x y t, an (besN (cov p b x y t) b.2.2.1 b.1 (b.1 * b.2.1) (b.1 * b.2.1) 0 0) (cov p b x y t)) else none) else none
def LR (L : List LY) (S : MS) : Prop := L.length ≤ 224 ∧ S.1 30 = nI L.length ∧ ∀ (i : Nat) (e : LY), L[i]? = some e → S.2.2.1 23 i = nI e.1 ∧ S.2.2.1 24 i = nI e.2.1 ∧ S.2.2.1 25 i = nI e.2.2.1 ∧ S.2.2.1 26 i = nI e.2.2.2.1 ∧ S.2.2.1 27 i = nI e.2.2.2.2.1 ∧ S.2.2.1 28 i = nI e.2.2.2.2.2.1 ∧ S.2.2.1 29 i = nI e.2.2.2.2.2.2
theorem lt_two {a b k : Nat} (h : a < 2 ^ k) (hb : b < k) : a ||| 2 ^ b < 2 ^ k := Nat.or_lt_two_pow h (Nat.pow_lt_pow_right (by decide) hb)
theorem covR_lt {p : PC} {f w x y t j : Nat} {H : Nat} (hf : f + w * H ≤ 14) (hy : y + j < H) : ∀ n i a, x + i + n ≤ w → a < 2 ^ 14 → covR p f w x y t j n i a < 2 ^ 14
  | 0, i, a => fun _ h => h
  | n + 1, i, a => fun h1 h => by
    simp only [covR]
    refine covR_lt hf hy n (i + 1) _ (by omega) ?_
    split
    · refine lt_two h ?_
      have h2 : w * (y + j + 1) ≤ w * H := Nat.mul_le_mul_left w (by omega)
      rw [Nat.mul_add, Nat.mul_one] at h2
      omega
    · exact h
theorem covA_lt {p : PC} {f w x y t : Nat} {H : Nat} (hf : f + w * H ≤ 14) (hx : x + wO p t ≤ w) : ∀ n j a, y + j + n ≤ H → a < 2 ^ 14 → covA p f w x y t n j a < 2 ^ 14
  | 0, j, a => fun _ h => h
  | n + 1, j, a => fun h1 h => by
    simp only [covA]
    exact covA_lt hf hx n (j + 1) _ (by omega) (covR_lt hf (by omega) _ 0 a (by omega) h)
section LAY1
variable {l : Launch} {G : GG} {d m : Nat} {A : Nat → Nat} {S : MS} {ρ : Hp} {T : TB} {kb : Nat}
theorem z_m_l60 (hA : okA m A) (hb : kb = 15 ∨ kb = 16) (hR : TR T (S.2.2.1 kb)) (hW : WFT T) {pi bi : Nat} {p : PC} {b : BD} (hp : T.2.2.1[pi]? = some p) (hbd : T.2.1[bi]? = some b) {x y t j : Nat} (ht : t < 4) (hx : x + wO p t ≤ b.1) (hy : y + j < b.2.1) {X45 : Nat → Nat → Int32 → Int32 → Int32 → Int32 → Int32 → Int32 → Int32 → Hp → Prop} {K : Hp → Prop} : ∀ r i a, i + r = wO p t → X45 m (A kb) (nI pi) (nI bi) (nI x) (nI y) (nI t) (nI (covR p b.2.2.1 b.1 x y t j r i a)) (nI j + 1) (mh m A S ρ) → ∃ n', Z_X12_layOne_60 l G (d + 1) X45 K n' m (A kb) (nI pi) (nI bi) (nI x) (nI y) (nI t) (nI a) (nI j) (nI i) (mh m A S ρ) := by
  obtain ⟨hk, hk2, w1, w2, w3, w4, -⟩ := WFP.bd hW hp
  have hwo := wO_bd (t := t) (show 1 ≤ p.2.1 ∧ p.2.1 ≤ 4 ∧ 1 ≤ p.2.2.1 ∧ p.2.2.1 ≤ 4 from ⟨w1, w2, w3, w4⟩)
  obtain ⟨k3, v1, v2, v3, v4⟩ := WFB.bd hW hbd
  obtain ⟨q1, q2⟩ := WFB.sq hW hbd
  obtain ⟨g0, g1, g2⟩ := hR.2.2.2.1 bi b hbd
  intro r
  induction r with
  | zero =>
    intro i a hi h
    refine ⟨1, ?_⟩
    simp only [Z_X12_layOne_60, F_X12_layOne_60]
    refine s_X12_wideOf hA hb hR hW hp ht ?_
    rw [nt_le (by omega) (by omega)]
    exact ⟨fun _ => h, fun hc => absurd (by omega) hc⟩
  | succ r ih =>
    intro i a hi h
    simp only [covR] at h
    obtain ⟨n', hz⟩ := ih (i + 1) _ (by omega) h
    have h2 : b.1 * (y + j + 1) ≤ b.1 * b.2.1 := Nat.mul_le_mul_left b.1 (by omega)
    rw [Nat.mul_add, Nat.mul_one] at h2
    refine ⟨n' + 1, ?_⟩
    simp only [Z_X12_layOne_60, F_X12_layOne_60, F_X12_layOne_119, show nI i + 1 = nI (i + 1) from nt_add i 1]
    refine s_X12_wideOf hA hb hR hW hp ht ?_
    rw [nt_le (by omega) (by omega)]
    refine ⟨fun hc => by omega, fun _ => ?_⟩
    refine s_X12_hasSquare hA hb hR hW hp ht (by omega) (by omega) ?_
    refine ⟨fun h3 => ?_, fun h3 => ?_⟩
    · rw [h3] at hz
      rw [show nI a ||| (0 : Int32) = nI a by rw [show (0 : Int32) = nI 0 from rfl, nt_or, Nat.or_zero]]
      exact hz
    · rw [h3] at hz
      simp only [mgI_b hA hb, show (13 + nI bi : Int32) = nI (13 + bi) from nt_add 13 bi, show (7 + nI bi : Int32) = nI (7 + bi) from nt_add 7 bi]
      rw [nI_clamp (by omega), nI_clamp (by omega), g0, g2, nt_add, nt_mul, nt_add, nt_add, nt_add, nt_one (by omega), nt_or]
      exact ⟨(nt_in (by omega)).mpr (by omega), (nt_in (by omega)).mpr (by omega), hz⟩
end LAY1
