/-! SHAPES in the model -/
def wO (p : PC) (t : Nat) : Nat := if t % 2 = 0 then p.2.1 else p.2.2.1
def hO (p : PC) (t : Nat) : Nat := if t % 2 = 0 then p.2.2.1 else p.2.1
def oX (p : PC) (t : Nat) : Nat := if t = 0 ∨ t = 3 then wO p t - 1 else 0
def oY (p : PC) (t : Nat) : Nat := if t < 2 then hO p t - 1 else 0
def hS (p : PC) (t x y : Nat) : Bool := if p.1 = 2 then !(decide (x = oX p t) && decide (y = oY p t)) else true
theorem nt_rem {a b : Nat} (ha : a < 2 ^ 31) (hb0 : 0 < b) (hb : b < 2 ^ 31) : nI a - nI a / nI b * nI b = nI (a % b) := pk_rem ha hb0 hb
theorem WFP.bd {T : TB} (h : WFT T) {k : Nat} {p : PC} (hp : T.2.2.1[k]? = some p) : k < 4 ∧ p.1 ≤ 2 ∧ 1 ≤ p.2.1 ∧ p.2.1 ≤ 4 ∧ 1 ≤ p.2.2.1 ∧ p.2.2.1 ≤ 4 ∧ p.2.2.2.2.1 ≤ 2 := by
  have h1 := h.2.1.2 k p hp
  have h2 := (List.getElem?_eq_some_iff.mp hp).1
  have h3 := h.2.1.1
  refine ⟨by omega, ?_⟩
  obtain ⟨h4, h5, -⟩ := h1
  refine ⟨?_, ?_, ?_, ?_, ?_, h5⟩ <;> omega
theorem WFB.bd {T : TB} (h : WFT T) {k : Nat} {b : BD} (hb : T.2.1[k]? = some b) : k < 3 ∧ 1 ≤ b.1 ∧ b.1 ≤ 8 ∧ 1 ≤ b.2.1 ∧ b.2.1 ≤ 4 := by
  have h1 := h.1.2.2 k b hb
  have h2 := (List.getElem?_eq_some_iff.mp hb).1
  have h3 := h.1.1
  omega
theorem wO_bd {p : PC} {t : Nat} (h : 1 ≤ p.2.1 ∧ p.2.1 ≤ 4 ∧ 1 ≤ p.2.2.1 ∧ p.2.2.1 ≤ 4) : 1 ≤ wO p t ∧ wO p t ≤ 4 ∧ 1 ≤ hO p t ∧ hO p t ≤ 4 := by
  unfold wO hO
  split <;> omega
section SHP
variable {l : Launch} {G : GG} {d m : Nat} {A : Nat → Nat} {S : MS} {ρ : Hp} {T : TB} {kb : Nat}
theorem mgI_b (hA : okA m A) (hb : kb = 15 ∨ kb = 16) {i : Int32} {K : Int32 → Prop} : gI (mh m A S ρ) (A kb) i K = (vp_in i 100 ∧ K (S.2.2.1 kb i.toNatClampNeg)) := by
  rcases hb with rfl | rfl
  · exact mgI_15 hA
  · exact mgI_16 hA
theorem s_X12_wideOf (hA : okA m A) (hb : kb = 15 ∨ kb = 16) (hR : TR T (S.2.2.1 kb)) (hW : WFT T) {k t : Nat} {p : PC} (hp : T.2.2.1[k]? = some p) (ht : t < 4) {K : Int32 → Hp → Prop} (h : K (nI (wO p t)) (mh m A S ρ)) : C_X12_wideOf l G (d + 1) (A kb) (nI k) (nI t) (mh m A S ρ) K := by
  have hk := (WFP.bd hW hp).1
  obtain ⟨-, g1, g2, -, -⟩ := hR.2.2.2.2.1 k p hp
  unfold wO at h
  refine m_X12_wideOf ?_
  simp only [F_X12_wideOf, F_X12_wideOf_14]
  rw [show (2 : Int32) = nI 2 from rfl, nt_rem (by omega) (by decide) (by decide), nt_0 (show t % 2 < 2 ^ 31 by omega), show (25 : Int32) = nI 25 from rfl, show (21 : Int32) = nI 21 from rfl, nt_add, nt_add, mgI_b hA hb, mgI_b hA hb, nI_clamp (by omega), nI_clamp (by omega), g1, g2]
  refine ⟨by decide, fun h1 => ⟨(nt_in (by omega)).mpr (by omega), ?_⟩, fun h1 => ⟨(nt_in (by omega)).mpr (by omega), ?_⟩⟩
  · rwa [if_neg h1] at h
  · rwa [if_pos h1] at h
theorem s_X12_highOf (hA : okA m A) (hb : kb = 15 ∨ kb = 16) (hR : TR T (S.2.2.1 kb)) (hW : WFT T) {k t : Nat} {p : PC} (hp : T.2.2.1[k]? = some p) (ht : t < 4) {K : Int32 → Hp → Prop} (h : K (nI (hO p t)) (mh m A S ρ)) : C_X12_highOf l G (d + 1) (A kb) (nI k) (nI t) (mh m A S ρ) K := by
  have hk := (WFP.bd hW hp).1
  obtain ⟨-, g1, g2, -, -⟩ := hR.2.2.2.2.1 k p hp
  unfold hO at h
  refine m_X12_highOf ?_
  simp only [F_X12_highOf, F_X12_highOf_14]
  rw [show (2 : Int32) = nI 2 from rfl, nt_rem (by omega) (by decide) (by decide), nt_0 (show t % 2 < 2 ^ 31 by omega), show (25 : Int32) = nI 25 from rfl, show (21 : Int32) = nI 21 from rfl, nt_add, nt_add, mgI_b hA hb, mgI_b hA hb, nI_clamp (by omega), nI_clamp (by omega), g1, g2]
  refine ⟨by decide, fun h1 => ⟨(nt_in (by omega)).mpr (by omega), ?_⟩, fun h1 => ⟨(nt_in (by omega)).mpr (by omega), ?_⟩⟩
  · rwa [if_neg h1] at h
  · rwa [if_pos h1] at h
theorem F_hs90 {x y ox oy : Nat} (hx : x < 100) (hy : y < 100) (hox : ox < 100) (hoy : oy < 100) {σ : Hp} {K : Bool → Hp → Prop} (h : K (!(decide (x = ox) && decide (y = oy))) σ) : F_X12_hasSquare_90 l G d (nI x) (nI y) (nI ox) (nI oy) σ K := by
  simp only [F_X12_hasSquare_90, F_X12_hasSquare_105, F_X12_hasSquare_110]
  rw [nt_eq (by omega) (by omega), nt_eq (by omega) (by omega)]
  exact ⟨fun h1 => kif h (by simp [h1]), fun h1 => ⟨fun h2 => kif h (by simp [h1, h2]), fun h2 => kif h (by simp [h2])⟩⟩
theorem s_X12_hasSquare (hA : okA m A) (hb : kb = 15 ∨ kb = 16) (hR : TR T (S.2.2.1 kb)) (hW : WFT T) {k t x y : Nat} {p : PC} (hp : T.2.2.1[k]? = some p) (ht : t < 4) (hx : x < 100) (hy : y < 100) {K : Bool → Hp → Prop} (h : K (hS p t x y) (mh m A S ρ)) : C_X12_hasSquare l G (d + 1) (A kb) (nI k) (nI t) (nI x) (nI y) (mh m A S ρ) K := by
  obtain ⟨hk, hk2, w1, w2, w3, w4, -⟩ := WFP.bd hW hp
  have hwo := wO_bd (t := t) (show 1 ≤ p.2.1 ∧ p.2.1 ≤ 4 ∧ 1 ≤ p.2.2.1 ∧ p.2.2.1 ≤ 4 from ⟨w1, w2, w3, w4⟩)
  obtain ⟨g0, g1, g2, -, -⟩ := hR.2.2.2.2.1 k p hp
  refine m_X12_hasSquare ?_
  simp only [F_X12_hasSquare]
  rw [show (17 : Int32) = nI 17 from rfl, show (25 : Int32) = nI 25 from rfl, show (21 : Int32) = nI 21 from rfl, nt_add, nt_add, nt_add]
  simp only [mgI_b hA hb]
  rw [nI_clamp (by omega), nI_clamp (by omega), nI_clamp (by omega), g0, g1, g2]
  refine ⟨(nt_in (by omega)).mpr (by omega), (nt_in (by omega)).mpr (by omega), (nt_in (by omega)).mpr (by omega), ?_⟩
  rw [show (2 : Int32) = nI 2 from rfl, nt_eq (by omega) (by decide), nt_rem (by omega) (by decide) (by decide), nt_0 (show t % 2 < 2 ^ 31 by omega)]
  have hend : p.1 = 2 → ∀ W H : Int32, W = nI (wO p t) → H = nI (hO p t) → F_X12_hasSquare_56 l G d (nI t) (nI x) (nI y) W H (mh m A S ρ) K := by
    intro h2 W H e1 e2
    subst e1 e2
    unfold hS at h
    rw [if_pos h2] at h
    simp only [F_X12_hasSquare_56, F_X12_hasSquare_67, F_X12_hasSquare_75]
    rw [show (1 : Int32) = nI 1 from rfl, nt_sub (a := wO p t) (by omega) (by omega), nt_sub (a := hO p t) (by omega) (by omega), show (0 : Int32) = nI 0 from rfl, show (3 : Int32) = nI 3 from rfl, show (2 : Int32) = nI 2 from rfl, nt_eq (by omega) (by decide), nt_eq (by omega) (by decide), nt_le (by decide) (by omega)]
    unfold oX oY at h
    refine ⟨fun h3 => ⟨fun h4 => ?_, fun h4 => ?_⟩, fun h3 => ⟨fun h4 => ⟨fun h5 => ?_, fun h5 => ?_⟩, fun h4 => ⟨fun h5 => ?_, fun h5 => ?_⟩⟩⟩
    · omega
    · rw [if_pos (Or.inl h3), if_pos (by omega)] at h; exact F_hs90 hx hy (by omega) (by omega) h
    · rw [if_neg (by omega), if_neg (by omega)] at h; exact F_hs90 hx hy (by omega) (by omega) h
    · rw [if_neg (by omega), if_pos (by omega)] at h; exact F_hs90 hx hy (by omega) (by omega) h
    · rw [if_pos (Or.inr h4), if_neg (by omega)] at h; exact F_hs90 hx hy (by omega) (by omega) h
    · omega
  refine ⟨fun h2 => ⟨by decide, fun h3 => ?_, fun h3 => ?_⟩, fun h2 => ?_⟩
  · simp only [F_X12_hasSquare_41]
    rw [show (2 : Int32) = nI 2 from rfl, nt_rem (by omega) (by decide) (by decide), nt_0 (show t % 2 < 2 ^ 31 by omega)]
    exact ⟨by decide, fun _ => hend h2 _ _ (by rw [wO, if_neg h3]) (by rw [hO, if_neg h3]), fun h4 => absurd h4 h3⟩
  · simp only [F_X12_hasSquare_41]
    rw [show (2 : Int32) = nI 2 from rfl, nt_rem (by omega) (by decide) (by decide), nt_0 (show t % 2 < 2 ^ 31 by omega)]
    exact ⟨by decide, fun h4 => absurd h3 h4, fun _ => hend h2 _ _ (by rw [wO, if_pos h3]) (by rw [hO, if_pos h3])⟩
  · unfold hS at h
    rw [if_neg h2] at h
    exact h
end SHP
