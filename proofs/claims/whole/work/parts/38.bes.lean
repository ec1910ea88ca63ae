/-! besides in the model -/
theorem nsq_split {bs : List BD} {k : Nat} {b : BD} (h : bs[k]? = some b) : nsq bs = nsq (bs.take k) + b.1 * b.2.1 + nsq (bs.drop (k + 1)) := by
  obtain ⟨hk, e⟩ := List.getElem?_eq_some_iff.mp h
  have h1 : bs = bs.take k ++ (b :: bs.drop (k + 1)) := by
    rw [← e, List.getElem_cons_drop, List.take_append_drop]
  have h2 : nsq bs = nsq (bs.take k ++ (b :: bs.drop (k + 1))) := congrArg nsq h1
  rw [h2]
  simp only [nsq, List.map_append, List.map_cons, List.sum_append, List.sum_cons]
  omega
theorem WFB.sq {T : TB} (h : WFT T) {k : Nat} {b : BD} (hb : T.2.1[k]? = some b) : b.2.2.1 + b.1 * b.2.1 ≤ nsq T.2.1 ∧ nsq T.2.1 ≤ 14 := by
  have h1 := nsq_split hb
  have h2 := (h.1.2.2 k b hb).2.2.2.2.1
  have h3 := h.1.2.1
  omega
def bes1 (sq f w al c : Nat) (near : Nat) : Nat :=
  if sq.testBit (f + c) then (((near ||| (if 0 < c % w then 2 ^ (f + c - 1) else 0)) ||| (if c % w < w - 1 then 2 ^ (f + c + 1) else 0)) ||| (if w ≤ c then 2 ^ (f + c - w) else 0)) ||| (if c + w < al then 2 ^ (f + c + w) else 0) else near
def besN (sq f w al : Nat) : Nat → Nat → Nat → Nat
  | 0, _, near => near
  | n + 1, c, near => besN sq f w al n (c + 1) (bes1 sq f w al c near)
section BES
variable {l : Launch} {G : GG} {d m : Nat} {A : Nat → Nat} {S : MS} {ρ : Hp} {T : TB} {kb : Nat}
theorem z_m_bes (hA : okA m A) (hb : kb = 15 ∨ kb = 16) (hR : TR T (S.2.2.1 kb)) (hW : WFT T) {k : Nat} {b : BD} (hk : T.2.1[k]? = some b) {sq : Nat} (hsq : sq < 2 ^ 31) {K : Int32 → Hp → Prop} : ∀ r c near, c + r = b.1 * b.2.1 → K (nI (besN sq b.2.2.1 b.1 (b.1 * b.2.1) r c near)) (mh m A S ρ) → ∃ n', Z_X12_besides_23 l G (d + 1) K n' (A kb) (nI k) (nI sq) (nI b.1) (nI (b.1 * b.2.1)) (nI near) (nI c) (mh m A S ρ) := by
  obtain ⟨k3, w1, w2, w3, w4⟩ := WFB.bd hW hk
  obtain ⟨q1, q2⟩ := WFB.sq hW hk
  obtain ⟨g0, g1, g2⟩ := hR.2.2.2.1 k b hk
  intro r
  induction r with
  | zero =>
    intro c near hc h
    refine ⟨1, ?_⟩
    simp only [Z_X12_besides_23, F_X12_besides_23]
    rw [nt_le (by omega) (by omega)]
    exact ⟨fun _ => h, fun hc => absurd (by omega) hc⟩
  | succ r ih =>
    intro c near hc h
    simp only [besN] at h
    have hcw : c % b.1 < b.1 := Nat.mod_lt _ (by omega)
    have e0 : (13 + nI k : Int32) = nI (13 + k) := nt_add 13 k
    have e1 : nI c + 1 = nI (c + 1) := nt_add c 1
    have e2 : nI c - nI c / nI b.1 * nI b.1 = nI (c % b.1) := nt_rem (by omega) (by omega) (by omega)
    have e3 : (nI b.1 - 1 : Int32) = nI (b.1 - 1) := nt_sub (b := 1) (by omega) (by omega)
    have e4 : nI (b.2.2.1) + nI c = nI (b.2.2.1 + c) := nt_add _ _
    have hin : vp_in (nI (13 + k)) 100 := (nt_in (by omega)).mpr (by omega)
    have hw0 : ¬ nI b.1 = 0 := by rw [nt_0 (by omega)]; omega
    obtain ⟨n', hz⟩ := ih (c + 1) _ (by omega) h
    refine ⟨n' + 1, ?_⟩
    simp only [Z_X12_besides_23, F_X12_besides_23, F_X12_besides_75, F_X12_besides_107, F_X12_besides_135, F_X12_besides_166, F_X12_besides_169, e0, e1, e2, e3, mgI_b hA hb]
    rw [nt_le (by omega) (by omega), nI_clamp (by omega), g2, e4]
    refine ⟨fun hc => by omega, fun _ => ⟨hin, ?_⟩⟩
    refine s_X12_hasBit hsq (by omega) ?_
    unfold bes1 at hz
    refine ⟨fun h1 => ⟨hw0, ?_⟩, fun h1 => ?_⟩
    · rw [if_pos h1] at hz
      simp only [mgI_b hA hb, nI_clamp (show 13 + k < 2 ^ 31 by omega), g2, e4]
      have z0 : (0 : Int32) = nI 0 := rfl
      have z1 : (1 : Int32) = nI 1 := rfl
      have b1 : nI c + nI b.1 = nI (c + b.1) := nt_add _ _
      have b2 : nI (b.2.2.1 + c) + nI b.1 = nI (b.2.2.1 + c + b.1) := nt_add _ _
      have p1 : 0 < c % b.1 → (1 : Int32) <<< ((nI (b.2.2.1 + c) - 1) &&& 31) = nI (2 ^ (b.2.2.1 + c - 1)) := by
        intro h2
        have : c % b.1 ≤ c := Nat.mod_le _ _
        rw [show (nI (b.2.2.1 + c) - 1 : Int32) = nI (b.2.2.1 + c - 1) from nt_sub (b := 1) (by omega) (by omega), nt_one (by omega)]
      have p2 : (1 : Int32) <<< ((nI (b.2.2.1 + c) + 1) &&& 31) = nI (2 ^ (b.2.2.1 + c + 1)) := by
        rw [show (nI (b.2.2.1 + c) + 1 : Int32) = nI (b.2.2.1 + c + 1) from nt_add _ 1, nt_one (by omega)]
      have p3 : b.1 ≤ c → (1 : Int32) <<< ((nI (b.2.2.1 + c) - nI b.1) &&& 31) = nI (2 ^ (b.2.2.1 + c - b.1)) := by
        intro h2
        rw [nt_sub (by omega) (by omega), nt_one (by omega)]
      have p4 : c + b.1 < b.1 * b.2.1 → (1 : Int32) <<< (nI (b.2.2.1 + c + b.1) &&& 31) = nI (2 ^ (b.2.2.1 + c + b.1)) := by
        intro h2
        rw [nt_one (by omega)]
      have c1 : nI (c % b.1) ≤ 0 ↔ ¬ 0 < c % b.1 := by rw [z0, nt_le (by omega) (by decide)]; omega
      have c2 : nI (b.1 - 1) ≤ nI (c % b.1) ↔ ¬ c % b.1 < b.1 - 1 := by rw [nt_le (by omega) (by omega)]; omega
      have c3 : nI c < nI b.1 ↔ ¬ b.1 ≤ c := by rw [nt_lt (by omega) (by omega)]; omega
      have c4 : nI (b.1 * b.2.1) ≤ nI (c + b.1) ↔ ¬ c + b.1 < b.1 * b.2.1 := by rw [nt_le (by omega) (by omega)]; omega
      have or0 : ∀ x : Nat, nI x ||| (0 : Int32) = nI x := fun x => by rw [z0, nt_or, Nat.or_zero]
      rw [b1, b2]
      simp only [c1, c2, c3, c4, hin, hw0, not_false_eq_true, true_and]
      by_cases h2 : 0 < c % b.1 <;> by_cases h3 : c % b.1 < b.1 - 1 <;> by_cases h4 : b.1 ≤ c <;> by_cases h5 : c + b.1 < b.1 * b.2.1 <;>
        (simp only [h2, h3, h4, h5, if_true, if_false, Nat.or_zero] at hz
         simp only [h2, h3, h4, h5, p1, p2, p3, p4, not_true_eq_false, not_false_eq_true, false_implies, true_implies, true_and, and_true, or0, nt_or]
         exact hz)
    · rw [if_neg (by simp [h1])] at hz
      exact hz
theorem s_X12_besides (hA : okA m A) (hb : kb = 15 ∨ kb = 16) (hR : TR T (S.2.2.1 kb)) (hW : WFT T) {k : Nat} {b : BD} (hk : T.2.1[k]? = some b) {sq : Nat} (hsq : sq < 2 ^ 31) {K : Int32 → Hp → Prop} (h : K (nI (besN sq b.2.2.1 b.1 (b.1 * b.2.1) (b.1 * b.2.1) 0 0)) (mh m A S ρ)) : C_X12_besides l G (d + 2) (A kb) (nI k) (nI sq) (mh m A S ρ) K := by
  obtain ⟨k3, w1, w2, w3, w4⟩ := WFB.bd hW hk
  obtain ⟨g0, g1, g2⟩ := hR.2.2.2.1 k b hk
  refine m_X12_besides ?_
  simp only [F_X12_besides, mgI_b hA hb, show (7 + nI k : Int32) = nI (7 + k) from nt_add 7 k, show (10 + nI k : Int32) = nI (10 + k) from nt_add 10 k]
  rw [nI_clamp (by omega), nI_clamp (by omega), g0, g1, nt_mul]
  exact ⟨(nt_in (by omega)).mpr (by omega), (nt_in (by omega)).mpr (by omega), z_m_bes hA hb hR hW hk hsq _ 0 0 (by omega) h⟩
end BES
