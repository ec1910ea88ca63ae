/-! layLays in the model: all lays there are, in their order -/
def tmx (p : PC) : Nat := if p.2.2.2.1 then 4 else 1
def ltL (j pi bi : Nat) (p : PC) (b : BD) (x y : Nat) : Nat → Nat → List LY
  | 0, _ => []
  | n + 1, t => (if agn p t t 0 then [] else (lay1 j pi bi p b x y t).toList) ++ ltL j pi bi p b x y n (t + 1)
def lxL (j pi bi : Nat) (p : PC) (b : BD) (y : Nat) : Nat → Nat → List LY
  | 0, _ => []
  | n + 1, x => ltL j pi bi p b x y (tmx p) 0 ++ lxL j pi bi p b y n (x + 1)
def lyL (j pi bi : Nat) (p : PC) (b : BD) : Nat → Nat → List LY
  | 0, _ => []
  | n + 1, y => lxL j pi bi p b y b.1 0 ++ lyL j pi bi p b n (y + 1)
def lbL (T : TB) (pi : Nat) (p : PC) : Nat → Nat → List LY
  | 0, _ => []
  | n + 1, k => (match T.2.1[k]? with | some b => lyL T.2.2.2 pi k p b b.2.1 0 | none => []) ++ lbL T pi p n (k + 1)
def lpL (T : TB) : Nat → Nat → List LY
  | 0, _ => []
  | n + 1, k => (match T.2.2.1[k]? with | some p => lbL T k p T.2.1.length 0 | none => []) ++ lpL T n (k + 1)
def allL (T : TB) : List LY := lpL T T.2.2.1.length 0
section LAYS
variable {l : Launch} {G : GG} {d m : Nat} {A : Nat → Nat} {S0 : MS} {ρ : Hp} {T : TB} {kb : Nat}
/-- reached from S0, with the lays L -/
def RLs (S0 : MS) (L : List LY) (S : MS) : Prop := Sm [30] [] [23, 24, 25, 26, 27, 28, 29] S0 S ∧ LR L S
theorem RLs.tr {L : List LY} {S : MS} (h : RLs S0 L S) (hb : kb = 15 ∨ kb = 16) (hR : TR T (S0.2.2.1 kb)) : TR T (S.2.2.1 kb) := by
  rw [h.1.2.2.1 kb (by rcases hb with rfl | rfl <;> decide)]
  exact hR
theorem lay1_len {j pi bi : Nat} {p : PC} {b : BD} {x y t : Nat} : (lay1 j pi bi p b x y t).toList.length ≤ 1 := by
  cases lay1 j pi bi p b x y t <;> simp
theorem ltL_len {j pi bi : Nat} {p : PC} {b : BD} {x y : Nat} : ∀ n t, (ltL j pi bi p b x y n t).length ≤ n
  | 0, t => by simp [ltL]
  | n + 1, t => by
    have h1 := ltL_len (j := j) (pi := pi) (bi := bi) (p := p) (b := b) (x := x) (y := y) n (t + 1)
    have h2 := lay1_len (j := j) (pi := pi) (bi := bi) (p := p) (b := b) (x := x) (y := y) (t := t)
    simp only [ltL, List.length_append]
    split
    · simp only [List.length_nil]; omega
    · omega
theorem lxL_len {j pi bi : Nat} {p : PC} {b : BD} {y : Nat} : ∀ n x, (lxL j pi bi p b y n x).length ≤ 4 * n
  | 0, x => by simp [lxL]
  | n + 1, x => by
    have h1 := lxL_len (j := j) (pi := pi) (bi := bi) (p := p) (b := b) (y := y) n (x + 1)
    have h2 := ltL_len (j := j) (pi := pi) (bi := bi) (p := p) (b := b) (x := x) (y := y) (tmx p) 0
    have h3 : tmx p ≤ 4 := by unfold tmx; split <;> omega
    simp only [lxL, List.length_append]
    omega
theorem lyL_len {j pi bi : Nat} {p : PC} {b : BD} : ∀ n y, (lyL j pi bi p b n y).length ≤ 4 * (b.1 * n)
  | 0, y => by simp [lyL]
  | n + 1, y => by
    have h1 := lyL_len (j := j) (pi := pi) (bi := bi) (p := p) (b := b) n (y + 1)
    have h2 := lxL_len (j := j) (pi := pi) (bi := bi) (p := p) (b := b) (y := y) b.1 0
    simp only [lyL, List.length_append, Nat.mul_add, Nat.mul_one]

    omega
theorem z_m_54 (hA : okA m A) (hb : kb = 15 ∨ kb = 16) (hR : TR T (S0.2.2.1 kb)) (hW : WFT T) {pi bi : Nat} {p : PC} {b : BD} (hp : T.2.2.1[pi]? = some p) (hbd : T.2.1[bi]? = some b) {x y : Nat} (hx : x < 100) (hy : y < 100) {X7 : Nat → Nat → Int32 → Hp → Prop} {X16 : Nat → Nat → Int32 → Int32 → Hp → Prop} {X26 : Nat → Nat → Int32 → Int32 → Int32 → Hp → Prop} {X40 : Nat → Nat → Int32 → Int32 → Int32 → Int32 → Hp → Prop} {K : Hp → Prop} : ∀ r t (S : MS) (L : List LY), t + r = tmx p → RLs S0 L S → L.length + r ≤ 224 → (∀ S', RLs S0 (L ++ ltL T.2.2.2 pi bi p b x y r t) S' → X40 m (A kb) (nI pi) (nI bi) (nI y) (nI (x + 1)) (mh m A S' ρ)) → Z_X12_layLays_54 l G (d + 3) X7 X16 X26 X40 K (r + 1) m (A kb) (nI pi) (nI bi) (nI y) (nI x) (nI t) (mh m A S ρ) := by
  have h4 : tmx p ≤ 4 := by unfold tmx; split <;> omega
  obtain ⟨hk, -⟩ := WFP.bd hW hp
  intro r
  induction r with
  | zero =>
    intro t S L ht hS hL hK
    have hR' := hS.tr hb hR
    obtain ⟨-, -, -, g3, -⟩ := hR'.2.2.2.2.1 pi p hp
    simp only [Z_X12_layLays_54, F_X12_layLays_54, F_X12_layLays_71]
    rw [mgI_b hA hb, show (29 + nI pi : Int32) = nI (29 + pi) from nt_add 29 pi, nI_clamp (by omega), g3, show nI x + 1 = nI (x + 1) from nt_add x 1]
    have hX := hK S (by simpa [ltL] using hS)
    refine ⟨(nt_in (by omega)).mpr (by omega), fun h1 => ?_, fun h1 => ?_⟩
    · have e : tmx p = 1 := by unfold tmx; cases h5 : p.2.2.2.1 with | true => rw [h5] at h1; exact absurd rfl h1 | false => rfl
      rw [show (1 : Int32) = nI 1 from rfl, nt_le (by omega) (by omega)]
      exact ⟨fun _ => hX, fun hc => absurd (by omega) hc⟩
    · have e : tmx p = 4 := by unfold tmx; cases h5 : p.2.2.2.1 with | true => rfl | false => rw [h5] at h1; exact absurd h1 (by decide)
      rw [show (4 : Int32) = nI 4 from rfl, nt_le (by omega) (by omega)]
      exact ⟨fun _ => hX, fun hc => absurd (by omega) hc⟩
  | succ r ih =>
    intro t S L ht hS hL hK
    have hR' := hS.tr hb hR
    obtain ⟨-, -, -, g3, -⟩ := hR'.2.2.2.2.1 pi p hp
    rw [show r + 1 + 1 = (r + 1) + 1 from rfl, Z_X12_layLays_54]
    simp only [F_X12_layLays_54, F_X12_layLays_71, F_X12_layLays_97]
    rw [mgI_b hA hb, show (29 + nI pi : Int32) = nI (29 + pi) from nt_add 29 pi, nI_clamp (by omega), g3, show nI x + 1 = nI (x + 1) from nt_add x 1, show nI t + 1 = nI (t + 1) from nt_add t 1]
    have hX : C_X12_isAgain l G (d + 3) (A kb) (nI pi) (nI t) (mh m A S ρ) fun r2 σ1 => (r2 = true → Z_X12_layLays_54 l G (d + 3) X7 X16 X26 X40 K (r + 1) m (A kb) (nI pi) (nI bi) (nI y) (nI x) (nI (t + 1)) σ1) ∧ (r2 = false → C_X12_layOne l G (d + 3) m (A kb) (nI pi) (nI bi) (nI x) (nI y) (nI t) σ1 fun σ3 => Z_X12_layLays_54 l G (d + 3) X7 X16 X26 X40 K (r + 1) m (A kb) (nI pi) (nI bi) (nI y) (nI x) (nI (t + 1)) σ3) := by
      refine s_X12_isAgain (d := d + 1) hA hb hR' hW hp (by omega) ?_
      refine ⟨fun h5 => ?_, fun h5 => ?_⟩
      · refine ih (t + 1) S L (by omega) hS (by omega) (fun S' h6 => hK S' ?_)
        simpa only [ltL, h5, if_true, List.nil_append] using h6
      · refine s_X12_layOne (d := d) hA hb hR' hW hS.2 (by omega) hp hbd (by omega) hx hy (fun S' h6 h7 => ?_)
        have h8 := lay1_len (j := T.2.2.2) (pi := pi) (bi := bi) (p := p) (b := b) (x := x) (y := y) (t := t)
        refine ih (t + 1) S' _ (by omega) ⟨Sm.tr hS.1 h6, h7⟩ (by rw [List.length_append]; omega) (fun S'' h9 => hK S'' ?_)
        rw [List.append_assoc] at h9
        simpa only [ltL, h5, Bool.false_eq_true, if_false] using h9
    refine ⟨(nt_in (by omega)).mpr (by omega), fun h1 => ?_, fun h1 => ?_⟩
    · have e : tmx p = 1 := by unfold tmx; cases h5 : p.2.2.2.1 with | true => rw [h5] at h1; exact absurd rfl h1 | false => rfl
      rw [show (1 : Int32) = nI 1 from rfl, nt_le (by omega) (by omega)]
      exact ⟨fun hc => by omega, fun _ => hX⟩
    · have e : tmx p = 4 := by unfold tmx; cases h5 : p.2.2.2.1 with | true => rfl | false => rw [h5] at h1; exact absurd h1 (by decide)
      rw [show (4 : Int32) = nI 4 from rfl, nt_le (by omega) (by omega)]
      exact ⟨fun hc => by omega, fun _ => hX⟩
end LAYS
