/-! layLays in the model: all lays there are, in their order -/
def tmx (p : PC) : Nat := if p.2.2.2.1 then 4 else 1
def ltL (j pi bi : Nat) (p : PC) (b : BD) (x y : Nat) : Nat → Nat → List LY
  | 0, _ => []
  | n + 1, t => (if agn p t t 0 then [] else (lay1 j pi bi p b x y t).toList) ++ ltL j pi bi p b x y n (t + 1)
def lxL (j pi bi : Nat) (p : PC) (b : BD) (y : Nat) : Nat → Nat → List LY
  | 0, _ => []
  | n + 1, x => ltL j pi bi p b x y (tmx p) 0 ++ lxL j pi bi p b y n (x + 1)
def lyL (j pi bi : Nat) (p : PC) (b : BD) : Nat → Nat → List LY
  | 0, _ => []
  | n + 1, y => lxL j pi bi p b y b.1 0 ++ lyL j pi bi p b n (y + 1)
def lbL (T : TB) (pi : Nat) (p : PC) : Nat → Nat → List LY
  | 0, _ => []
  | n + 1, k => (match T.2.1[k]? with | some b => lyL T.2.2.2 pi k p b b.2.1 0 | none => []) ++ lbL T pi p n (k + 1)
def lpL (T : TB) : Nat → Nat → List LY
  | 0, _ => []
  | n + 1, k => (match T.2.2.1[k]? with | some p => lbL T k p T.2.1.length 0 | none => []) ++ lpL T n (k + 1)
def allL (T : TB) : List LY := lpL T T.2.2.1.length 0
section LAYS
variable {l : Launch} {G : GG} {d m : Nat} {A : Nat → Nat} {S0 : MS} {ρ : Hp} {T : TB} {kb : Nat}
/-- reached from S0, with the lays L -/
def RLs (S0 : MS) (L : List LY) (S : MS) : Prop := Sm [30] [] [23, 24, 25, 26, 27, 28, 29] S0 S ∧ LR L S
theorem RLs.tr {L : List LY} {S : MS} (h : RLs S0 L S) (hb : kb = 15 ∨ kb = 16) (hR : TR T (S0.2.2.1 kb)) : TR T (S.2.2.1 kb) := by
  rw [h.1.2.2.1 kb (by rcases hb with rfl | rfl <;> decide)]
  exact hR
theorem lay1_len {j pi bi : Nat} {p : PC} {b : BD} {x y t : Nat} : (lay1 j pi bi p b x y t).toList.length ≤ 1 := by
  cases lay1 j pi bi p b x y t <;> simp
theorem ltL_len {j pi bi : Nat} {p : PC} {b : BD} {x y : Nat} : ∀ n t, (ltL j pi bi p b x y n t).length ≤ n
  | 0, t => by simp [ltL]
  | n + 1, t => by
    have h1 := ltL_len (j := j) (pi := pi) (bi := bi) (p := p) (b := b) (x := x) (y := y) n (t + 1)
    have h2 := lay1_len (j := j) (pi := pi) (bi := bi) (p := p) (b := b) (x := x) (y := y) (t := t)
    simp only [ltL, List.length_append]
    split
    · simp only [List.length_nil]; omega
    · omega
theorem lxL_len {j pi bi : Nat} {p : PC} {b : BD} {y : Nat} : ∀ n x, (lxL j pi bi p b y n x).length ≤ 4 * n
  | 0, x => by simp [lxL]
  | n + 1, x => by
    have h1 := lxL_len (j := j) (pi := pi) (bi := bi) (p := p) (b := b) (y := y) n (x + 1)
    have h2 := ltL_len (j := j) (pi := pi) (bi := bi) (p := p) (b := b) (x := x) (y := y) (tmx p) 0
    have h3 : tmx p ≤ 4 := by unfold tmx; split <;> omega
    simp only [lxL, List.length_append]
    omega
theorem lyL_len {j pi bi : Nat} {p : PC} {b : BD} : ∀ n y, (lyL j pi bi p b n y).length ≤ 4 * (b.1 * n)
  | 0, y => by simp [lyL]
  | n + 1, y => by
    have h1 := lyL_len (j := j) (pi := pi) (bi := bi) (p := p) (b := b) n (y + 1)
    have h2 := lxL_len (j := j) (pi := pi) (bi := bi) (p := p) (b := b) (y := y) b.1 0
    simp only [lyL, List.length_append, Nat.mul_add, Nat.mul_one]

    omega
theorem z_m_54 (hA : okA m A) (hb : kb = 15 ∨ kb = 16) (hR : TR T (S0.2.2.1 kb)) (hW : WFT T) {pi bi : Nat} {p : PC} {b : BD} (hp : T.2.2.1[pi]? = some p) (hbd : T.2.1[bi]? = some b) {x y : Nat} (hx : x < 100) (hy : y < 100) {X7 : Nat → Nat → Int32 → Hp → Prop} {X16 : Nat → Nat → Int32 → Int32 → Hp → Prop} {X26 : Nat → Nat → Int32 → Int32 → Int32 → Hp → Prop} {X40 : Nat → Nat → Int32 → Int32 → Int32 → Int32 → Hp → Prop} {K : Hp → Prop} : ∀ r t (S : MS) (L : List LY), t + r = tmx p → RLs S0 L S → L.length + r ≤ 224 → (∀ S', RLs S0 (L ++ ltL T.2.2.2 pi bi p b x y r t) S' → X40 m (A kb) (nI pi) (nI bi) (nI y) (nI (x + 1)) (mh m A S' ρ)) → Z_X12_layLays_54 l G (d + 3) X7 X16 X26 X40 K (r + 1) m (A kb) (nI pi) (nI bi) (nI y) (nI x) (nI t) (mh m A S ρ) := by
  have h4 : tmx p ≤ 4 := by unfold tmx; split <;> omega
  obtain ⟨hk, -⟩ := WFP.bd hW hp
  intro r
  induction r with
  | zero =>
    intro t S L ht hS hL hK
    have hR' := hS.tr hb hR
    obtain ⟨-, -, -, g3, -⟩ := hR'.2.2.2.2.1 pi p hp
    simp only [Z_X12_layLays_54, F_X12_layLays_54, F_X12_layLays_71]
    rw [mgI_b hA hb, show (29 + nI pi : Int32) = nI (29 + pi) from nt_add 29 pi, nI_clamp (by omega), g3, show nI x + 1 = nI (x + 1) from nt_add x 1]
    have hX := hK S (by simpa [ltL] using hS)
    refine ⟨(nt_in (by omega)).mpr (by omega), fun h1 => ?_, fun h1 => ?_⟩
    · have e : tmx p = 1 := by unfold tmx; cases h5 : p.2.2.2.1 with | true => rw [h5] at h1; exact absurd rfl h1 | false => rfl
      rw [show (1 : Int32) = nI 1 from rfl, nt_le (by omega) (by omega)]
      exact ⟨fun _ => hX, fun hc => absurd (by omega) hc⟩
    · have e : tmx p = 4 := by unfold tmx; cases h5 : p.2.2.2.1 with | true => rfl | false => rw [h5] at h1; exact absurd h1 (by decide)
      rw [show (4 : Int32) = nI 4 from rfl, nt_le (by omega) (by omega)]
      exact ⟨fun _ => hX, fun hc => absurd (by omega) hc⟩
  | succ r ih =>
    intro t S L ht hS hL hK
    have hR' := hS.tr hb hR
    obtain ⟨-, -, -, g3, -⟩ := hR'.2.2.2.2.1 pi p hp
    rw [show r + 1 + 1 = (r + 1) + 1 from rfl, Z_X12_layLays_54]
    simp only [F_X12_layLays_54, F_X12_layLays_71, F_X12_layLays_97]
    rw [mgI_b hA hb, show (29 + nI pi : Int32) = nI (29 + pi) from nt_add 29 pi, nI_clamp (by omega), g3, show nI x + 1 = nI (x + 1) from nt_add x 1, show nI t + 1 = nI (t + 1) from nt_add t 1]
    have hX : C_X12_isAgain l G (d + 3) (A kb) (nI pi) (nI t) (mh m A S ρ) fun r2 σ1 => (r2 = true → Z_X12_layLays_54 l G (d + 3) X7 X16 X26 X40 K (r + 1) m (A kb) (nI pi) (nI bi) (nI y) (nI x) (nI (t + 1)) σ1) ∧ (r2 = false → C_X12_layOne l G (d + 3) m (A kb) (nI pi) (nI bi) (nI x) (nI y) (nI t) σ1 fun σ3 => Z_X12_layLays_54 l G (d + 3) X7 X16 X26 X40 K (r + 1) m (A kb) (nI pi) (nI bi) (nI y) (nI x) (nI (t + 1)) σ3) := by
      refine s_X12_isAgain (d := d + 1) hA hb hR' hW hp (by omega) ?_
      refine ⟨fun h5 => ?_, fun h5 => ?_⟩
      · refine ih (t + 1) S L (by omega) hS (by omega) (fun S' h6 => hK S' ?_)
        simpa only [ltL, h5, if_true, List.nil_append] using h6
      · refine s_X12_layOne (d := d) hA hb hR' hW hS.2 (by omega) hp hbd (by omega) hx hy (fun S' h6 h7 => ?_)
        have h8 := lay1_len (j := T.2.2.2) (pi := pi) (bi := bi) (p := p) (b := b) (x := x) (y := y) (t := t)
        refine ih (t + 1) S' _ (by omega) ⟨Sm.tr hS.1 h6, h7⟩ (by rw [List.length_append]; omega) (fun S'' h9 => hK S'' ?_)
        rw [List.append_assoc] at h9
        simpa only [ltL, h5, Bool.false_eq_true, if_false] using h9
    refine ⟨(nt_in (by omega)).mpr (by omega), fun h1 => ?_, fun h1 => ?_⟩
    · have e : tmx p = 1 := by unfold tmx; cases h5 : p.2.2.2.1 with | true => rw [h5] at h1; exact absurd rfl h1 | false => rfl
      rw [show (1 : Int32) = nI 1 from rfl, nt_le (by omega) (by omega)]
      exact ⟨fun hc => by omega, fun _ => hX⟩
    · have e : tmx p = 4 := by unfold tmx; cases h5 : p.2.2.2.1 with | true => rfl | false => rw [h5] at h1; exact absurd h1 (by decide)
      rw [show (4 : Int32) = nI 4 from rfl, nt_le (by omega) (by omega)]
      exact ⟨fun hc => by omega, fun _ => hX⟩
theorem z_m_40 (hA : okA m A) (hb : kb = 15 ∨ kb = 16) (hR : TR T (S0.2.2.1 kb)) (hW : WFT T) {pi bi : Nat} {p : PC} {b : BD} (hp : T.2.2.1[pi]? = some p) (hbd : T.2.1[bi]? = some b) {y : Nat} (hy : y < 100) {X7 : Nat → Nat → Int32 → Hp → Prop} {X16 : Nat → Nat → Int32 → Int32 → Hp → Prop} {X26 : Nat → Nat → Int32 → Int32 → Int32 → Hp → Prop} {K : Hp → Prop} : ∀ r x (S : MS) (L : List LY), x + r = b.1 → RLs S0 L S → L.length + 4 * r ≤ 224 → (∀ S', RLs S0 (L ++ lxL T.2.2.2 pi bi p b y r x) S' → X26 m (A kb) (nI pi) (nI bi) (nI (y + 1)) (mh m A S' ρ)) → Z_X12_layLays_40 l G (d + 3) X7 X16 X26 K (r + 1) m (A kb) (nI pi) (nI bi) (nI y) (nI x) (mh m A S ρ) := by
  obtain ⟨k3, v1, v2, v3, v4⟩ := WFB.bd hW hbd
  have h4 : tmx p ≤ 4 := by unfold tmx; split <;> omega
  intro r
  induction r with
  | zero =>
    intro x S L hx hS hL hK
    obtain ⟨g0, -, -⟩ := (hS.tr hb hR).2.2.2.1 bi b hbd
    simp only [Z_X12_layLays_40, F_X12_layLays_40]
    rw [mgI_b hA hb, show (7 + nI bi : Int32) = nI (7 + bi) from nt_add 7 bi, nI_clamp (by omega), g0, nt_le (by omega) (by omega), show nI y + 1 = nI (y + 1) from nt_add y 1]
    exact ⟨(nt_in (by omega)).mpr (by omega), fun _ => hK S (by simpa [lxL] using hS), fun hc => absurd (by omega) hc⟩
  | succ r ih =>
    intro x S L hx hS hL hK
    obtain ⟨g0, -, -⟩ := (hS.tr hb hR).2.2.2.1 bi b hbd
    have h5 := ltL_len (j := T.2.2.2) (pi := pi) (bi := bi) (p := p) (b := b) (x := x) (y := y) (tmx p) 0
    rw [show r + 1 + 1 = (r + 1) + 1 from rfl, Z_X12_layLays_40]
    simp only [F_X12_layLays_40]
    rw [mgI_b hA hb, show (7 + nI bi : Int32) = nI (7 + bi) from nt_add 7 bi, nI_clamp (by omega), g0, nt_le (by omega) (by omega)]
    refine ⟨(nt_in (by omega)).mpr (by omega), fun hc => by omega, fun _ => ⟨tmx p + 1, ?_⟩⟩
    refine z_m_54 hA hb hR hW hp hbd (by omega) hy (tmx p) 0 S L (by omega) hS (by omega) (fun S' h6 => ?_)
    refine ih (x + 1) S' _ (by omega) h6 (by rw [List.length_append]; omega) (fun S'' h7 => hK S'' ?_)
    rw [List.append_assoc] at h7
    exact h7
theorem z_m_26 (hA : okA m A) (hb : kb = 15 ∨ kb = 16) (hR : TR T (S0.2.2.1 kb)) (hW : WFT T) {pi bi : Nat} {p : PC} {b : BD} (hp : T.2.2.1[pi]? = some p) (hbd : T.2.1[bi]? = some b) {X7 : Nat → Nat → Int32 → Hp → Prop} {X16 : Nat → Nat → Int32 → Int32 → Hp → Prop} {K : Hp → Prop} : ∀ r y (S : MS) (L : List LY), y + r = b.2.1 → RLs S0 L S → L.length + 4 * (b.1 * r) ≤ 224 → (∀ S', RLs S0 (L ++ lyL T.2.2.2 pi bi p b r y) S' → X16 m (A kb) (nI pi) (nI (bi + 1)) (mh m A S' ρ)) → Z_X12_layLays_26 l G (d + 3) X7 X16 K (r + 1) m (A kb) (nI pi) (nI bi) (nI y) (mh m A S ρ) := by
  obtain ⟨k3, v1, v2, v3, v4⟩ := WFB.bd hW hbd
  intro r
  induction r with
  | zero =>
    intro y S L hy hS hL hK
    obtain ⟨-, g1, -⟩ := (hS.tr hb hR).2.2.2.1 bi b hbd
    simp only [Z_X12_layLays_26, F_X12_layLays_26]
    rw [mgI_b hA hb, show (10 + nI bi : Int32) = nI (10 + bi) from nt_add 10 bi, nI_clamp (by omega), g1, nt_le (by omega) (by omega), show nI bi + 1 = nI (bi + 1) from nt_add bi 1]
    exact ⟨(nt_in (by omega)).mpr (by omega), fun _ => hK S (by simpa [lyL] using hS), fun hc => absurd (by omega) hc⟩
  | succ r ih =>
    intro y S L hy hS hL hK
    obtain ⟨-, g1, -⟩ := (hS.tr hb hR).2.2.2.1 bi b hbd
    have h5 := lxL_len (j := T.2.2.2) (pi := pi) (bi := bi) (p := p) (b := b) (y := y) b.1 0
    rw [Nat.mul_add, Nat.mul_one] at hL
    rw [show r + 1 + 1 = (r + 1) + 1 from rfl, Z_X12_layLays_26]
    simp only [F_X12_layLays_26]
    rw [mgI_b hA hb, show (10 + nI bi : Int32) = nI (10 + bi) from nt_add 10 bi, nI_clamp (by omega), g1, nt_le (by omega) (by omega)]
    refine ⟨(nt_in (by omega)).mpr (by omega), fun hc => by omega, fun _ => ⟨b.1 + 1, ?_⟩⟩
    refine z_m_40 hA hb hR hW hp hbd (by omega) b.1 0 S L (by omega) hS (by omega) (fun S' h6 => ?_)
    refine ih (y + 1) S' _ (by omega) h6 (by rw [List.length_append]; omega) (fun S'' h7 => hK S'' ?_)
    rw [List.append_assoc] at h7
    exact h7
theorem nsq_drop {bs : List BD} {k : Nat} {b : BD} (h : bs[k]? = some b) : nsq (bs.drop k) = b.1 * b.2.1 + nsq (bs.drop (k + 1)) := by
  obtain ⟨hk, e⟩ := List.getElem?_eq_some_iff.mp h
  rw [← List.getElem_cons_drop hk, e]
  simp [nsq]
theorem z_m_16 (hA : okA m A) (hb : kb = 15 ∨ kb = 16) (hR : TR T (S0.2.2.1 kb)) (hW : WFT T) {pi : Nat} {p : PC} (hp : T.2.2.1[pi]? = some p) {X7 : Nat → Nat → Int32 → Hp → Prop} {K : Hp → Prop} : ∀ r k (S : MS) (L : List LY), k + r = T.2.1.length → RLs S0 L S → L.length + 4 * nsq (T.2.1.drop k) ≤ 224 → (∀ S', RLs S0 (L ++ lbL T pi p r k) S' → (L ++ lbL T pi p r k).length ≤ L.length + 4 * nsq (T.2.1.drop k) → X7 m (A kb) (nI (pi + 1)) (mh m A S' ρ)) → Z_X12_layLays_16 l G (d + 3) X7 K (r + 1) m (A kb) (nI pi) (nI k) (mh m A S ρ) := by
  have h3 := hW.1.1
  obtain ⟨hk, -⟩ := WFP.bd hW hp
  intro r
  induction r with
  | zero =>
    intro k S L hk hS hL hK
    have g := (hS.tr hb hR).2.1.1
    simp only [Z_X12_layLays_16, F_X12_layLays_16]
    rw [mgI_b hA hb, show (3 : Int32).toNatClampNeg = 3 from rfl, g, nt_le (by omega) (by omega), show nI pi + 1 = nI (pi + 1) from nt_add pi 1]
    exact ⟨(nt_in (a := 3) (by decide)).mpr (by decide), fun _ => hK S (by simpa [lbL] using hS) (by simp [lbL]), fun hc => absurd (by omega) hc⟩
  | succ r ih =>
    intro k S L hk hS hL hK
    have g := (hS.tr hb hR).2.1.1
    obtain ⟨b, hbd⟩ : ∃ b, T.2.1[k]? = some b := ⟨_, List.getElem?_eq_getElem (by omega)⟩
    have hd := nsq_drop hbd
    have h5 := lyL_len (j := T.2.2.2) (pi := pi) (bi := k) (p := p) (b := b) b.2.1 0
    rw [show r + 1 + 1 = (r + 1) + 1 from rfl, Z_X12_layLays_16]
    simp only [F_X12_layLays_16]
    rw [mgI_b hA hb, show (3 : Int32).toNatClampNeg = 3 from rfl, g, nt_le (by omega) (by omega)]
    refine ⟨(nt_in (a := 3) (by decide)).mpr (by decide), fun hc => by omega, fun _ => ⟨b.2.1 + 1, ?_⟩⟩
    refine z_m_26 hA hb hR hW hp hbd b.2.1 0 S L (by omega) hS (by omega) (fun S' h6 => ?_)
    refine ih (k + 1) S' _ (by omega) h6 (by rw [List.length_append]; omega) (fun S'' h7 h8 => hK S'' ?_ ?_)
    · rw [List.append_assoc] at h7
      simpa only [lbL, hbd] using h7
    · rw [List.append_assoc] at h8
      simp only [lbL, hbd]
      rw [List.length_append] at h8 ⊢
      rw [List.length_append (as := L)] at h8
      omega
theorem nsq_len (T : TB) (hW : WFT T) : nsq T.2.1 ≤ 14 := hW.1.2.1
theorem z_m_7 (hA : okA m A) (hb : kb = 15 ∨ kb = 16) (hR : TR T (S0.2.2.1 kb)) (hW : WFT T) {K : Hp → Prop} : ∀ r k (S : MS) (L : List LY), k + r = T.2.2.1.length → RLs S0 L S → L.length + 56 * r ≤ 224 → (∀ S', RLs S0 (L ++ lpL T r k) S' → K (mh m A S' ρ)) → Z_X12_layLays_7 l G (d + 3) K (r + 1) m (A kb) (nI k) (mh m A S ρ) := by
  have h3 := hW.2.1.1
  have h14 := nsq_len T hW
  intro r
  induction r with
  | zero =>
    intro k S L hk hS hL hK
    have g := (hS.tr hb hR).2.1.2.1
    simp only [Z_X12_layLays_7, F_X12_layLays_7]
    rw [mgI_b hA hb, show (4 : Int32).toNatClampNeg = 4 from rfl, g, nt_le (by omega) (by omega)]
    exact ⟨(nt_in (a := 4) (by decide)).mpr (by decide), fun _ => hK S (by simpa [lpL] using hS), fun hc => absurd (by omega) hc⟩
  | succ r ih =>
    intro k S L hk hS hL hK
    have g := (hS.tr hb hR).2.1.2.1
    obtain ⟨p, hp⟩ : ∃ p, T.2.2.1[k]? = some p := ⟨_, List.getElem?_eq_getElem (by omega)⟩
    rw [show r + 1 + 1 = (r + 1) + 1 from rfl, Z_X12_layLays_7]
    simp only [F_X12_layLays_7]
    rw [mgI_b hA hb, show (4 : Int32).toNatClampNeg = 4 from rfl, g, nt_le (by omega) (by omega)]
    refine ⟨(nt_in (a := 4) (by decide)).mpr (by decide), fun hc => by omega, fun _ => ⟨T.2.1.length + 1, ?_⟩⟩
    refine z_m_16 hA hb hR hW hp T.2.1.length 0 S L (by omega) hS (by rw [List.drop_zero]; omega) (fun S' h6 h7 => ?_)
    rw [List.drop_zero] at h7
    refine ih (k + 1) S' _ (by omega) h6 (by omega) (fun S'' h8 => hK S'' ?_)
    rw [List.append_assoc] at h8
    simpa only [lpL, hp] using h8
theorem s_X12_layLays (hA : okA m A) (hb : kb = 15 ∨ kb = 16) (hR : TR T (S0.2.2.1 kb)) (hW : WFT T) {K : Hp → Prop} (hK : ∀ S' : MS, Sm [30] [] [23, 24, 25, 26, 27, 28, 29] S0 S' → LR (allL T) S' → K (mh m A S' ρ)) : C_X12_layLays l G (d + 4) m (A kb) (mh m A S0 ρ) K := by
  have h3 := hW.2.1.1
  refine m_X12_layLays rv_m ?_
  simp only [F_X12_layLays, mfI_0, mpI_0, mfN_1, mfI_2, mpI_2, mfI_3, mpI_3, mfI_4, mpI_4, mfI_5, mpI_5, mfI_6, mpI_6, mfI_7, mpI_7, mfI_8, mpI_8, mfI_9, mpI_9, mfI_10, mpI_10, mfI_11, mpI_11, mfN_12, mfZ_13, mpZ_13, mfZ_14, mpZ_14, mfN_15, mfN_16, mfN_17, mfN_18, mfN_19, mfN_20, mfI_21, mpI_21, mfI_22, mpI_22, mfN_23, mfN_24, mfN_25, mfN_26, mfN_27, mfN_28, mfN_29, mfI_30, mpI_30, mfN_31, mfN_32, mfN_33, mfN_34, mfN_35, mfN_36, mfN_37, mfI_38, mpI_38, mfN_39, mfI_40, mpI_40, mfI_41, mpI_41]
  refine ⟨T.2.2.1.length + 1, z_m_7 hA hb hR hW T.2.2.1.length 0 (seti S0 30 0) [] (by omega) ⟨Sm.i Sm.rf (by decide), by simp, rfl, by simp⟩ (by simp; omega) (fun S' h => hK S' h.1 ?_)⟩
  simpa [allL] using h.2
end LAYS
