/-! isAgain in the model -/
def rowE (p : PC) (t' t y : Nat) : Nat → Nat → Bool
  | 0, _ => true
  | n + 1, x => (hS p t' x y == hS p t x y) && rowE p t' t y n (x + 1)
def allE (p : PC) (t' t : Nat) : Nat → Nat → Bool
  | 0, _ => true
  | n + 1, y => rowE p t' t y (wO p t) 0 && allE p t' t n (y + 1)
def sameE (p : PC) (t' t : Nat) : Bool := decide (wO p t' = wO p t) && (decide (hO p t' = hO p t) && allE p t' t (hO p t) 0)
def agn (p : PC) (t : Nat) : Nat → Nat → Bool
  | 0, _ => false
  | n + 1, t' => sameE p t' t || agn p t n (t' + 1)
section AGN
variable {l : Launch} {G : GG} {d m : Nat} {A : Nat → Nat} {S : MS} {ρ : Hp} {T : TB} {kb : Nat}
theorem z_m_ag66 (hA : okA m A) (hb : kb = 15 ∨ kb = 16) (hR : TR T (S.2.2.1 kb)) (hW : WFT T) {k t t' y : Nat} {p : PC} (hp : T.2.2.1[k]? = some p) (ht : t < 4) (ht' : t' < 4) (hy : y < 100) {X2 : Nat → Int32 → Int32 → Int32 → Hp → Prop} {X47 : Nat → Int32 → Int32 → Int32 → Bool → Int32 → Hp → Prop} {K : Bool → Hp → Prop} : ∀ r x (s : Bool), x + r = wO p t → X47 (A kb) (nI k) (nI t) (nI t') (s && rowE p t' t y r x) (nI y + 1) (mh m A S ρ) → ∃ n', Z_X12_isAgain_66 l G (d + 1) X2 X47 K n' (A kb) (nI k) (nI t) (nI t') s (nI y) (nI x) (mh m A S ρ) := by
  obtain ⟨hk, hk2, w1, w2, w3, w4, -⟩ := WFP.bd hW hp
  have hwo := wO_bd (t := t) (show 1 ≤ p.2.1 ∧ p.2.1 ≤ 4 ∧ 1 ≤ p.2.2.1 ∧ p.2.2.1 ≤ 4 from ⟨w1, w2, w3, w4⟩)
  intro r
  induction r with
  | zero =>
    intro x s hx h
    refine ⟨1, ?_⟩
    simp only [Z_X12_isAgain_66, F_X12_isAgain_66]
    refine s_X12_wideOf hA hb hR hW hp ht ?_
    rw [nt_le (by omega) (by omega)]
    simp only [rowE, Bool.and_true] at h
    exact ⟨fun _ => h, fun hc => absurd (by omega) hc⟩
  | succ r ih =>
    intro x s hx h
    have e1 : nI x + 1 = nI (x + 1) := nt_add x 1
    cases s with
    | false =>
      obtain ⟨n', hz⟩ := ih (x + 1) false (by omega) (by simpa using h)
      refine ⟨n' + 1, ?_⟩
      simp only [Z_X12_isAgain_66, F_X12_isAgain_66, F_X12_isAgain_109, F_X12_isAgain_110, e1]
      refine s_X12_wideOf hA hb hR hW hp ht ?_
      rw [nt_le (by omega) (by omega)]
      exact ⟨fun hc => by omega, fun _ => ⟨fun _ => hz, fun hc => absurd hc (by decide)⟩⟩
    | true =>
      simp only [rowE, Bool.true_and] at h
      obtain ⟨n', hz⟩ := ih (x + 1) (hS p t' x y == hS p t x y) (by omega) h
      refine ⟨n' + 1, ?_⟩
      simp only [Z_X12_isAgain_66, F_X12_isAgain_66, F_X12_isAgain_109, F_X12_isAgain_110, e1]
      refine s_X12_wideOf hA hb hR hW hp ht ?_
      rw [nt_le (by omega) (by omega)]
      refine ⟨fun hc => by omega, fun _ => ⟨fun hc => absurd hc (by decide), fun _ => ?_⟩⟩
      refine s_X12_hasSquare hA hb hR hW hp ht' (by omega) hy ?_
      refine s_X12_hasSquare hA hb hR hW hp ht (by omega) hy ?_
      refine ⟨fun h5 => ?_, fun h5 => ?_⟩
      · rw [beq_eq_false_iff_ne.mpr (fun e => h5 (by rw [e]))] at hz; exact hz
      · rw [beq_iff_eq.mpr (bi_inj h5)] at hz; exact hz
theorem z_m_ag47 (hA : okA m A) (hb : kb = 15 ∨ kb = 16) (hR : TR T (S.2.2.1 kb)) (hW : WFT T) {k t t' : Nat} {p : PC} (hp : T.2.2.1[k]? = some p) (ht : t < 4) (ht' : t' < 4) {X2 : Nat → Int32 → Int32 → Int32 → Hp → Prop} {K : Bool → Hp → Prop} : ∀ r y (s : Bool), y + r = hO p t → ((s && allE p t' t r y) = true → K true (mh m A S ρ)) → ((s && allE p t' t r y) = false → X2 (A kb) (nI k) (nI t) (nI t' + 1) (mh m A S ρ)) → ∃ n', Z_X12_isAgain_47 l G (d + 1) X2 K n' (A kb) (nI k) (nI t) (nI t') s (nI y) (mh m A S ρ) := by
  obtain ⟨hk, hk2, w1, w2, w3, w4, -⟩ := WFP.bd hW hp
  have hwo := wO_bd (t := t) (show 1 ≤ p.2.1 ∧ p.2.1 ≤ 4 ∧ 1 ≤ p.2.2.1 ∧ p.2.2.1 ≤ 4 from ⟨w1, w2, w3, w4⟩)
  intro r
  induction r with
  | zero =>
    intro y s hy h1 h2
    refine ⟨1, ?_⟩
    simp only [Z_X12_isAgain_47, F_X12_isAgain_47, F_X12_isAgain_124]
    refine s_X12_highOf hA hb hR hW hp ht ?_
    rw [nt_le (by omega) (by omega)]
    simp only [allE, Bool.and_true] at h1 h2
    exact ⟨fun _ => ⟨h2, h1⟩, fun hc => absurd (by omega) hc⟩
  | succ r ih =>
    intro y s hy h1 h2
    cases s with
    | false =>
      refine ⟨1, ?_⟩
      simp only [Z_X12_isAgain_47, F_X12_isAgain_47, F_X12_isAgain_124]
      refine s_X12_highOf hA hb hR hW hp ht ?_
      rw [nt_le (by omega) (by omega)]
      have h3 := h2 (by simp)
      exact ⟨fun hc => by omega, fun _ => ⟨fun _ => ⟨fun _ => h3, fun hc => absurd hc (by decide)⟩, fun hc => absurd hc (by decide)⟩⟩
    | true =>
      simp only [allE, Bool.true_and] at h1 h2
      obtain ⟨n', hz⟩ := ih (y + 1) (rowE p t' t y (wO p t) 0) (by omega) h1 h2
      refine ⟨n' + 1, ?_⟩
      simp only [Z_X12_isAgain_47, F_X12_isAgain_47, F_X12_isAgain_124]
      refine s_X12_highOf hA hb hR hW hp ht ?_
      rw [nt_le (by omega) (by omega)]
      refine ⟨fun hc => by omega, fun _ => ⟨fun hc => absurd hc (by decide), fun _ => ?_⟩⟩
      refine z_m_ag66 hA hb hR hW hp ht ht' (by omega) (wO p t) 0 true (by omega) ?_
      rw [Bool.true_and, show nI y + 1 = nI (y + 1) from nt_add y 1]
      exact hz
theorem z_m_ag2 (hA : okA m A) (hb : kb = 15 ∨ kb = 16) (hR : TR T (S.2.2.1 kb)) (hW : WFT T) {k t : Nat} {p : PC} (hp : T.2.2.1[k]? = some p) (ht : t < 4) {K : Bool → Hp → Prop} : ∀ r t', t' + r = t → K (agn p t r t') (mh m A S ρ) → ∃ n', Z_X12_isAgain_2 l G (d + 1) K n' (A kb) (nI k) (nI t) (nI t') (mh m A S ρ) := by
  obtain ⟨hk, hk2, w1, w2, w3, w4, -⟩ := WFP.bd hW hp
  have hwo := wO_bd (t := t) (show 1 ≤ p.2.1 ∧ p.2.1 ≤ 4 ∧ 1 ≤ p.2.2.1 ∧ p.2.2.1 ≤ 4 from ⟨w1, w2, w3, w4⟩)
  intro r
  induction r with
  | zero =>
    intro t' h1 h
    refine ⟨1, ?_⟩
    simp only [Z_X12_isAgain_2, F_X12_isAgain_2]
    rw [nt_le (by omega) (by omega)]
    exact ⟨fun _ => h, fun hc => absurd (by omega) hc⟩
  | succ r ih =>
    intro t' h1 h
    have hwo' := wO_bd (t := t') (show 1 ≤ p.2.1 ∧ p.2.1 ≤ 4 ∧ 1 ≤ p.2.2.1 ∧ p.2.2.1 ≤ 4 from ⟨w1, w2, w3, w4⟩)
    simp only [agn] at h
    have e1 : nI t' + 1 = nI (t' + 1) := nt_add t' 1
    have hno : sameE p t' t = false → ∃ n', Z_X12_isAgain_2 l G (d + 1) K n' (A kb) (nI k) (nI t) (nI t' + 1) (mh m A S ρ) := by
      intro h2
      rw [h2, Bool.false_or] at h
      rw [e1]
      exact ih (t' + 1) (by omega) h
    cases h2 : sameE p t' t with
    | true =>
      rw [h2, Bool.true_or] at h
      simp only [sameE, Bool.and_eq_true, decide_eq_true_eq] at h2
      obtain ⟨g1, g2, g3⟩ := h2
      refine ⟨1, ?_⟩
      simp only [Z_X12_isAgain_2, F_X12_isAgain_2, F_X12_isAgain_41, F_X12_isAgain_42]
      rw [nt_le (by omega) (by omega)]
      refine ⟨fun hc => by omega, fun _ => ?_⟩
      refine s_X12_wideOf hA hb hR hW hp (by omega) ?_
      refine s_X12_wideOf hA hb hR hW hp ht ?_
      rw [g1]
      refine ⟨fun hc => absurd rfl hc, fun _ => ?_⟩
      refine s_X12_highOf hA hb hR hW hp (by omega) ?_
      refine s_X12_highOf hA hb hR hW hp ht ?_
      rw [g2]
      refine ⟨fun hc => absurd rfl hc, fun _ => ?_⟩
      refine z_m_ag47 hA hb hR hW hp ht (by omega) (hO p t) 0 true (by omega) (fun _ => h) (fun hc => ?_)
      rw [g3] at hc
      exact absurd hc (by decide)
    | false =>
      obtain ⟨n', hz⟩ := hno h2
      refine ⟨n' + 1, ?_⟩
      simp only [Z_X12_isAgain_2, F_X12_isAgain_2, F_X12_isAgain_41, F_X12_isAgain_42]
      rw [nt_le (by omega) (by omega)]
      refine ⟨fun hc => by omega, fun _ => ?_⟩
      have hf : ∃ n'', Z_X12_isAgain_47 l G (d + 1) (Z_X12_isAgain_2 l G (d + 1) K n') K n'' (A kb) (nI k) (nI t) (nI t') false 0 (mh m A S ρ) :=
        z_m_ag47 hA hb hR hW hp ht (by omega) (hO p t) 0 false (by omega) (fun hc => absurd hc (by simp)) (fun _ => hz)
      refine s_X12_wideOf hA hb hR hW hp (by omega) ?_
      refine s_X12_wideOf hA hb hR hW hp ht ?_
      rw [nt_eq (by omega) (by omega)]
      refine ⟨fun _ => hf, fun g1 => ?_⟩
      refine s_X12_highOf hA hb hR hW hp (by omega) ?_
      refine s_X12_highOf hA hb hR hW hp ht ?_
      rw [nt_eq (by omega) (by omega)]
      refine ⟨fun _ => hf, fun g2 => ?_⟩
      have g3 : allE p t' t (hO p t) 0 = false := by
        simp only [sameE, g1, g2, decide_true, Bool.true_and] at h2
        exact h2
      exact z_m_ag47 hA hb hR hW hp ht (by omega) (hO p t) 0 true (by omega) (fun hc => by rw [g3] at hc; exact absurd hc (by decide)) (fun _ => hz)
theorem s_X12_isAgain (hA : okA m A) (hb : kb = 15 ∨ kb = 16) (hR : TR T (S.2.2.1 kb)) (hW : WFT T) {k t : Nat} {p : PC} (hp : T.2.2.1[k]? = some p) (ht : t < 4) {K : Bool → Hp → Prop} (h : K (agn p t t 0) (mh m A S ρ)) : C_X12_isAgain l G (d + 2) (A kb) (nI k) (nI t) (mh m A S ρ) K := by
  refine m_X12_isAgain ?_
  simp only [F_X12_isAgain]
  exact z_m_ag2 hA hb hR hW hp ht t 0 (by omega) h
end AGN
