/-! the lays there are, all valid -/
theorem ltL_mem {j pi bi : Nat} {p : PC} {b : BD} {x y : Nat} : ∀ n t e, e ∈ ltL j pi bi p b x y n t → ∃ t', t ≤ t' ∧ t' < t + n ∧ agn p t' t' 0 = false ∧ lay1 j pi bi p b x y t' = some e
  | 0, t, e => by simp [ltL]
  | n + 1, t, e => by
    intro h
    simp only [ltL, List.mem_append] at h
    rcases h with h | h
    · split at h
      · simp at h
      · rename_i h2
        exact ⟨t, Nat.le_refl _, by omega, by simpa using h2, by simpa using h⟩
    · obtain ⟨t', h1, h2, h3⟩ := ltL_mem n (t + 1) e h
      exact ⟨t', by omega, by omega, h3⟩
theorem lxL_mem {j pi bi : Nat} {p : PC} {b : BD} {y : Nat} : ∀ n x e, e ∈ lxL j pi bi p b y n x → ∃ x' t', x ≤ x' ∧ x' < x + n ∧ t' < tmx p ∧ agn p t' t' 0 = false ∧ lay1 j pi bi p b x' y t' = some e
  | 0, x, e => by simp [lxL]
  | n + 1, x, e => by
    intro h
    simp only [lxL, List.mem_append] at h
    rcases h with h | h
    · obtain ⟨t', h1, h2, h3⟩ := ltL_mem _ _ e h
      exact ⟨x, t', Nat.le_refl _, by omega, by omega, h3⟩
    · obtain ⟨x', t', h1, h2, h3⟩ := lxL_mem n (x + 1) e h
      exact ⟨x', t', by omega, by omega, h3⟩
theorem lyL_mem {j pi bi : Nat} {p : PC} {b : BD} : ∀ n y e, e ∈ lyL j pi bi p b n y → ∃ y' x' t', y ≤ y' ∧ y' < y + n ∧ x' < b.1 ∧ t' < tmx p ∧ agn p t' t' 0 = false ∧ lay1 j pi bi p b x' y' t' = some e
  | 0, y, e => by simp [lyL]
  | n + 1, y, e => by
    intro h
    simp only [lyL, List.mem_append] at h
    rcases h with h | h
    · obtain ⟨x', t', h1, h2, h3⟩ := lxL_mem _ _ e h
      exact ⟨y, x', t', Nat.le_refl _, by omega, by omega, h3⟩
    · obtain ⟨y', x', t', h1, h2, h3⟩ := lyL_mem n (y + 1) e h
      exact ⟨y', x', t', by omega, by omega, h3⟩
theorem lbL_mem {T : TB} {pi : Nat} {p : PC} : ∀ n k e, e ∈ lbL T pi p n k → ∃ k' b y' x' t', T.2.1[k']? = some b ∧ y' < b.2.1 ∧ x' < b.1 ∧ t' < tmx p ∧ agn p t' t' 0 = false ∧ lay1 T.2.2.2 pi k' p b x' y' t' = some e
  | 0, k, e => by simp [lbL]
  | n + 1, k, e => by
    intro h
    simp only [lbL, List.mem_append] at h
    rcases h with h | h
    · cases hb : T.2.1[k]? with
      | none => rw [hb] at h; simp at h
      | some b =>
        rw [hb] at h
        obtain ⟨y', x', t', h1, h2, h3⟩ := lyL_mem _ _ e h
        exact ⟨k, b, y', x', t', hb, by omega, h3⟩
    · exact lbL_mem n (k + 1) e h
theorem lpL_mem {T : TB} : ∀ n k e, e ∈ lpL T n k → ∃ i p k' b y' x' t', T.2.2.1[i]? = some p ∧ T.2.1[k']? = some b ∧ y' < b.2.1 ∧ x' < b.1 ∧ t' < tmx p ∧ agn p t' t' 0 = false ∧ lay1 T.2.2.2 i k' p b x' y' t' = some e
  | 0, k, e => by simp [lpL]
  | n + 1, k, e => by
    intro h
    simp only [lpL, List.mem_append] at h
    rcases h with h | h
    · cases hp : T.2.2.1[k]? with
      | none => rw [hp] at h; simp at h
      | some p =>
        rw [hp] at h
        obtain ⟨k', b, y', x', t', h3⟩ := lbL_mem _ _ e h
        exact ⟨k, p, k', b, y', x', t', hp, h3⟩
    · exact lpL_mem n (k + 1) e h
theorem covR_le {p : PC} {f w x y t j : Nat} : ∀ n i a, a ≤ covR p f w x y t j n i a
  | 0, i, a => Nat.le_refl _
  | n + 1, i, a => by
    simp only [covR]
    refine Nat.le_trans ?_ (covR_le n (i + 1) _)
    split
    · exact Nat.left_le_or
    · exact Nat.le_refl _
theorem covA_le {p : PC} {f w x y t : Nat} : ∀ n j a, a ≤ covA p f w x y t n j a
  | 0, j, a => Nat.le_refl _
  | n + 1, j, a => by
    simp only [covA]
    exact Nat.le_trans (covR_le _ _ _) (covA_le n (j + 1) _)
theorem lay1_eq {j pi bi : Nat} {p : PC} {b : BD} {x y t : Nat} {e : LY} (h : lay1 j pi bi p b x y t = some e) : fits p b x y t = true ∧ cov p b x y t &&& j = 0 ∧ e = (pi, bi, x, y, t, cov p b x y t, an (besN (cov p b x y t) b.2.2.1 b.1 (b.1 * b.2.1) (b.1 * b.2.1) 0 0) (cov p b x y t)) := by
  unfold lay1 at h
  split at h
  · rename_i h1
    split at h
    · rename_i h2
      exact ⟨h1, h2, (Option.some.inj h).symm⟩
    · cases h
  · cases h
theorem cov_lt {T : TB} (hW : WFT T) {k : Nat} {b : BD} (hb : T.2.1[k]? = some b) {p : PC} {x y t : Nat} (h : fits p b x y t = true) : cov p b x y t < 2 ^ 14 := by
  obtain ⟨q1, q2⟩ := WFB.sq hW hb
  simp only [fits, Bool.and_eq_true, decide_eq_true_eq] at h
  exact covA_lt (H := b.2.1) (by omega) h.1 _ 0 0 (by omega) (by decide)
theorem covR_pos {p : PC} {f w x y t j i' : Nat} (hs : hS p t i' j = true) : ∀ n i a, i ≤ i' → i' < i + n → 0 < covR p f w x y t j n i a
  | 0, i, a => fun h1 h2 => by omega
  | n + 1, i, a => fun h1 h2 => by
    simp only [covR]
    by_cases e : i = i'
    · subst e
      rw [if_pos hs]
      exact Nat.lt_of_lt_of_le (Nat.lt_of_lt_of_le (Nat.two_pow_pos _) Nat.right_le_or) (covR_le n (i + 1) _)
    · exact covR_pos hs n (i + 1) _ (by omega) (by omega)
theorem cov_pos {T : TB} (hW : WFT T) {k : Nat} {p : PC} (hp : T.2.2.1[k]? = some p) (b : BD) (x y t : Nat) : 0 < cov p b x y t := by
  obtain ⟨hk, hk2, w1, w2, w3, w4, -⟩ := WFP.bd hW hp
  have hk3 := (hW.2.1.2 k p hp).1
  have hwo := wO_bd (t := t) (show 1 ≤ p.2.1 ∧ p.2.1 ≤ 4 ∧ 1 ≤ p.2.2.1 ∧ p.2.2.1 ≤ 4 from ⟨w1, w2, w3, w4⟩)
  obtain ⟨i', h1, h2⟩ : ∃ i', i' < wO p t ∧ hS p t i' 0 = true := by
    by_cases h0 : hS p t 0 0 = true
    · exact ⟨0, by omega, h0⟩
    · refine ⟨1, ?_, ?_⟩
      · unfold hS at h0
        split at h0
        · unfold wO
          split <;> omega
        · exact absurd rfl h0
      · unfold hS at h0 ⊢
        split at h0
        · rename_i h3
          rw [if_pos h3]
          simp only [Bool.not_eq_true', Bool.not_eq_false', Bool.and_eq_true, decide_eq_true_eq, Bool.not_eq_true, Bool.not_eq_false] at h0
          simp [← h0.1]
        · exact absurd rfl h0
  unfold cov
  obtain ⟨n, hn⟩ : ∃ n, hO p t = n + 1 := ⟨hO p t - 1, by omega⟩
  rw [hn]
  simp only [covA]
  exact Nat.lt_of_lt_of_le (covR_pos h2 _ 0 0 (Nat.zero_le _) (by omega)) (covA_le _ _ _)
theorem bes1_lt {sq f w h al c near : Nat} (hal : al = w * h) (hf : f + al ≤ 14) (hc : c < al) (hn : near < 2 ^ 14) : bes1 sq f w al c near < 2 ^ 14 := by
  have hz : (0 : Nat) < 2 ^ 14 := by decide
  have hp : ∀ k, k < 14 → 2 ^ k < 2 ^ 14 := fun k hk => Nat.pow_lt_pow_right (by decide) hk
  unfold bes1
  split
  · refine Nat.or_lt_two_pow (Nat.or_lt_two_pow (Nat.or_lt_two_pow (Nat.or_lt_two_pow hn ?_) ?_) ?_) ?_
    · split
      · exact hp _ (by omega)
      · exact hz
    · split
      · rename_i h2
        have h3 : c / w < h := Nat.div_lt_of_lt_mul (by omega)
        have h4 : w * (c / w + 1) ≤ w * h := Nat.mul_le_mul_left w (by omega)
        have h5 := Nat.div_add_mod c w
        rw [Nat.mul_add, Nat.mul_one] at h4
        exact hp _ (by omega)
      · exact hz
    · split
      · exact hp _ (by omega)
      · exact hz
    · split
      · exact hp _ (by omega)
      · exact hz
  · exact hn
theorem besN_lt {sq f w h al : Nat} (hal : al = w * h) (hf : f + al ≤ 14) : ∀ n c near, c + n ≤ al → near < 2 ^ 14 → besN sq f w al n c near < 2 ^ 14
  | 0, c, near => fun _ h => h
  | n + 1, c, near => fun h1 h2 => by
    simp only [besN]
    exact besN_lt hal hf n (c + 1) _ (by omega) (bes1_lt hal hf (by omega) h2)
theorem an_lt {a b : Nat} (h : a < 2 ^ 14) : an a b < 2 ^ 14 := Nat.xor_lt_two_pow h (Nat.lt_of_le_of_lt Nat.and_le_left h)
theorem allL_VL {T : TB} (hW : WFT T) : VL T (allL T) := by
  intro i e he
  obtain ⟨i, p, k', b, y', x', t', h1, h2, h3, h4, h5, h6, h7⟩ := lpL_mem _ _ e (List.mem_of_getElem? he)
  obtain ⟨g1, g2, rfl⟩ := lay1_eq h7
  obtain ⟨q1, q2⟩ := WFB.sq hW h2
  exact ⟨⟨p, h1⟩, ⟨b, h2⟩, cov_pos hW h1 b x' y' t', cov_lt hW h2 g1, an_lt (besN_lt rfl (by omega) _ 0 0 (by omega) (by decide))⟩
