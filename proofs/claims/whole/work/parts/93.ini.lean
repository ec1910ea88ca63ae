/-! MAKING: a region that grows -/
/-- n cells, those behind the first one new since σ0 -/
def Rn (n : Nat) (P : Nat → Nat) (C : Nat → CE) (σ0 σ : Hp) : Prop := 0 < n ∧ okB n P ∧ (∀ k, k < n → σ (P k) = some (C k)) ∧ (∀ k, 0 < k → k < n → σ0 (P k) = none) ∧ Kp (fun z => z = P 0) σ0 σ
def Ex (n : Nat) (P P' : Nat → Nat) : Prop := ∀ k, k < n → P' k = P k
section RN
variable {n m : Nat} {P R : Nat → Nat} {C D : Nat → CE} {σ0 σ σ' : Hp} {q v0 : Nat}
theorem Rn.one {c : CE} (h : σ v0 = some c) : Rn 1 (fun _ => v0) (fun _ => c) σ σ := ⟨by decide, fun j k hj hk _ => by omega, fun k hk => h, fun k h1 h2 => by omega, Kp.rf⟩
theorem Rn.snoc (h : Rn n P C σ0 σ) (hq : σ q = none) (c : CE) : Rn (n + 1) (up_ P n q) (up_ C n c) σ0 (hset σ q c) := by
  obtain ⟨h0, h1, h2, h3, h4⟩ := h
  have hne : ∀ k, k < n → P k ≠ q := fun k hk e => by
    have := h2 k hk
    rw [e, hq] at this
    cases this
  refine ⟨by omega, h1.snoc hne, fun k hk => ?_, fun k hk1 hk2 => ?_, ?_⟩
  · by_cases e : k = n
    · subst e; rw [up_eq, up_eq, hset_eq]
    · rw [up_ne e, up_ne e, hset_ne (hne k (by omega)), h2 k (by omega)]
  · by_cases e : k = n
    · subst e; rw [up_eq]; exact h4.fr hq
    · rw [up_ne e]; exact h3 k hk1 (by omega)
  · rw [up_ne (show 0 ≠ n by omega)]
    exact h4.sset fun hc => absurd (h4.fr hq) hc
theorem Rn.set (h : Rn n P C σ0 σ) {k : Nat} (hk : k < n) (c : CE) : Rn n P (up_ C k c) σ0 (hset σ (P k) c) := by
  obtain ⟨h0, h1, h2, h3, h4⟩ := h
  refine ⟨h0, h1, fun j hj => ?_, h3, h4.sset fun hc => ?_⟩
  · by_cases e : j = k
    · subst e; rw [up_eq, hset_eq]
    · rw [up_ne e, hset_ne fun e2 => e (h1 j k hj hk e2), h2 j hj]
  · by_cases e : k = 0
    · rw [e]
    · exact absurd (h3 k (by omega) hk) hc
theorem Rn.app (h : Rn (n + 1) P C σ0 σ) (h' : Rn m R D σ σ') (hR : R 0 = P n) (hn : 0 < n) : Rn (n + m) (fun k => if k < n then P k else R (k - n)) (fun k => if k < n then C k else D (k - n)) σ0 σ' := by
  obtain ⟨h0, h1, h2, h3, h4⟩ := h
  obtain ⟨g0, g1, g2, g3, g4⟩ := h'
  have hx : ∀ j k, j < n → k < m → P j ≠ R k := fun j k hj hk e => by
    by_cases e0 : k = 0
    · subst e0
      rw [hR] at e
      have := h1 j n (by omega) (by omega) e
      omega
    · have e1 := g3 k (by omega) hk
      rw [← e, h2 j (by omega)] at e1
      cases e1
  refine ⟨by omega, fun j k hj hk e => ?_, fun k hk => ?_, fun k hk1 hk2 => ?_, ?_⟩
  · dsimp only at e
    by_cases e1 : j < n <;> by_cases e2 : k < n
    · rw [if_pos e1, if_pos e2] at e
      exact h1 j k (by omega) (by omega) e
    · rw [if_pos e1, if_neg e2] at e
      exact absurd e (hx j (k - n) e1 (by omega))
    · rw [if_neg e1, if_pos e2] at e
      exact absurd e.symm (hx k (j - n) e2 (by omega))
    · rw [if_neg e1, if_neg e2] at e
      have := g1 (j - n) (k - n) (by omega) (by omega) e
      omega
  · dsimp only
    by_cases e1 : k < n
    · rw [if_pos e1, if_pos e1]
      exact g4.at (h2 k (by omega)) fun e => hx k 0 e1 g0 e
    · rw [if_neg e1, if_neg e1]
      exact g2 (k - n) (by omega)
  · dsimp only
    by_cases e1 : k < n
    · rw [if_pos e1]; exact h3 k hk1 (by omega)
    · rw [if_neg e1]
      by_cases e0 : k - n = 0
      · rw [e0, hR]; exact h3 n (by omega) (by omega)
      · exact h4.fr (g3 (k - n) (by omega) (by omega))
  · dsimp only
    rw [if_pos hn]
    refine h4.tr2 g4 fun z hz e => ?_
    rw [e, hR] at hz
    exact absurd (h3 n (by omega) (by omega)) hz
end RN
section MK
variable {l : Launch} {G : GG} {d mc ms bc bs n t j N : Nat} {P : Nat → Nat} {C : Nat → CE} {σ0 σ : Hp} {v0 : Nat} {fs : List AV}
theorem Rn.v (h : Rn n P C σ0 σ) (hv : P 0 = v0) : σ v0 = some (C 0) := by rw [← hv]; exact h.2.2.1 0 h.1
/-- an array made, and told to the first cell -/
theorem mk_x (h : Rn n P C σ0 σ) (hv : P 0 = v0) (h0 : C 0 = .inl (t, fs)) {c : CE} {K : Nat → Hp → Prop} (hK : ∀ P' C' σ', Rn (n + 1) P' C' σ0 σ' → P' 0 = v0 → Ex n P P' → C' 0 = .inl (t, fs.set j (aR (some (P' n)))) → (∀ k, 0 < k → k < n → C' k = C k) → C' n = c → K (P' n) σ') : ∀ q, σ q = none → pF (hset σ q c) v0 t j (aR (some q)) (K q) := by
  intro q hq
  have hv0 := h.v hv
  have hn := h.1
  have h1 := h.snoc hq c
  have e0 : (up_ P n q) 0 = v0 := by rw [up_ne (show 0 ≠ n by omega)]; exact hv
  have h2 := h1.set (k := 0) (by omega) (.inl (t, fs.set j (aR (some q))))
  rw [e0] at h2
  have hc : hset σ q c v0 = some (.inl (t, fs)) := by
    rw [← h0]; exact hs_new hv0 hq
  refine ⟨fs, hc, ?_⟩
  have h3 := hK _ _ _ h2 e0 (fun k hk => up_ne (by omega)) (by rw [up_eq, up_eq]) (fun k a b => by rw [up_ne (show k ≠ 0 by omega), up_ne (show k ≠ n by omega)]) (by rw [up_ne (show n ≠ 0 by omega), up_eq])
  rw [up_eq] at h3
  exact h3
theorem mk_I (h : Rn n P C σ0 σ) (hv : P 0 = v0) (h0 : C 0 = .inl (t, fs)) {a : Int32} (ha : a = nI N) (hN : N ≤ 60000000) (hbc : 1 ≤ bc) (hbs : N ≤ bs) {K : Nat → Nat → Hp → Prop} (hK : ∀ P' C' σ', Rn (n + 1) P' C' σ0 σ' → P' 0 = v0 → Ex n P P' → C' 0 = .inl (t, fs.set j (aR (some (P' n)))) → (∀ k, 0 < k → k < n → C' k = C k) → C' n = iA N (fun _ => 0) → K N (P' n) σ') : nI_ σ a bc bs fun N' q σ2 => pF σ2 v0 t j (aR (some q)) (K N' q) :=
  ⟨N, ha, hN, hbc, hbs, fun q hq => mk_x h hv h0 (K := K N) hK q hq⟩
theorem mk_Z (h : Rn n P C σ0 σ) (hv : P 0 = v0) (h0 : C 0 = .inl (t, fs)) {a : Int32} (ha : a = nI N) (hN : N ≤ 60000000) (hbc : 1 ≤ bc) (hbs : N ≤ bs) {K : Nat → Nat → Hp → Prop} (hK : ∀ P' C' σ', Rn (n + 1) P' C' σ0 σ' → P' 0 = v0 → Ex n P P' → C' 0 = .inl (t, fs.set j (aR (some (P' n)))) → (∀ k, 0 < k → k < n → C' k = C k) → C' n = zA N (fun _ => false) → K N (P' n) σ') : nZ_ σ a bc bs fun N' q σ2 => pF σ2 v0 t j (aR (some q)) (K N' q) :=
  ⟨N, ha, hN, hbc, hbs, fun q hq => mk_x h hv h0 (K := K N) hK q hq⟩
theorem mk_J (h : Rn n P C σ0 σ) (hv : P 0 = v0) (h0 : C 0 = .inl (t, fs)) {a : Int32} (ha : a = nI N) (hN : N ≤ 60000000) (hbc : 1 ≤ bc) (hbs : N ≤ bs) {K : Nat → Nat → Hp → Prop} (hK : ∀ P' C' σ', Rn (n + 1) P' C' σ0 σ' → P' 0 = v0 → Ex n P P' → C' 0 = .inl (t, fs.set j (aR (some (P' n)))) → (∀ k, 0 < k → k < n → C' k = C k) → C' n = jA N (fun _ => 0) → K N (P' n) σ') : nJ_ σ a bc bs fun N' q σ2 => pF σ2 v0 t j (aR (some q)) (K N' q) :=
  ⟨N, ha, hN, hbc, hbs, fun q hq => mk_x h hv h0 (K := K N) hK q hq⟩
theorem mk_A {u : Nat} (h : Rn n P C σ0 σ) (hv : P 0 = v0) (h0 : C 0 = .inl (t, fs)) {a : Int32} (ha : a = nI N) (hN : N ≤ 60000000) (hbc : 1 ≤ bc) (hbs : N ≤ bs) {K : Nat → Nat → Hp → Prop} (hK : ∀ P' C' σ', Rn (n + 1) P' C' σ0 σ' → P' 0 = v0 → Ex n P P' → C' 0 = .inl (t, fs.set j (aR (some (P' n)))) → (∀ k, 0 < k → k < n → C' k = C k) → C' n = rA u N (fun _ => none) → K N (P' n) σ') : nA_ u σ a bc bs fun N' q σ2 => pF σ2 v0 t j (aR (some q)) (K N' q) :=
  ⟨N, ha, hN, hbc, hbs, fun q hq => mk_x h hv h0 (K := K N) hK q hq⟩
theorem s_X1_init (h : σ v0 = some (O1 none 0 0 0)) (hmc : 1 ≤ mc) (hms : 14 ≤ ms) {K : Hp → Prop} (hK : ∀ R D σ', Rn 2 R D σ σ' → R 0 = v0 → D 0 = O1 (some (R 1)) 0 0 0 → D 1 = rA 3 14 (fun _ => none) → K σ') : C_X1_init l G (d + 1) mc ms v0 σ K := by
  refine m_X1_init ?_
  simp only [F_X1_init]
  exact mk_A (Rn.one h) rfl rfl (N := 14) rfl (by decide) hmc hms fun P' C' σ' h1 h2 h3 h4 h5 h6 => hK P' C' σ' h1 h2 h4 h6
theorem s_X6_init (h : σ v0 = some (O6 none)) (hmc : 2 ≤ mc) (hms : 18 ≤ ms) {K : Hp → Prop} (hK : ∀ R D σ', Rn 3 R D σ σ' → R 0 = v0 → D 0 = O6 (some (R 1)) → D 1 = O1 (some (R 2)) 0 0 0 → D 2 = rA 3 14 (fun _ => none) → K σ') : C_X6_init l G (d + 2) mc ms v0 σ K := by
  refine m_X6_init ?_
  simp only [F_X6_init]
  refine ⟨by omega, by omega, fun q hq => ⟨mc - 1, ms - 4, Nat.le_refl _, Nat.le_refl _, ?_⟩⟩
  have h1 := (Rn.one h).snoc hq (O1 none 0 0 0)
  refine s_X1_init (d := d) (hset_eq ..) (by omega) (by omega) fun R D σ' g1 g2 g3 g4 => ?_
  have h2 := h1.app (n := 1) g1 (by rw [g2, up_eq]) (by decide)
  have h3 := h2.set (k := 0) (by decide) (O6 (some (R 0)))
  have hc := h2.2.2.1 0 (by decide)
  simp only [Nat.zero_lt_one, if_true, up_ne (show (0 : Nat) ≠ 1 by decide)] at hc h3
  rw [pF_at hc]
  simp only [rR6_0, rN6_0, rP6_0]
  rw [← g2]
  refine hK _ _ _ h3 ?_ ?_ ?_ ?_
  · simp [up_]
  · simp [up_]
  · simp [up_, g3]
  · simp [up_, g4]
theorem s_X3_init (h : σ v0 = some (O3 none 0 none none none none none none none none none)) {s : Nat} (hs : s ≤ 14) (hmc : 9 ≤ mc) (hms : 16 * 2 ^ s ≤ ms) {K : Hp → Prop} (hK : ∀ R D σ', Rn 10 R D σ σ' → R 0 = v0 → D 0 = O3 none 0 (some (R 1)) (some (R 2)) (some (R 3)) (some (R 4)) (some (R 5)) (some (R 6)) (some (R 7)) (some (R 8)) (some (R 9)) → (D 1 = iA (2 * 2 ^ s) (fun _ => 0) ∧ D 2 = zA (2 * 2 ^ s) (fun _ => false) ∧ D 3 = iA (2 * 2 ^ s) (fun _ => 0) ∧ D 4 = iA (2 * 2 ^ s) (fun _ => 0) ∧ D 5 = iA (2 * 2 ^ s) (fun _ => 0) ∧ D 6 = iA (2 * 2 ^ s) (fun _ => 0) ∧ D 7 = jA (2 * 2 ^ s) (fun _ => 0) ∧ D 8 = iA (2 ^ s) (fun _ => 0) ∧ D 9 = iA (2 ^ s) (fun _ => 0)) → K σ') : C_X3_init l G (d + 1) mc ms v0 (nI s) σ K := by
  have hp : 2 ^ s ≤ 16384 := Nat.pow_le_pow_right (by decide) hs
  refine m_X3_init ?_
  simp only [F_X3_init]
  rw [show (14 : Int32) = nI 14 from rfl, nt_lt (by decide) (by omega)]
  refine ⟨fun hc => absurd hc (nt_neg (by omega)), fun _ => ⟨fun hc => by omega, fun _ => ?_⟩⟩
  rw [nt_one (by omega)]
  have e0 : (2 : Int32) * nI (2 ^ s) = nI (2 * 2 ^ s) := nt_mul 2 _
  simp only [F_X3_init_21, e0]
  clear e0
  generalize 2 ^ s = m at hp hms hK ⊢
  refine mk_I (Rn.one h) rfl rfl (N := 2 * m) rfl (by omega) (by omega) (by omega) fun P1 C1 σ1 a1 b1 x1 c1 d1 e1 => ?_
  refine mk_Z a1 b1 c1 (N := 2 * m) rfl (by omega) (by omega) (by omega) fun P2 C2 σ2 a2 b2 x2 c2 d2 e2 => ?_
  refine mk_I a2 b2 c2 (N := 2 * m) rfl (by omega) (by omega) (by omega) fun P3 C3 σ3 a3 b3 x3 c3 d3 e3 => ?_
  refine mk_I a3 b3 c3 (N := 2 * m) rfl (by omega) (by omega) (by omega) fun P4 C4 σ4 a4 b4 x4 c4 d4 e4 => ?_
  refine mk_I a4 b4 c4 (N := 2 * m) rfl (by omega) (by omega) (by omega) fun P5 C5 σ5 a5 b5 x5 c5 d5 e5 => ?_
  refine mk_I a5 b5 c5 (N := 2 * m) rfl (by omega) (by omega) (by omega) fun P6 C6 σ6 a6 b6 x6 c6 d6 e6 => ?_
  refine mk_J a6 b6 c6 (N := 2 * m) rfl (by omega) (by omega) (by omega) fun P7 C7 σ7 a7 b7 x7 c7 d7 e7 => ?_
  refine mk_I a7 b7 c7 (N := m) rfl (by omega) (by omega) (by omega) fun P8 C8 σ8 a8 b8 x8 c8 d8 e8 => ?_
  refine mk_I a8 b8 c8 (N := m) rfl (by omega) (by omega) (by omega) fun P9 C9 σ9 a9 b9 x9 c9 d9 e9 => ?_
  have y8 : Ex 9 P8 P9 := x9
  have y7 : Ex 8 P7 P9 := fun k hk => (y8 k (by omega)).trans (x8 k hk)
  have y6 : Ex 7 P6 P9 := fun k hk => (y7 k (by omega)).trans (x7 k hk)
  have y5 : Ex 6 P5 P9 := fun k hk => (y6 k (by omega)).trans (x6 k hk)
  have y4 : Ex 5 P4 P9 := fun k hk => (y5 k (by omega)).trans (x5 k hk)
  have y3 : Ex 4 P3 P9 := fun k hk => (y4 k (by omega)).trans (x4 k hk)
  have y2 : Ex 3 P2 P9 := fun k hk => (y3 k (by omega)).trans (x3 k hk)
  have y1 : Ex 2 P1 P9 := fun k hk => (y2 k (by omega)).trans (x2 k hk)
  refine hK P9 C9 σ9 a9 b9 ?_ ⟨?_, ?_, ?_, ?_, ?_, ?_, ?_, ?_, e9⟩
  · rw [c9, y1 1 (by decide), y2 2 (by decide), y3 3 (by decide), y4 4 (by decide), y5 5 (by decide), y6 6 (by decide), y7 7 (by decide), y8 8 (by decide)]
    rfl
  · rw [d9 1 (by decide) (by decide), d8 1 (by decide) (by decide), d7 1 (by decide) (by decide), d6 1 (by decide) (by decide), d5 1 (by decide) (by decide), d4 1 (by decide) (by decide), d3 1 (by decide) (by decide), d2 1 (by decide) (by decide), e1]
  · rw [d9 2 (by decide) (by decide), d8 2 (by decide) (by decide), d7 2 (by decide) (by decide), d6 2 (by decide) (by decide), d5 2 (by decide) (by decide), d4 2 (by decide) (by decide), d3 2 (by decide) (by decide), e2]
  · rw [d9 3 (by decide) (by decide), d8 3 (by decide) (by decide), d7 3 (by decide) (by decide), d6 3 (by decide) (by decide), d5 3 (by decide) (by decide), d4 3 (by decide) (by decide), e3]
  · rw [d9 4 (by decide) (by decide), d8 4 (by decide) (by decide), d7 4 (by decide) (by decide), d6 4 (by decide) (by decide), d5 4 (by decide) (by decide), e4]
  · rw [d9 5 (by decide) (by decide), d8 5 (by decide) (by decide), d7 5 (by decide) (by decide), d6 5 (by decide) (by decide), e5]
  · rw [d9 6 (by decide) (by decide), d8 6 (by decide) (by decide), d7 6 (by decide) (by decide), e6]
  · rw [d9 7 (by decide) (by decide), d8 7 (by decide) (by decide), e7]
  · rw [d9 8 (by decide) (by decide), e8]
end MK
