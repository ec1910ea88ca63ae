/-! MAKING: the class's object, the model's -/
section MK11
variable {l : Launch} {G : GG} {d mc ms bc bs n t j m : Nat} {P R : Nat → Nat} {C D : Nat → CE} {σ0 σ σ' : Hp} {v0 q : Nat} {fs : List AV}
theorem mk_s (h : Rn n P C σ0 σ) (hv : P 0 = v0) (h0 : C 0 = .inl (t, fs)) {v : AV} {K : Hp → Prop} (hK : ∀ C' σ', Rn n P C' σ0 σ' → C' 0 = .inl (t, fs.set j v) → (∀ k, 0 < k → C' k = C k) → K σ') : pF σ v0 t j v K := by
  refine ⟨fs, by rw [h.v hv, h0], ?_⟩
  have h1 := h.set (k := 0) h.1 (.inl (t, fs.set j v))
  rw [hv] at h1
  exact hK _ _ h1 (up_eq ..) fun k hk => up_ne (by omega)
/-- an object with its own cells made, and told to the first cell -/
theorem Rn.sub (h : Rn n P C σ0 σ) (hv : P 0 = v0) (h0 : C 0 = .inl (t, fs)) (hq : σ q = none) {c : CE} (hR : Rn m R D (hset σ q c) σ') (hR0 : R 0 = q) {K : Hp → Prop} (hK : ∀ P' C' σ'', Rn (n + m) P' C' σ0 σ'' → P' 0 = v0 → Ex n P P' → (∀ k, k < m → P' (n + k) = R k) → C' 0 = .inl (t, fs.set j (aR (some (P' n)))) → (∀ k, 0 < k → k < n → C' k = C k) → (∀ k, k < m → C' (n + k) = D k) → K σ'') : pF σ' v0 t j (aR (some q)) K := by
  have hn := h.1
  have hm := hR.1
  have h1 := h.snoc hq c
  have h2 := h1.app hR (by rw [hR0, up_eq]) hn
  have e0 : (fun k => if k < n then up_ P n q k else R (k - n)) 0 = v0 := by dsimp only; rw [if_pos hn, up_ne (by omega)]; exact hv
  have en : (fun k => if k < n then up_ P n q k else R (k - n)) n = q := by dsimp only; rw [if_neg (by omega), Nat.sub_self]; exact hR0
  refine mk_s h2 e0 (fs := fs) (by rw [if_pos hn, up_ne (by omega)]; exact h0) fun C' σ'' g1 g2 g3 => ?_
  refine hK _ C' σ'' g1 e0 (fun k hk => by rw [if_pos hk, up_ne (by omega)]) (fun k hk => by rw [if_neg (by omega), Nat.add_sub_cancel_left]) ?_ (fun k h1 h2 => ?_) fun k hk => ?_
  · dsimp only at en; rw [en]; exact g2
  · rw [g3 k h1]; rw [if_pos h2, up_ne (by omega)]
  · rw [g3 _ (by omega)]; rw [if_neg (by omega), Nat.add_sub_cancel_left]
/-- a new object of the class -/
def INI (P : Nat → Nat) (C : Nat → CE) : Prop := C 0 = O11 (some (P 1)) 0 0 0 0 none (some (P 2)) (some (P 12)) (some (P 14)) (some (P 16)) (some (P 57)) (some (P 60)) ∧ C 1 = iA 900 (fun _ => 0) ∧ (C 2 = O3 none 0 (some (P 3)) (some (P 4)) (some (P 5)) (some (P 6)) (some (P 7)) (some (P 8)) (some (P 9)) (some (P 10)) (some (P 11)) ∧ C 3 = iA 2 (fun _ => 0) ∧ C 4 = zA 2 (fun _ => false) ∧ C 5 = iA 2 (fun _ => 0) ∧ C 6 = iA 2 (fun _ => 0) ∧ C 7 = iA 2 (fun _ => 0) ∧ C 8 = iA 2 (fun _ => 0) ∧ C 9 = jA 2 (fun _ => 0) ∧ C 10 = iA 1 (fun _ => 0) ∧ C 11 = iA 1 (fun _ => 0)) ∧
  (C 12 = O1 (some (P 13)) 0 0 0 ∧ C 13 = rA 3 14 (fun _ => none)) ∧ (C 14 = O1 (some (P 15)) 0 0 0 ∧ C 15 = rA 3 14 (fun _ => none)) ∧ (C 16 = O4 (some (P 17)) 0 0 (some (P 18)) 0 ∧ (∃ g, C 17 = rA 4 16 g ∧ ∀ i, i < 16 → g i = some (P (19 + 2 * i))) ∧ (∃ g, C 18 = rA 4 3 g ∧ ∀ i, i < 3 → g i = some (P (51 + 2 * i))) ∧ ∀ i, i < 19 → C (19 + 2 * i) = O1 (some (P (20 + 2 * i))) 0 0 0 ∧ C (20 + 2 * i) = rA 3 14 (fun _ => none)) ∧
  (C 57 = O6 (some (P 58)) ∧ C 58 = O1 (some (P 59)) 0 0 0 ∧ C 59 = rA 3 14 (fun _ => none)) ∧ (C 60 = O7 (some (P 61)) (some (P 72)) (some (P 73)) (some (P 74)) 0 ∧ (∃ g, C 61 = rA 5 10 g ∧ ∀ i, i < 10 → g i = some (P (62 + i))) ∧ (∀ i, i < 10 → C (62 + i) = iA 201 (fun _ => 0)) ∧ C 72 = zA 10 (fun _ => false) ∧ C 73 = iA 0 (fun _ => 0) ∧ C 74 = iA 256 (fun _ => 0))
theorem s_X11_init (h : σ v0 = some (O11 none 0 0 0 0 none none none none none none none)) (hmc : 80 ≤ mc) (hms : 4000 ≤ ms) {K : Hp → Prop} (hK : ∀ P C σ', P 0 = v0 → okB 75 P → RG P C σ' → INI P C → Kp (fun z => z = v0) σ σ' → (∀ k, 0 < k → k < 75 → σ (P k) = none) → K σ') : C_X11_init l G (d + 3) mc ms v0 σ K := by
  refine m_X11_init ?_
  simp only [F_X11_init]
  refine mk_I (Rn.one h) rfl rfl (j := 0) (N := 900) rfl (by decide) (by omega) (by omega) fun P1 C1 σ1 a1 b1 x1 c1 d1 e1 => ?_
  refine ⟨by omega, by omega, fun q2 hq2 => ⟨9, 16, by omega, by omega, ?_⟩⟩
  refine s_X3_init (d := d + 1) (s := 0) (hset_eq ..) (by decide) (by decide) (by decide) fun R2 D2 σ2 r2 s2 t2 u2 => ?_
  refine Rn.sub a1 b1 c1 hq2 r2 s2 (j := 6) fun P2 C2 σ2' a2 b2 x2 y2 c2 d2 e2 => ?_
  refine ⟨by omega, by omega, fun q3 hq3 => ⟨1, 14, by omega, by omega, ?_⟩⟩
  refine s_X1_init (d := d + 1) (hset_eq ..) (by decide) (by decide) fun R3 D3 σ3 r3 s3 t3 u3 => ?_
  refine Rn.sub a2 b2 c2 hq3 r3 s3 (j := 7) fun P3 C3 σ3' a3 b3 x3 y3 c3 d3 e3 => ?_
  refine ⟨by omega, by omega, fun q4 hq4 => ⟨1, 14, by omega, by omega, ?_⟩⟩
  refine s_X1_init (d := d + 1) (hset_eq ..) (by decide) (by decide) fun R4 D4 σ4 r4 s4 t4 u4 => ?_
  refine Rn.sub a3 b3 c3 hq4 r4 s4 (j := 8) fun P4 C4 σ4' a4 b4 x4 y4 c4 d4 e4 => ?_
  refine ⟨by omega, by omega, fun q5 hq5 => ⟨40, 361, by omega, by omega, ?_⟩⟩
  refine s_X4_init (d := d) (hset_eq ..) (by decide) (by decide) fun R5 D5 σ5 r5 s5 t5 u5 w5 v5 => ?_
  refine Rn.sub a4 b4 c4 hq5 r5 s5 (j := 9) fun P5 C5 σ5' a5 b5 x5 y5 c5 d5 e5 => ?_
  refine ⟨by omega, by omega, fun q6 hq6 => ⟨2, 18, by omega, by omega, ?_⟩⟩
  refine s_X6_init (d := d) (hset_eq ..) (by decide) (by decide) fun R6 D6 σ6 r6 s6 t6 u6 v6 => ?_
  refine Rn.sub a5 b5 c5 hq6 r6 s6 (j := 10) fun P6 C6 σ6' a6 b6 x6 y6 c6 d6 e6 => ?_
  refine ⟨by omega, by omega, fun q7 hq7 => ⟨14, 2286, by omega, by omega, ?_⟩⟩
  refine s_X7_init (d := d + 1) (hset_eq ..) (by decide) (by decide) fun R7 D7 σ7 r7 s7 t7 u7 w7 v7 v7' v7'' => ?_
  refine Rn.sub a6 b6 c6 hq7 r7 s7 (j := 11) fun P7 C7 σ7' a7 b7 x7 y7 c7 d7 e7 => ?_
  have z6 : Ex 60 P6 P7 := x7
  have z5 : Ex 57 P5 P7 := fun k hk => (z6 k (by omega)).trans (x6 k hk)
  have z4 : Ex 16 P4 P7 := fun k hk => (z5 k (by omega)).trans (x5 k hk)
  have z3 : Ex 14 P3 P7 := fun k hk => (z4 k (by omega)).trans (x4 k hk)
  have z2 : Ex 12 P2 P7 := fun k hk => (z3 k (by omega)).trans (x3 k hk)
  have z1 : Ex 2 P1 P7 := fun k hk => (z2 k (by omega)).trans (x2 k hk)
  have f2 : ∀ k, k < 10 → P7 (2 + k) = R2 k := fun k hk => (z2 _ (by omega)).trans (y2 k hk)
  have f3 : ∀ k, k < 2 → P7 (12 + k) = R3 k := fun k hk => (z3 _ (by omega)).trans (y3 k hk)
  have f4 : ∀ k, k < 2 → P7 (14 + k) = R4 k := fun k hk => (z4 _ (by omega)).trans (y4 k hk)
  have f5 : ∀ k, k < 41 → P7 (16 + k) = R5 k := fun k hk => (z5 _ (by omega)).trans (y5 k hk)
  have f6 : ∀ k, k < 3 → P7 (57 + k) = R6 k := fun k hk => (z6 _ (by omega)).trans (y6 k hk)
  have f7 : ∀ k, k < 15 → P7 (60 + k) = R7 k := fun k hk => y7 k hk
  have w6 : ∀ k, 0 < k → k < 60 → C7 k = C6 k := d7
  have w5' : ∀ k, 0 < k → k < 57 → C7 k = C5 k := fun k h1 h2 => (w6 k h1 (by omega)).trans (d6 k h1 h2)
  have w4 : ∀ k, 0 < k → k < 16 → C7 k = C4 k := fun k h1 h2 => (w5' k h1 (by omega)).trans (d5 k h1 h2)
  have w3 : ∀ k, 0 < k → k < 14 → C7 k = C3 k := fun k h1 h2 => (w4 k h1 (by omega)).trans (d4 k h1 h2)
  have w2 : ∀ k, 0 < k → k < 12 → C7 k = C2 k := fun k h1 h2 => (w3 k h1 (by omega)).trans (d3 k h1 h2)
  have w1 : ∀ k, 0 < k → k < 2 → C7 k = C1 k := fun k h1 h2 => (w2 k h1 (by omega)).trans (d2 k h1 h2)
  have g2 : ∀ k, k < 10 → C7 (2 + k) = D2 k := fun k hk => (w2 _ (by omega) (by omega)).trans (e2 k hk)
  have g3 : ∀ k, k < 2 → C7 (12 + k) = D3 k := fun k hk => (w3 _ (by omega) (by omega)).trans (e3 k hk)
  have g4 : ∀ k, k < 2 → C7 (14 + k) = D4 k := fun k hk => (w4 _ (by omega) (by omega)).trans (e4 k hk)
  have g5 : ∀ k, k < 41 → C7 (16 + k) = D5 k := fun k hk => (w5' _ (by omega) (by omega)).trans (e5 k hk)
  have g6 : ∀ k, k < 3 → C7 (57 + k) = D6 k := fun k hk => (w6 _ (by omega) (by omega)).trans (e6 k hk)
  have g7 : ∀ k, k < 15 → C7 (60 + k) = D7 k := fun k hk => e7 k hk
  refine hK P7 C7 σ7' b7 a7.2.1 a7.2.2.1 ⟨?_, ?_, ⟨?_, ?_, ?_, ?_, ?_, ?_, ?_, ?_, ?_, ?_⟩, ⟨?_, ?_⟩, ⟨?_, ?_⟩, ⟨?_, ?_, ?_, ?_⟩, ⟨?_, ?_, ?_⟩, ⟨?_, ?_, ?_, ?_, ?_, ?_⟩⟩ (by have := a7.2.2.2.2; rw [b7] at this; exact this) a7.2.2.2.1
  · rw [c7, ← z6 57 (by decide), ← z5 16 (by decide), ← z4 14 (by decide), ← z3 12 (by decide), ← z2 2 (by decide), ← z1 1 (by decide)]
    rfl
  · exact (w1 1 (by decide) (by decide)).trans e1
  · rw [g2 0 (by decide), t2, ← f2 1 (by decide), ← f2 2 (by decide), ← f2 3 (by decide), ← f2 4 (by decide), ← f2 5 (by decide), ← f2 6 (by decide), ← f2 7 (by decide), ← f2 8 (by decide), ← f2 9 (by decide)]
  · exact (g2 1 (by decide)).trans u2.1
  · exact (g2 2 (by decide)).trans u2.2.1
  · exact (g2 3 (by decide)).trans u2.2.2.1
  · exact (g2 4 (by decide)).trans u2.2.2.2.1
  · exact (g2 5 (by decide)).trans u2.2.2.2.2.1
  · exact (g2 6 (by decide)).trans u2.2.2.2.2.2.1
  · exact (g2 7 (by decide)).trans u2.2.2.2.2.2.2.1
  · exact (g2 8 (by decide)).trans u2.2.2.2.2.2.2.2.1
  · exact (g2 9 (by decide)).trans u2.2.2.2.2.2.2.2.2
  · rw [g3 0 (by decide), t3, ← f3 1 (by decide)]
  · exact (g3 1 (by decide)).trans u3
  · rw [g4 0 (by decide), t4, ← f4 1 (by decide)]
  · exact (g4 1 (by decide)).trans u4
  · rw [g5 0 (by decide), t5, ← f5 1 (by decide), ← f5 2 (by decide)]
  · obtain ⟨g, h1, h2⟩ := u5
    exact ⟨g, (g5 1 (by decide)).trans h1, fun i hi => by rw [h2 i hi, ← f5 _ (by omega)]; congr 2; omega⟩
  · obtain ⟨g, h1, h2⟩ := w5
    exact ⟨g, (g5 2 (by decide)).trans h1, fun i hi => by rw [h2 i hi, ← f5 _ (by omega)]; congr 2; omega⟩
  · intro i hi
    obtain ⟨h1, h2⟩ := v5 i hi
    rw [show 19 + 2 * i = 16 + (3 + 2 * i) by omega, show 20 + 2 * i = 16 + (4 + 2 * i) by omega, g5 _ (by omega), g5 _ (by omega), f5 _ (by omega)]
    exact ⟨h1, h2⟩
  · rw [g6 0 (by decide), t6, ← f6 1 (by decide)]
  · have := (g6 1 (by decide)).trans u6
    rw [← f6 2 (by decide)] at this
    exact this
  · exact (g6 2 (by decide)).trans v6
  · rw [g7 0 (by decide), t7, ← f7 1 (by decide), ← f7 12 (by decide), ← f7 13 (by decide), ← f7 14 (by decide)]
  · obtain ⟨g, h1, h2⟩ := u7
    exact ⟨g, (g7 1 (by decide)).trans h1, fun i hi => by rw [h2 i hi, ← f7 _ (by omega)]; congr 2; omega⟩
  · intro i hi
    rw [show 62 + i = 60 + (2 + i) by omega, g7 _ (by omega)]
    exact w7 i hi
  · exact (g7 12 (by decide)).trans v7
  · exact (g7 13 (by decide)).trans v7'
  · exact (g7 14 (by decide)).trans v7''
def ST0 : ST := (fun _ => 0, 0, 0, 0, 0, none, ([], 0), [], [])
theorem VZ_0 : VZ ST0 := ⟨fun _ => by show (0 : Nat) < 256; decide, Nat.zero_le _, by decide, Nat.zero_le _, by decide, Nat.zero_le _, Nat.zero_le _, rfl, rfl, rfl⟩
theorem INI.ci (h : INI P C) (hB : okB 75 P) {Mo : Nat → Prop} {τ : Hp} : CI ST0 0 Mo P τ C := by
  obtain ⟨h0, h1, ⟨o0, o1, o2, o3, o4, o5, o6, o7, o8, o9⟩, ⟨l1, l2⟩, ⟨l3, l4⟩, ⟨p1, p2, p3, p4⟩, ⟨y1, y2, y3⟩, ⟨r1, r2, r3, r4, r5, r6⟩⟩ := h
  refine ⟨fun _ => False, (0, 0, 0, 0, fun _ => 0, fun _ => 0, fun _ => 0), hB, (fun q hq => hq.elim), ⟨0, h0, fun e => by cases e⟩, ⟨⟨_, h1, fun j hj => by cases hj⟩, ⟨l1, ⟨_, l2, fun i n hi => by simp [ST0] at hi⟩, Nat.zero_le _⟩, ⟨⟨_, _, _, l3⟩, _, l4⟩, ?_, ⟨y1, ⟨_, _, _, y2⟩, _, y3⟩, ?_⟩, ?_, fun T hT => by cases hT⟩
  · obtain ⟨g, g1, g2⟩ := p2
    obtain ⟨g', g3, g4⟩ := p3
    have hl : ∀ i, i < 19 → LDs P C (19 + 2 * i) := fun i hi => by
      obtain ⟨a, b⟩ := p4 i hi
      rw [show 20 + 2 * i = 19 + 2 * i + 1 by omega] at a b
      exact ⟨⟨_, _, _, a⟩, _, b⟩
    exact ⟨0, g, g', by decide, p1, ⟨g1, g2⟩, ⟨g3, g4⟩, fun i hi => hl i (by omega), fun i hi => (by have := hl (16 + i) (by omega); rw [show 19 + 2 * (16 + i) = 51 + 2 * i by omega] at this; exact this), fun j u hj => absurd (show ([] : List RO)[j]? = some u from hj) (by simp), fun j u hj => absurd (show ([] : List RO)[j]? = some u from hj) (by simp), Nat.zero_le _, Nat.zero_le _⟩
  · obtain ⟨g, g1, g2⟩ := r2
    exact ⟨g, fun _ => false, fun _ => 0, 0, r1, ⟨g1, g2⟩, r4, ⟨_, r5⟩, r6, fun j hj => ⟨0, Nat.le_refl _, rfl⟩, by decide, fun k hk => ⟨_, r3 k hk, fun e => by cases e⟩⟩
  · refine ⟨none, 0, 0, (fun _ => 0, fun _ => false, fun _ => 0, fun _ => 0, fun _ => 0, fun _ => 0, fun _ => 0, fun _ => 0, fun _ => 0), by decide, by decide, by decide, fun j hj => ⟨0, Nat.le_refl _, rfl⟩, fun j hj => ⟨0, Nat.le_refl _, rfl⟩, fun k hk1 hk2 => ?_⟩
    obtain rfl | rfl | rfl | rfl | rfl | rfl | rfl | rfl | rfl | rfl : k = 2 ∨ k = 3 ∨ k = 4 ∨ k = 5 ∨ k = 6 ∨ k = 7 ∨ k = 8 ∨ k = 9 ∨ k = 10 ∨ k = 11 := by omega
    · exact o0
    · exact o1
    · exact o2
    · exact o3
    · exact o4
    · exact o5
    · exact o6
    · exact o7
    · exact o8
    · exact o9
end MK11
