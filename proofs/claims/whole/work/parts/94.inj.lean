/-! MAKING: Past, Rows, the reading's own objects -/
section MK4
variable {l : Launch} {G : GG} {d mc ms bc bs n m : Nat} {P : Nat → Nat} {C : Nat → CE} {σ0 σ : Hp} {v0 : Nat}
/-- a Laid made behind the region -/
theorem mk_L (h : Rn n P C σ0 σ) (hbc : 2 ≤ bc) (hbs : 18 ≤ bs) {K : Nat → Nat → Nat → Hp → Prop} (hK : ∀ P' C' σ', Rn (n + 2) P' C' σ0 σ' → Ex n P P' → (∀ k, k < n → C' k = C k) → C' n = O1 (some (P' (n + 1))) 0 0 0 → C' (n + 1) = rA 3 14 (fun _ => none) → K 1 14 (P' n) σ') : nO σ 1 [aR none, aI 0, aI 0, aI 0] 4 bc bs fun q σ16 => ∃ mz sz, mz ≤ (bc - 1) ∧ sz ≤ (bs - 4) ∧ C_X1_init l G (d + 1) mz sz q σ16 fun σ17 => K mz sz q σ17 := by
  refine ⟨by omega, by omega, fun q hq => ⟨1, 14, by omega, by omega, ?_⟩⟩
  have h1 := h.snoc hq (O1 none 0 0 0)
  have hn := h.1
  refine s_X1_init (d := d) (hset_eq ..) (Nat.le_refl _) (Nat.le_refl _) fun R D σ' g1 g2 g3 g4 => ?_
  have h2 := h1.app g1 (by rw [g2, up_eq]) hn
  have h3 := hK _ _ _ h2 (fun k hk => by rw [if_pos hk, up_ne (by omega)]) (fun k hk => by rw [if_pos hk, up_ne (by omega)]) (by simp [g3, show ¬ (n + 1 < n) by omega]) (by simp [g4, show ¬ (n + 1 < n) by omega])
  simp only [Nat.lt_irrefl, if_false, Nat.sub_self, g2] at h3
  exact h3
theorem s_X4_init (h : σ v0 = some (O4 none 0 0 none 0)) (hmc : 40 ≤ mc) (hms : 361 ≤ ms) {K : Hp → Prop} (hK : ∀ R D σ', Rn 41 R D σ σ' → R 0 = v0 → D 0 = O4 (some (R 1)) 0 0 (some (R 2)) 0 → (∃ g, D 1 = rA 4 16 g ∧ ∀ i, i < 16 → g i = some (R (3 + 2 * i))) → (∃ g, D 2 = rA 4 3 g ∧ ∀ i, i < 3 → g i = some (R (35 + 2 * i))) → (∀ i, i < 19 → D (3 + 2 * i) = O1 (some (R (4 + 2 * i))) 0 0 0 ∧ D (4 + 2 * i) = rA 3 14 (fun _ => none)) → K σ') : C_X4_init l G (d + 2) mc ms v0 σ K := by
  refine m_X4_init ?_
  simp only [F_X4_init]
  refine mk_A (u := 4) (Rn.one h) rfl rfl (N := 16) rfl (by decide) (by omega) (by omega) fun P1 C1 σ1 a1 b1 x1 c1 d1 e1 => ?_
  refine mk_A (u := 4) a1 b1 c1 (N := 3) rfl (by decide) (by omega) (by omega) fun P2 C2 σ2 a2 b2 x2 c2 d2 e2 => ?_
  have hz53 : ∀ r i P C σ' bc bs g g', i + r = 3 → Rn (35 + 2 * i) P C σ σ' → P 0 = v0 → C 0 = O4 (some (P 1)) 0 0 (some (P 2)) 0 → (C 1 = rA 4 16 g ∧ ∀ k, k < 16 → g k = some (P (3 + 2 * k))) → (C 2 = rA 4 3 g' ∧ ∀ k, k < i → g' k = some (P (35 + 2 * k))) → (∀ k, k < 16 + i → C (3 + 2 * k) = O1 (some (P (4 + 2 * k))) 0 0 0 ∧ C (4 + 2 * k) = rA 3 14 (fun _ => none)) → 2 * r ≤ bc → 18 * r ≤ bs → Z_X4_init_53 l G (d + 1) K (r + 1) v0 (nI i) σ' bc bs := by
    intro r
    induction r with
    | zero =>
      intro i P C σ' bc bs g g' hi hR hv h0 h1 h2 h3 hb1 hb2
      obtain rfl : i = 3 := by omega
      have hc0 := hR.v hv
      rw [h0] at hc0
      have hc2 := hR.2.2.1 2 (by omega)
      rw [h2.1] at hc2
      simp only [Z_X4_init_53, F_X4_init_53, fI_at (hc0), fZ_at (hc0), fJ_at (hc0), fR_at (hc0), fN_at (hc0), pF_at (hc0), rR4_0, rN4_0, rP4_0, rI4_1, rP4_1, rI4_2, rP4_2, rR4_3, rN4_3, rP4_3, rI4_4, rP4_4, aL_r hc2]
      exact ⟨fun _ => hK P C σ' hR hv h0 ⟨g, h1⟩ ⟨g', h2⟩ h3, fun hc => absurd (by decide) hc⟩
    | succ r ih =>
      intro i P C σ' bc bs g g' hi hR hv h0 h1 h2 h3 hb1 hb2
      have hc0 := hR.v hv
      rw [h0] at hc0
      have hc2 := hR.2.2.1 2 (by omega)
      rw [h2.1] at hc2
      rw [show r + 1 + 1 = (r + 1) + 1 from rfl, Z_X4_init_53]
      simp only [F_X4_init_53, fI_at (hc0), fZ_at (hc0), fJ_at (hc0), fR_at (hc0), fN_at (hc0), pF_at (hc0), rR4_0, rN4_0, rP4_0, rI4_1, rP4_1, rI4_2, rP4_2, rR4_3, rN4_3, rP4_3, rI4_4, rP4_4, aL_r hc2, show nI i + 1 = nI (i + 1) from nt_add i 1]
      rw [nt_le (by decide) (by omega)]
      refine ⟨fun hc => by omega, fun _ => mk_L (d := d) hR (by omega) (by omega) fun P' C' σ3 g1 g2 g3 g4 g5 => ?_⟩
      have hP0 := (g2 0 (by omega)).trans hv
      have hc2' := g1.2.2.1 2 (by omega)
      rw [g3 2 (by omega), h2.1] at hc2'
      have hcn := g1.2.2.1 (35 + 2 * i) (by omega)
      rw [g4] at hcn
      rw [← g2 2 (by omega), sN_at hc2', nI_clamp (show i < 2 ^ 31 by omega)]
      refine ⟨rv_at hcn ⟨_, rfl⟩, (nt_in (by omega)).mpr (by omega), ?_⟩
      have g6 := g1.set (k := 2) (by omega) (rA 4 3 (up_ g' i (some (P' (35 + 2 * i)))))
      refine ih (i + 1) P' _ _ _ _ g _ (by omega) g6 hP0 ?_ ⟨?_, fun k hk => ?_⟩ ⟨up_eq .., fun k hk => ?_⟩ (fun k hk => ?_) (by omega) (by omega)
      · rw [up_ne (by decide), g3 0 (by omega), h0, g2 1 (by omega), g2 2 (by omega)]
      · rw [up_ne (by decide), g3 1 (by omega)]; exact h1.1
      · rw [h1.2 k hk, g2 _ (by omega)]
      · by_cases e : k = i
        · subst e; rw [up_eq]
        · rw [up_ne e, h2.2 k (by omega), g2 _ (by omega)]
      · by_cases e : k = 16 + i
        · subst e
          rw [up_ne (by omega), up_ne (by omega), show 3 + 2 * (16 + i) = 35 + 2 * i by omega, show 4 + 2 * (16 + i) = 35 + 2 * i + 1 by omega]
          exact ⟨g4, g5⟩
        · have := h3 k (by omega)
          rw [up_ne (by omega), up_ne (by omega), g3 _ (by omega), g3 _ (by omega), g2 _ (by omega)]
          exact this
  have hz23 : ∀ r i P C σ' bc bs g g', i + r = 16 → Rn (3 + 2 * i) P C σ σ' → P 0 = v0 → C 0 = O4 (some (P 1)) 0 0 (some (P 2)) 0 → (C 1 = rA 4 16 g ∧ ∀ k, k < i → g k = some (P (3 + 2 * k))) → C 2 = rA 4 3 g' → (∀ k, k < i → C (3 + 2 * k) = O1 (some (P (4 + 2 * k))) 0 0 0 ∧ C (4 + 2 * k) = rA 3 14 (fun _ => none)) → 2 * r + 6 ≤ bc → 18 * r + 54 ≤ bs → Z_X4_init_23 l G (d + 1) K (r + 1) v0 (nI i) σ' bc bs := by
    intro r
    induction r with
    | zero =>
      intro i P C σ' bc bs g g' hi hR hv h0 h1 h2 h3 hb1 hb2
      obtain rfl : i = 16 := by omega
      have hc0 := hR.v hv
      rw [h0] at hc0
      have hc1 := hR.2.2.1 1 (by omega)
      rw [h1.1] at hc1
      simp only [Z_X4_init_23, F_X4_init_23, fI_at (hc0), fZ_at (hc0), fJ_at (hc0), fR_at (hc0), fN_at (hc0), pF_at (hc0), rR4_0, rN4_0, rP4_0, rI4_1, rP4_1, rI4_2, rP4_2, rR4_3, rN4_3, rP4_3, rI4_4, rP4_4, aL_r hc1]
      exact ⟨fun _ => ⟨_, hz53 3 0 P C σ' bc bs g g' rfl hR hv h0 h1 ⟨h2, fun k hk => by omega⟩ h3 (by omega) (by omega)⟩, fun hc => absurd (by decide) hc⟩
    | succ r ih =>
      intro i P C σ' bc bs g g' hi hR hv h0 h1 h2 h3 hb1 hb2
      have hc0 := hR.v hv
      rw [h0] at hc0
      have hc1 := hR.2.2.1 1 (by omega)
      rw [h1.1] at hc1
      rw [show r + 1 + 1 = (r + 1) + 1 from rfl, Z_X4_init_23]
      simp only [F_X4_init_23, fI_at (hc0), fZ_at (hc0), fJ_at (hc0), fR_at (hc0), fN_at (hc0), pF_at (hc0), rR4_0, rN4_0, rP4_0, rI4_1, rP4_1, rI4_2, rP4_2, rR4_3, rN4_3, rP4_3, rI4_4, rP4_4, aL_r hc1, show nI i + 1 = nI (i + 1) from nt_add i 1]
      rw [nt_le (by decide) (by omega)]
      refine ⟨fun hc => by omega, fun _ => mk_L (d := d) hR (by omega) (by omega) fun P' C' σ3 g1 g2 g3 g4 g5 => ?_⟩
      have hP0 := (g2 0 (by omega)).trans hv
      have hc1' := g1.2.2.1 1 (by omega)
      rw [g3 1 (by omega), h1.1] at hc1'
      have hcn := g1.2.2.1 (3 + 2 * i) (by omega)
      rw [g4] at hcn
      rw [← g2 1 (by omega), sN_at hc1', nI_clamp (show i < 2 ^ 31 by omega)]
      refine ⟨rv_at hcn ⟨_, rfl⟩, (nt_in (by omega)).mpr (by omega), ?_⟩
      have g6 := g1.set (k := 1) (by omega) (rA 4 16 (up_ g i (some (P' (3 + 2 * i)))))
      refine ih (i + 1) P' _ _ _ _ _ g' (by omega) g6 hP0 ?_ ⟨up_eq .., fun k hk => ?_⟩ ?_ (fun k hk => ?_) (by omega) (by omega)
      · rw [up_ne (by decide), g3 0 (by omega), h0, g2 1 (by omega), g2 2 (by omega)]
      · by_cases e : k = i
        · subst e; rw [up_eq]
        · rw [up_ne e, h1.2 k (by omega), g2 _ (by omega)]
      · rw [up_ne (by decide), g3 2 (by omega)]; exact h2
      · by_cases e : k = i
        · subst e
          rw [up_ne (by omega), up_ne (by omega), show 4 + 2 * k = 3 + 2 * k + 1 by omega]
          exact ⟨g4, g5⟩
        · have := h3 k (by omega)
          rw [up_ne (by omega), up_ne (by omega), g3 _ (by omega), g3 _ (by omega), g2 _ (by omega)]
          exact this
  refine ⟨_, hz23 16 0 P2 C2 σ2 _ _ (fun _ => none) (fun _ => none) rfl a2 b2 ?_ ⟨?_, fun k hk => by omega⟩ e2 (fun k hk => by omega) (by omega) (by omega)⟩
  · rw [c2, x2 1 (by decide)]; rfl
  · rw [d2 1 (by decide) (by decide), e1]
theorem s_X7_init (h : σ v0 = some (O7 none none none none 0)) (hmc : 14 ≤ mc) (hms : 2286 ≤ ms) {K : Hp → Prop} (hK : ∀ R D σ', Rn 15 R D σ σ' → R 0 = v0 → D 0 = O7 (some (R 1)) (some (R 12)) (some (R 13)) (some (R 14)) 0 → (∃ g, D 1 = rA 5 10 g ∧ ∀ i, i < 10 → g i = some (R (2 + i))) → (∀ i, i < 10 → D (2 + i) = iA 201 (fun _ => 0)) → D 12 = zA 10 (fun _ => false) → D 13 = iA 0 (fun _ => 0) → D 14 = iA 256 (fun _ => 0) → K σ') : C_X7_init l G (d + 1) mc ms v0 σ K := by
  refine m_X7_init ?_
  simp only [F_X7_init]
  refine ⟨10, 201, rfl, rfl, by decide, by decide, by omega, by omega, fun q hq => ?_⟩
  have hvq : v0 < q := Nat.lt_of_not_le fun hc => by rw [hq v0 hc] at h; cases h
  have h1 : Rn 12 (fun k => if k = 0 then v0 else q + (k - 1)) (fun k => if k = 0 then O7 none none none none 0 else if k = 1 then rA 5 10 (fun j => some (q + 1 + j)) else iA 201 (fun _ => 0)) σ (fun z => if z = q then some (rA 5 10 fun j => some (q + 1 + j)) else if q < z ∧ z ≤ q + 10 then some (iA 201 fun _ => 0) else σ z) := by
    refine ⟨by decide, fun j k hj hk e => ?_, fun k hk => ?_, fun k hk1 hk2 => ?_, ⟨fun z hz => ?_, fun z hz _ => ?_⟩⟩
    · dsimp only at e
      by_cases e1 : j = 0 <;> by_cases e2 : k = 0
      · omega
      · rw [if_pos e1, if_neg e2] at e; omega
      · rw [if_neg e1, if_pos e2] at e; omega
      · rw [if_neg e1, if_neg e2] at e; omega
    · dsimp only
      by_cases e1 : k = 0
      · rw [if_pos e1, if_pos e1, if_neg (by omega), if_neg (by omega)]; exact h
      · rw [if_neg e1, if_neg e1]
        by_cases e2 : k = 1
        · rw [if_pos (by omega), if_pos e2]
        · rw [if_neg (by omega), if_pos (by omega), if_neg e2]
    · dsimp only
      rw [if_neg (by omega)]
      exact hq _ (by omega)
    · dsimp only
      by_cases e1 : z = q
      · rw [if_pos e1]; simp
      · rw [if_neg e1]
        by_cases e2 : q < z ∧ z ≤ q + 10
        · rw [if_pos e2]; simp
        · rw [if_neg e2]; exact hz
    · dsimp only
      have hzq : z < q := Nat.lt_of_not_le fun hc => hz (hq z hc)
      rw [if_neg (by omega), if_neg (by omega)]
  generalize (fun z => if z = q then some (rA 5 10 fun j => some (q + 1 + j)) else if q < z ∧ z ≤ q + 10 then some (iA 201 fun _ => 0) else σ z) = σ1 at h1
  have hc0 := h1.2.2.1 0 (by decide)
  simp only [if_true] at hc0
  simp only [pF_at hc0, rR7_0, rN7_0, rP7_0, rR7_1, rN7_1, rP7_1, rR7_2, rN7_2, rP7_2, rR7_3, rN7_3, rP7_3, rI7_4, rP7_4]
  have h2 := h1.set (k := 0) (by decide) (O7 (some q) none none none 0)
  simp only [if_true] at h2
  refine mk_Z h2 rfl (up_eq ..) (N := 10) rfl (by decide) (by omega) (by omega) fun P2 C2 σ2 a2 b2 x2 c2 d2 e2 => ?_
  refine mk_I a2 b2 c2 (N := 0) rfl (by decide) (by omega) (by omega) fun P3 C3 σ3 a3 b3 x3 c3 d3 e3 => ?_
  refine mk_I a3 b3 c3 (N := 256) rfl (by decide) (by omega) (by omega) fun P4 C4 σ4 a4 b4 x4 c4 d4 e4 => ?_
  have y : ∀ k, k < 12 → P4 k = if k = 0 then v0 else q + (k - 1) := fun k hk => ((x4 k (by omega)).trans (x3 k (by omega))).trans (x2 k hk)
  have yc : ∀ k, 0 < k → k < 12 → C4 k = if k = 1 then rA 5 10 (fun j => some (q + 1 + j)) else iA 201 (fun _ => 0) := fun k hk hk2 => by
    rw [d4 k hk (by omega), d3 k hk (by omega), d2 k hk hk2, up_ne (by omega), if_neg (by omega)]
  refine hK P4 C4 σ4 a4 b4 ?_ ⟨_, by rw [yc 1 (by decide) (by decide), if_pos rfl], fun i hi => ?_⟩ (fun i hi => ?_) ?_ ?_ e4
  · rw [c4, y 1 (by decide), x4 12 (by decide), x4 13 (by decide), x3 12 (by decide)]
    rfl
  · rw [y _ (by omega), if_neg (by omega)]
    congr 1
    omega
  · rw [yc _ (by omega) (by omega), if_neg (by omega)]
  · rw [d4 12 (by decide) (by decide), d3 12 (by decide) (by decide), e2]
  · rw [d4 13 (by decide) (by decide), e3]
end MK4
section MK8
variable {l : Launch} {G : GG} {d mc ms : Nat} {W : Nat → Prop} {P : Nat → Nat} {C : Nat → CE} {σ : Hp} {te tk xt : Nat} {B : Nat → Nat} {N : Nat}
theorem s_X8_init (h : σ xt = some (O8 false false false none none 0 0 false none)) (hE : σ (gE G) = some (rA 6 0 fun _ => none)) (hfr : ∀ q, σ q = none → W q) (hWE : W (gE G)) (hWx : W xt) (hmc : 3 ≤ mc) (hms : 6 ≤ ms) {K : Hp → Prop} (hK : ∀ σ' X la, xT X = xt → Kp (fun z => z = xt) σ σ' → TBb G W σ' X (gE G) (gE G) false la TB0 → K σ') : C_X8_init l G (d + 4) mc ms xt σ K := by
  have hxE : xt ≠ gE G := fun e => by rw [e, hE] at h; cases h
  refine m_X8_init ?_
  simp only [F_X8_init]
  refine ⟨by omega, by omega, fun q1 hq1 => ?_⟩
  refine s_Jinit (d := d) (x := none) (hset_eq ..) ?_
  rw [hset2]
  have h1 := hs_new (c := O13 0 (some (gE G)) 0) h hq1
  have hE1 := hs_new (c := O13 0 (some (gE G)) 0) hE hq1
  have k1 : Kp (fun z => z = xt) σ (hset σ q1 (O13 0 (some (gE G)) 0)) := Kp.set fun hc => absurd hq1 hc
  have hl1 : (hset σ q1 (O13 0 (some (gE G)) 0)) q1 = some (O13 0 (some (gE G)) 0) := hset_eq ..
  generalize hset σ q1 (O13 0 (some (gE G)) 0) = σ1 at h1 hE1 k1 hl1
  have n1 : q1 ≠ xt := fun e => by rw [e, h] at hq1; cases hq1
  simp only [pF_at h1, rZ8_0, rP8_0, rZ8_1, rP8_1, rZ8_2, rP8_2, rR8_3, rN8_3, rP8_3, rR8_4, rN8_4, rP8_4, rI8_5, rP8_5, rI8_6, rP8_6, rZ8_7, rP8_7, rR8_8, rN8_8, rP8_8]
  have h2 : hset σ1 xt (O8 false false false (some q1) none 0 0 false none) xt = some (O8 false false false (some q1) none 0 0 false none) := hset_eq ..
  have hE2 : hset σ1 xt (O8 false false false (some q1) none 0 0 false none) (gE G) = _ := (hset_ne (Ne.symm hxE)).trans hE1
  have k2 : Kp (fun z => z = xt) σ (hset σ1 xt (O8 false false false (some q1) none 0 0 false none)) := k1.sset fun _ => rfl
  have hl2 : hset σ1 xt (O8 false false false (some q1) none 0 0 false none) q1 = some (O13 0 (some (gE G)) 0) := (hset_ne n1).trans hl1
  generalize hset σ1 xt (O8 false false false (some q1) none 0 0 false none) = σ2 at h2 hE2 k2 hl2
  refine ⟨by omega, by omega, fun q7 hq7 => ?_⟩
  refine s_Jinit (d := d) (x := none) (hset_eq ..) ?_
  rw [hset2]
  have n71 : q7 ≠ q1 := fun e => by rw [e, hl2] at hq7; cases hq7
  have n7x : q7 ≠ xt := fun e => by rw [e, h2] at hq7; cases hq7
  have h3 := hs_new (c := O13 0 (some (gE G)) 0) h2 hq7
  have hE3 := hs_new (c := O13 0 (some (gE G)) 0) hE2 hq7
  have hl3 := hs_new (c := O13 0 (some (gE G)) 0) hl2 hq7
  have k3 : Kp (fun z => z = xt) σ (hset σ2 q7 (O13 0 (some (gE G)) 0)) := k2.sset fun hc => absurd (k2.fr hq7) hc
  have hm3 : (hset σ2 q7 (O13 0 (some (gE G)) 0)) q7 = some (O13 0 (some (gE G)) 0) := hset_eq ..
  generalize hset σ2 q7 (O13 0 (some (gE G)) 0) = σ3 at h3 hE3 k3 hl3 hm3
  simp only [pF_at h3, rZ8_0, rP8_0, rZ8_1, rP8_1, rZ8_2, rP8_2, rR8_3, rN8_3, rP8_3, rR8_4, rN8_4, rP8_4, rI8_5, rP8_5, rI8_6, rP8_6, rZ8_7, rP8_7, rR8_8, rN8_8, rP8_8]
  have h4 : hset σ3 xt (O8 false false false (some q1) (some q7) 0 0 false none) xt = some (O8 false false false (some q1) (some q7) 0 0 false none) := hset_eq ..
  have hE4 : hset σ3 xt (O8 false false false (some q1) (some q7) 0 0 false none) (gE G) = _ := (hset_ne (Ne.symm hxE)).trans hE3
  have k4 : Kp (fun z => z = xt) σ (hset σ3 xt (O8 false false false (some q1) (some q7) 0 0 false none)) := k3.sset fun _ => rfl
  have hl4 : hset σ3 xt (O8 false false false (some q1) (some q7) 0 0 false none) q1 = some (O13 0 (some (gE G)) 0) := (hset_ne n1).trans hl3
  have hm4 : hset σ3 xt (O8 false false false (some q1) (some q7) 0 0 false none) q7 = some (O13 0 (some (gE G)) 0) := (hset_ne n7x).trans hm3
  generalize hset σ3 xt (O8 false false false (some q1) (some q7) 0 0 false none) = σ4 at h4 hE4 k4 hl4 hm4
  refine ⟨0, rfl, by decide, by omega, by omega, fun q hq => ?_⟩
  have h5 := hs_new (c := rA 3 0 fun _ => none) h4 hq
  simp only [pF_at h5, rZ8_0, rP8_0, rZ8_1, rP8_1, rZ8_2, rP8_2, rR8_3, rN8_3, rP8_3, rR8_4, rN8_4, rP8_4, rI8_5, rP8_5, rI8_6, rP8_6, rZ8_7, rP8_7, rR8_8, rN8_8, rP8_8]
  have k5 : Kp (fun z => z = xt) σ (hset (hset σ4 q (rA 3 0 fun _ => none)) xt (O8 false false false (some q1) (some q7) 0 0 false (some q))) := (k4.sset fun hc => absurd (k4.fr hq) hc).sset fun _ => rfl
  have go : ∀ {z c}, z ≠ xt → σ4 z = some c → (hset (hset σ4 q (rA 3 0 fun _ => none)) xt (O8 false false false (some q1) (some q7) 0 0 false (some q))) z = some c := fun {z c} hz hc => (hset_ne hz).trans (hs_new hc hq)
  have hal : ∀ {a}, σ4 a = some (O13 0 (some (gE G)) 0) → a ≠ xt → AL G (hset (hset σ4 q (rA 3 0 fun _ => none)) xt (O8 false false false (some q1) (some q7) 0 0 false (some q))) a (gE G) 0 (fun _ => 0) := fun {a} ha hx => ⟨0, fun _ => none, go hx ha, go (Ne.symm hxE) hE4, ⟨fun _ => rfl, fun _ => rfl⟩, fun i hi => by omega, (fun i y hy => by cases hy), fun i hi => by omega⟩
  refine hK _ (xt, q1, q7, 0, (fun _ => 0), (fun _ => 0), fun _ => 0) q rfl k5 ⟨⟨hWx, hset_eq ..⟩, ⟨hfr _ hq1, hWE, hal hl4 n1⟩, ⟨hfr _ (k2.fr hq7), hWE, hal hm4 n7x⟩, ⟨Ne.symm n71, fun _ => rfl⟩, fun k b hb => by simp [TB0] at hb, fun k b hb => by simp [TB0] at hb⟩
theorem s_X9_init {lo : Nat} (h : σ te = some (O9 none none none 0 0 0 0 0)) (hE : σ (gE G) = some (rA 6 0 fun _ => none)) (hfr : ∀ q, σ q = none → W q) (hWE : W (gE G)) (hmc : 4 ≤ mc) (hms : 15 ≤ ms) {K : Hp → Prop} (hK : ∀ σ' X la, Kp (fun z => z = te) σ σ' → σ' te = some (O9 (some tk) (some lo) (some (xT X)) 0 0 0 0 0) → TBb G W σ' X (gE G) (gE G) false la TB0 → K σ') : C_X9_init l G (d + 5) mc ms te tk lo σ K := by
  have hxE : te ≠ gE G := fun e => by rw [e, hE] at h; cases h
  refine m_X9_init ?_
  simp only [F_X9_init]
  refine ⟨by omega, by omega, fun q1 hq1 => ⟨mc - 1, ms - 9, Nat.le_refl _, Nat.le_refl _, ?_⟩⟩
  have n1 : q1 ≠ te := fun e => by rw [e, h] at hq1; cases hq1
  have k1 : Kp (fun z => z = te) σ (hset σ q1 (O8 false false false none none 0 0 false none)) := Kp.set fun hc => absurd hq1 hc
  have h1 := hs_new (c := O8 false false false none none 0 0 false none) h hq1
  refine s_X8_init (d := d) (W := W) (hset_eq ..) (hs_new hE hq1) (fun q hq => hfr q (k1.fr hq)) hWE (hfr _ hq1) (by omega) (by omega) fun σ2 X la x1 k2 hT => ?_
  have h2 := k2.at h1 (Ne.symm n1)
  simp only [pF_at h2, rR9_0, rN9_0, rP9_0, rR9_1, rN9_1, rP9_1, rR9_2, rN9_2, rP9_2, rI9_3, rP9_3, rI9_4, rP9_4, rJ9_5, rP9_5, rI9_6, rP9_6, rI9_7, rP9_7, pF_hs]
  have t9 : tg σ2 te 9 := ⟨_, h2, rfl⟩
  have k3 : Kp (fun z => z = te) σ2 (hset σ2 te (O9 (some tk) (some lo) (some q1) 0 0 0 0 0)) := Kp.set fun _ => rfl
  refine hK _ X la ((k1.tr2 k2 fun z hz e => by rw [e] at hz; exact absurd hq1 hz).tr k3) (by rw [x1]; exact hset_eq ..) (hT.kg k3 fun {z t} hz ht e => tg_ne hz t9 (by omega) e)
theorem s_X10_init {tp : Nat} {n : Int32} (h : σ tk = some (O10 none 0 0 0 0)) {K : Hp → Prop} (hK : K (hset σ tk (O10 (some tp) n 0 0 0))) : C_X10_init l G (d + 1) tk tp n σ K := by
  refine m_X10_init ?_
  simp only [F_X10_init, pF_at h, rR10_0, rN10_0, rP10_0, rI10_1, rP10_1, rI10_2, rP10_2, rI10_3, rP10_3, rI10_4, rP10_4, pF_hs]
  exact hK
theorem s_X9_readAll {X : TX} {la : Nat} (hB : okB 75 P) (hWP : ∀ k, k < 75 → ¬ W (P k)) (hTP : TP σ (P 1) B N) (htk : σ tk = some (O10 (some (P 1)) (nI N) 0 0 0)) (hte : σ te = some (O9 (some tk) (some (P 14)) (some (xT X)) 0 0 0 0 0)) (hC : CX G W σ te tk) (hG : RG P C σ) (hL : LDr P (xl X) (allL TB0) C 14 ([], 0)) (hT : TBb G W σ X (gE G) (gE G) false la TB0) (hmc : 476 ≤ mc) (hms : 3160 ≤ ms) {K : Bool → Hp → Prop} {Fl : Nat → Nat → Prop} {Gd : Nat → TB → List Nat → Prop} (hR : RS Fl Gd (prs B N))
    (hF : ∀ f p, Fl f p → ∀ σ' C', Kp (WL W G P) σ σ' → Ck 14 15 C C' → RG P C' σ' → LDs P C' 14 → FLt σ' te f p → K false σ') (hK : ∀ a T ls, Gd a T ls → ∀ σ' C' X' nm pf ps, Kp (WL W G P) σ σ' → Ck 14 15 C C' → RG P C' σ' → TE σ' te tk (P 14) (xT X') nm pf ps → LDr P (xl X') (allL T) C' 14 (ls, 0) → TBr (fun q => W q ∧ q ≠ te ∧ q ≠ tk) σ' X' T → K true σ') : C_X9_readAll l G (d + 14) mc ms te σ K := by
  have h9 := hTP.1
  have t9 : tg σ te 9 := ⟨_, hte, rfl⟩
  have t10 : tg σ tk 10 := ⟨_, htk, rfl⟩
  have n1 : te ≠ tk := tg_ne t9 t10 (by decide)
  refine m_X9_readAll (rv_at hte ⟨_, rfl⟩) ?_
  simp only [F_X9_readAll, fN_at hte, rR9_0, rN9_0, rP9_0, rR9_1, rN9_1, rP9_1, rR9_2, rN9_2, rP9_2, rI9_3, rP9_3, rI9_4, rP9_4, rJ9_5, rP9_5, rI9_6, rP9_6, rI9_7, rP9_7]
  refine s_X10_advance (d := d + 10) hTP (p := 0) (ln := 0) (by omega) htk fun hK1 => ?_
  have ha := (tA_le (B := B) (N := N) (Nat.zero_le N)).2
  have k1 : Kp (S9 te tk) σ (hset σ tk (O10 (some (P 1)) (nI N) (nI (tA B N (0 + 0))) (nI (kd B N (tA B N (0 + 0)))) (nI (eE B N (tA B N (0 + 0)) - tA B N (0 + 0))))) := Kp.set fun _ => Or.inr rfl
  have hst : TSt (hset σ tk (O10 (some (P 1)) (nI N) (nI (tA B N (0 + 0))) (nI (kd B N (tA B N (0 + 0)))) (nI (eE B N (tA B N (0 + 0)) - tA B N (0 + 0))))) te tk (P 1) (P 14) (xT X) B N (tA B N 0) 0 0 0 := ⟨hTP.hs (Or.inr trivial) (hTP.ne htk), hK1, ⟨0, by rw [hset_ne n1]; exact hte⟩, ha⟩
  have hz := z_rall (l := l) (d := d) hB hWP h9 hF hK (N + 1) 0 _ C X TB0 [] (tA B N 0) mc ms (by omega) ⟨0, 0, 0, hst, hC.kp (hC.s9 k1), hG.kp (hC.s9 k1) fun k hk e => hWP k hk e.1, hL, Or.inl ⟨rfl, _, _, la, hT.k9 k1 fun z hz => hz.elim (fun e => Or.inl (e ▸ t9)) fun e => Or.inr (e ▸ t10)⟩⟩ Ck.rf ((hC.s9 k1).mo fun q _ h => Or.inl h) PI_0 (fun _ => ⟨hmc, hms⟩) hR
  exact ⟨_, hz⟩
end MK8
