/-! THE LAW: its loop -/
def MoA (m : Nat) (A : Nat → Nat) : Nat → Prop := fun q => q = m ∨ ∃ k, k ∈ mks ∧ A k = q
/-- where things lie: model, script, the long's array, ArrayList's empty array -/
def LW (G : GG) (v0 m v3 : Nat) (P A : Nat → Nat) : Prop := (∀ q, MoA m A q → outB 75 P q) ∧ (outB 75 P v0 ∧ ¬ MoA m A v0) ∧ (outB 75 P v3 ∧ ¬ MoA m A v3) ∧ (outB 75 P (gE G) ∧ ¬ MoA m A (gE G))
def LX (G : GG) (v0 v3 L : Nat) (xs : Nat → Int32) (σ : Hp) : Prop := σ v0 = some (sA L xs) ∧ (∃ f, σ v3 = some (jA 1 f)) ∧ σ (gE G) = some (rA 6 0 fun _ => none)
theorem to_ch {P : Nat → Nat} {C : Nat → CE} {σ : Hp} {Φ : Hp → Prop} (hc : ch 75 P C σ = σ) (h : Φ (ch 75 P C σ)) : Φ σ := by rw [hc] at h; exact h
theorem to_mh {m : Nat} {A : Nat → Nat} {S : MS} {σ : Hp} {Φ : Hp → Prop} (hm : mh m A S σ = σ) (h : Φ (mh m A S σ)) : Φ σ := by rw [hm] at h; exact h
theorem aL_in {σ : Hp} {a t L : Nat} {f : Nat → AV} (h : σ a = some (.inr (t, L, f))) {K : Int32 → Prop} (hK : K (nI L)) : aL σ a K := ⟨t, L, f, h, hK⟩
theorem gS0 {σ : Hp} {a L i : Nat} {xs : Nat → Int32} (h : σ a = some (sA L xs)) (hL : L ≤ 3072) (hi : i < L) {K : Int32 → Prop} (hK : K (xs i)) : gScr σ a (nI i) K := ⟨L, xs, h, (nt_in (by omega)).mpr hi, by rw [nI_clamp (by omega)]; exact hK⟩
section LAW
variable {l : Launch} {G : GG} {d : Nat} {v0 v1 m v3 L i : Nat} {xs : Nat → Int32} {A : Nat → Nat} {P P' : Nat → Nat} {C C' : Nat → CE} {S S' : MS} {σ τ' : Hp} {Z : ST} {N : Nat}
theorem LST.s2 {Q Q' : Nat → Prop} {a n : Nat} {f : Nat → Nat} (h : LST Q σ a n f) (hq : ∀ q c, Q q → σ q = some c → (match c with
  | .inl _ => True
  | .inr x => x.1 ≠ 2) → Q' q) : LST Q' σ a n f := by
  obtain ⟨h1, md, da, N, g, h2, h3, h4, h5⟩ := h
  exact ⟨hq _ _ h1 h2 trivial, md, da, N, g, h2, hq _ _ h3 h4 (show (6 : Nat) ≠ 2 by decide), h4, h5⟩
theorem TBr.s2 {Q Q' : Nat → Prop} {X : TX} {T : TB} (h : TBr Q σ X T) (hq : ∀ q c, Q q → σ q = some c → (match c with
  | .inl _ => True
  | .inr x => x.1 ≠ 2) → Q' q) : TBr Q' σ X T := by
  obtain ⟨⟨a1, a2⟩, b, c, e, f, ⟨g1, g, g2, g3⟩, i⟩ := h
  refine ⟨⟨hq _ _ a1 a2 trivial, a2⟩, b.s2 hq, c.s2 hq, fun k b hb => ?_, fun k p hp => ?_, ⟨hq _ _ g1 g2 (show (3 : Nat) ≠ 2 by decide), g, g2, g3⟩, fun k l hl => ?_⟩
  · obtain ⟨q, nm, h⟩ := e k b hb
    exact ⟨hq _ _ q h trivial, nm, h⟩
  · obtain ⟨q, nm, h⟩ := f k p hp
    exact ⟨hq _ _ q h trivial, nm, h⟩
  · obtain ⟨q, h⟩ := i k l hl
    exact ⟨hq _ _ q h trivial, h⟩
theorem CI.ta {Mo : Nat → Prop} {τ : Hp} (h : CI Z N Mo P τ C) (ht : ∀ q, outB 75 P q → ¬ Mo q → τ' q = τ q) : CI Z N Mo P τ' C := by
  obtain ⟨Q, X, h1, h2, h3, h4, h5, h6⟩ := h
  exact ⟨Q, X, h1, h2, h3, h4, h5, fun T hT => ⟨(h6 T hT).1.mo fun q hq => ht q (h2 q hq).1 (h2 q hq).2, (h6 T hT).2⟩⟩
theorem mh_v (hA : okA m A) (hm : mh m A S σ = σ) : σ m = some (.inl (12, mf A S)) ∧ ∀ k, k ∈ mks → σ (A k) = some (mcell S k) := by
  have h1 : mh m A S σ m = some (.inl (12, mf A S)) := mh_o
  have h2 : ∀ k, k ∈ mks → mh m A S σ (A k) = some (mcell S k) := fun k hk => mh_a hA hk
  rw [hm] at h1 h2
  exact ⟨h1, h2⟩
theorem mh_kp (hA : okA m A) (hm : mh m A S σ = σ) {σ' : Hp} (hk : ∀ q, MoA m A q → σ q ≠ none → σ' q = σ q) : mh m A S σ' = σ' := by
  obtain ⟨h1, h2⟩ := mh_v hA hm
  exact mh_self ((hk m (Or.inl rfl) (by rw [h1]; simp)).trans h1) fun k hk' => (hk _ (Or.inr ⟨k, hk', rfl⟩) (by rw [h2 k hk']; simp)).trans (h2 k hk')
theorem MoA.al (hA : okA m A) (hm : mh m A S σ = σ) {q : Nat} (h : MoA m A q) : σ q ≠ none := by
  obtain ⟨h1, h2⟩ := mh_v hA hm
  rcases h with rfl | ⟨k, hk, rfl⟩
  · rw [h1]; simp
  · rw [h2 k hk]; simp
/-- behind a call of the class -/
theorem l_cls (hA : okA m A) (hW : LW G v0 m v3 P A) (hx : LX G v0 v3 L xs σ) (hm : mh m A S σ = σ) (hC : CI Z N (MoA m A) P' τ' C') (hk : ∀ q, σ q ≠ none → outB 75 P q → outB 75 P' q ∧ ch 75 P' C' τ' q = σ q) : RG P' C' (ch 75 P' C' τ') ∧ CI Z N (MoA m A) P' (ch 75 P' C' τ') C' ∧ LW G v0 m v3 P' A ∧ LX G v0 v3 L xs (ch 75 P' C' τ') ∧ mh m A S (ch 75 P' C' τ') = ch 75 P' C' τ' := by
  have hB : okB 75 P' := by obtain ⟨Q, X, h⟩ := hC; exact h.1
  obtain ⟨w1, ⟨w2, w3⟩, ⟨w4, w5⟩, w6, w7⟩ := hW
  obtain ⟨x1, ⟨f, x2⟩, x3⟩ := hx
  have k0 := hk v0 (by rw [x1]; simp) w2
  have k3 := hk v3 (by rw [x2]; simp) w4
  have kE := hk (gE G) (by rw [x3]; simp) w6
  refine ⟨RG.new hB, hC.ta fun q ho _ => ch_r ho, ⟨fun q hq => (hk q (hq.al hA hm) (w1 q hq)).1, ⟨k0.1, w3⟩, ⟨k3.1, w5⟩, kE.1, w7⟩, ⟨k0.2.trans x1, ⟨f, k3.2.trans x2⟩, kE.2.trans x3⟩, mh_kp hA hm fun q hq hn => (hk q hn (w1 q hq)).2⟩
theorem mh_ne {q : Nat} (h : ¬ MoA m A q) : mh m A S' σ q = σ q := mh_r (fun e => h (Or.inl e)) fun k hk e => h (Or.inr ⟨k, hk, e⟩)
/-- behind a call of the model -/
theorem l_mdl (hA : okA m A) (hG : RG P C σ) (hC : CI Z N (MoA m A) P σ C) (hW : LW G v0 m v3 P A) (hx : LX G v0 v3 L xs σ) : RG P C (mh m A S' σ) ∧ CI Z N (MoA m A) P (mh m A S' σ) C ∧ LX G v0 v3 L xs (mh m A S' σ) ∧ mh m A S' (mh m A S' σ) = mh m A S' σ := by
  obtain ⟨w1, ⟨w2, w3⟩, ⟨w4, w5⟩, w6, w7⟩ := hW
  obtain ⟨x1, ⟨f, x2⟩, x3⟩ := hx
  refine ⟨fun k hk => (mh_ne fun hm => w1 _ hm k hk rfl).trans (hG k hk), hC.ta fun q _ hn => mh_ne hn, ⟨(mh_ne w3).trans x1, ⟨f, (mh_ne w5).trans x2⟩, (mh_ne w7).trans x3⟩, mh_self mh_o fun k hk => mh_a hA hk⟩
theorem gS1 (h : σ v0 = some (sA L xs)) (hi : i + 1 < L ∧ L ≤ 3072) {K : Int32 → Prop} (hK : K (xs (i + 1))) : gScr σ v0 (nI i + 1) K := by
  rw [show nI i + 1 = nI (i + 1) from nt_add i 1]; exact gS0 h hi.2 hi.1 hK
theorem gS2 (h : σ v0 = some (sA L xs)) (hi : i + 2 < L ∧ L ≤ 3072) {K : Int32 → Prop} (hK : K (xs (i + 2))) : gScr σ v0 (nI i + 2) K := by
  rw [show nI i + 2 = nI (i + 2) from nt_add i 2]; exact gS0 h hi.2 hi.1 hK
theorem gS3 (h : σ v0 = some (sA L xs)) (hi : i + 3 < L ∧ L ≤ 3072) {K : Int32 → Prop} (hK : K (xs (i + 3))) : gScr σ v0 (nI i + 3) K := by
  rw [show nI i + 3 = nI (i + 3) from nt_add i 3]; exact gS0 h hi.2 hi.1 hK
theorem gS4 (h : σ v0 = some (sA L xs)) (hi : i + 4 < L ∧ L ≤ 3072) {K : Int32 → Prop} (hK : K (xs (i + 4))) : gScr σ v0 (nI i + 4) K := by
  rw [show nI i + 4 = nI (i + 4) from nt_add i 4]; exact gS0 h hi.2 hi.1 hK
theorem gS5 (h : σ v0 = some (sA L xs)) (hi : i + 5 < L ∧ L ≤ 3072) {K : Int32 → Prop} (hK : K (xs (i + 5))) : gScr σ v0 (nI i + 5) K := by
  rw [show nI i + 5 = nI (i + 5) from nt_add i 5]; exact gS0 h hi.2 hi.1 hK
theorem sub6 (hL : L ≤ 3072) (hi : i ≤ 4000) : nI L - 6 < nI i ↔ L < i + 6 := by
  by_cases h : 6 ≤ L
  · rw [show nI L - 6 = nI (L - 6) from nt_sub (b := 6) h (by omega), nt_lt (by omega) (by omega)]
    omega
  · have h1 : ∀ k : Fin 6, (nI k.val - 6).toInt < 0 := by decide +kernel
    have h2 := h1 ⟨L, by omega⟩
    rw [fa_lt, nI_toInt (show i < 2 ^ 31 by omega)]
    dsimp only at h2
    omega
/-- what room a table takes -/
theorem gct_ok (hZ : VZ Z) (h1 : N % 1024 < 1023) (h2 : N / 1024 ≤ 14) (v : Int32) : tN Z N v % 1024 ≤ N % 1024 + 1 ∧ tN Z N v / 1024 ≤ 14 ∧ gct Z N v + 16 * (32768 - 2 * 2 ^ (tN Z N v / 1024)) ≤ 16 * (32768 - 2 * 2 ^ (N / 1024)) := by
  unfold tN gct
  cases ht : tT Z v with
  | none => exact ⟨by dsimp only; omega, h2, by dsimp only; omega⟩
  | some t =>
    have h14 := tT_14 hZ ht
    obtain ⟨m1, m2⟩ := nN_m (t := t) h1
    dsimp only
    rw [m1, m2]
    refine ⟨Nat.le_refl _, by omega, ?_⟩
    by_cases hw : N / 1024 < t
    · rw [if_pos hw, Nat.max_eq_right (by omega)]
      have e1 : 2 ^ (N / 1024 + 1) ≤ 2 ^ t := Nat.pow_le_pow_right (by decide) hw
      have e2 : 2 ^ t ≤ 2 ^ 14 := Nat.pow_le_pow_right (by decide) h14
      rw [Nat.pow_succ] at e1
      omega
    · rw [if_neg hw, Nat.max_eq_left (by omega)]
      omega
set_option maxHeartbeats 4000000 in
theorem z_law (hl : l.stackTraces = false) (hL : L ≤ 3072) (hA : okA m A) {K : Bool → Hp → Prop} (hK : ∀ σ, K true σ) : ∀ r i Z N P C S σ bc bs, P 0 = v1 → L < i + 6 * (r + 1) → i ≤ 3072 + 6 → VZ Z → RG P C σ → CI Z N (MoA m A) P σ C → LW G v0 m v3 P A → LX G v0 v3 L xs σ → mh m A S σ = σ → MI Z S → N % 1024 + r ≤ 1000 → N / 1024 ≤ 14 → 500 * r ≤ bc → 3300 * r + 16 * (32768 - 2 * 2 ^ (N / 1024)) ≤ bs → Z_L_law_23 l G (d + 40) K (r + 1) v0 v1 m v3 (nI i) σ bc bs := by
  intro r
  induction r with
  | zero =>
    intro i Z N P C S σ bc bs hP0 hr hi hZ hG hCI hW hx hm hM n1 n2 b1 b2
    rw [Z_L_law_23]
    unfold F_L_law_23
    dsimp only
    refine aL_in hx.1 ?_
    rw [sub6 hL (by omega)]
    exact ⟨fun _ => hK σ, fun hc => absurd (by omega) hc⟩
  | succ r ih =>
    intro i Z N P C S σ bc bs hP0 hr hi hZ hG hCI hW hx hm hM n1 n2 b1 b2
    subst hP0
    have hc := hG.c
    rw [show r + 1 + 1 = (r + 1) + 1 from rfl, Z_L_law_23]
    unfold F_L_law_23
    dsimp only
    refine aL_in hx.1 ?_
    rw [sub6 hL (by omega)]
    refine ⟨fun _ => hK σ, fun hlt => ?_⟩
    have hn : ∀ Z' N' P' C' S' σ' bc' bs', P' 0 = P 0 → VZ Z' → RG P' C' σ' → CI Z' N' (MoA m A) P' σ' C' → LW G v0 m v3 P' A → LX G v0 v3 L xs σ' → mh m A S' σ' = σ' → MI Z' S' → N' % 1024 + r ≤ 1000 → N' / 1024 ≤ 14 → 500 * r ≤ bc' → 3300 * r + 16 * (32768 - 2 * 2 ^ (N' / 1024)) ≤ bs' → F_L_law_1385 l G (d + 40) (Z_L_law_23 l G (d + 40) K (r + 1)) v0 (P 0) m v3 (nI i) σ' bc' bs' K := by
      intro Z' N' P' C' S' σ' bc' bs' a1 a2 a3 a4 a5 a6 a7 a8 a9 a10 a11 a12
      unfold F_L_law_1385
      rw [show nI i + 6 = nI (i + 6) from nt_add i 6]
      exact ih (i + 6) Z' N' P' C' S' σ' bc' bs' a1 (by omega) (by omega) a2 a3 a4 a5 a6 a7 a8 a9 a10 a11 a12
    have hn1 : ∀ Z' C' S' σ', VZ Z' → RG P C' σ' → CI Z' N (MoA m A) P σ' C' → LX G v0 v3 L xs σ' → mh m A S' σ' = σ' → MI Z' S' → F_L_law_1385 l G (d + 40) (Z_L_law_23 l G (d + 40) K (r + 1)) v0 (P 0) m v3 (nI i) σ' bc bs K := fun Z' C' S' σ' a2 a3 a4 a6 a7 a8 => hn Z' N P C' S' σ' bc bs rfl a2 a3 a4 hW a6 a7 a8 (by omega) n2 (by omega) (by omega)
    have hcls : ∀ Z' C', CI Z' N (MoA m A) P σ C' → RG P C' (ch 75 P C' σ) ∧ CI Z' N (MoA m A) P (ch 75 P C' σ) C' ∧ LX G v0 v3 L xs (ch 75 P C' σ) ∧ mh m A S (ch 75 P C' σ) = ch 75 P C' σ := fun Z' C' hC' => by
      obtain ⟨g1, g2, g3, g4, g5⟩ := l_cls hA hW hx hm hC' fun q _ ho => ⟨ho, ch_r ho⟩
      exact ⟨g1, g2, g4, g5⟩
    refine gS0 hx.1 hL (by omega) ?_
    have hTB : gScr σ v0 (nI i + 1) fun x23 => ∃ mz26 sz27, mz26 ≤ bc ∧ sz27 ≤ bs ∧ C_X11_table l G (d + 40) mz26 sz27 (P 0) x23 σ fun r25 σ24 => gScr σ24 v0 (nI i + 1) fun x28 => C_X12_table l G (d + 40) m x28 σ24 fun r30 σ29 => ((r25 : Int32) = (r30 : Int32) → F_L_law_1385 l G (d + 40) (Z_L_law_23 l G (d + 40) K (r + 1)) v0 (P 0) m v3 (nI i) σ29 (bc - mz26) (bs - sz27) K) ∧ (¬ (r25 : Int32) = (r30 : Int32) → K false σ29) := by
      refine gS1 hx.1 (by omega) ?_
      obtain ⟨t1, t2, t3⟩ := gct_ok (N := N) hZ (by omega) n2 (xs (i + 1))
      refine ⟨500, 3300 + gct Z N (xs (i + 1)), by omega, by omega, ?_⟩
      rw [← hc]
      refine p_X11_table (d := d + 10) hZ hCI (fun q hq => ⟨hW.1 q hq, hq.al hA hm⟩) hx.2.2 hW.2.2.2.1 hW.2.2.2.2 (by omega) (Nat.le_refl _) (Nat.le_refl _) fun P' C' τ' c1 c2 c3 => ?_
      obtain ⟨g1, g2, g3, g4, g5⟩ := l_cls hA hW hx hm c1 c3
      generalize ch 75 P' C' τ' = σ' at g1 g2 g4 g5 ⊢
      refine gS1 g4.1 (by omega) ?_
      rw [← g5]
      refine p_X12_table (d := d) hA hZ hM fun S' hS' => ?_
      obtain ⟨e1, e2, e3, e4⟩ := l_mdl (S' := S') hA g1 g2 g3 g4
      exact ⟨fun _ => hn _ _ P' C' S' _ _ _ c2 (v_table hZ _) e1 e2 g3 e3 e4 hS' (by omega) t2 (by omega) (by omega), fun hc => absurd rfl hc⟩
    have hRO : gScr σ v0 (nI i + 1) fun x189 => gScr σ v0 (nI i + 2) fun x190 => ((x190 : Int32) = 0 → F_L_law_996 l G (d + 40) (Z_L_law_23 l G (d + 40) K (r + 1)) v0 (P 0) m v3 (nI i) (P 0) x189 false σ bc bs K) ∧ (¬ (x190 : Int32) = 0 → F_L_law_996 l G (d + 40) (Z_L_law_23 l G (d + 40) K (r + 1)) v0 (P 0) m v3 (nI i) (P 0) x189 true σ bc bs K) := by
      refine gS1 hx.1 (by omega) (gS2 hx.1 (by omega) ?_)
      have h1 : ∀ b : Bool, (xs (i + 2) = 0 ↔ b = false) → F_L_law_996 l G (d + 40) (Z_L_law_23 l G (d + 40) K (r + 1)) v0 (P 0) m v3 (nI i) (P 0) (xs (i + 1)) b σ bc bs K := by
        intro b hb
        unfold F_L_law_996
        rw [← hc]
        refine p_X11_round (d := d + 10) hZ hCI fun C' hC' => ?_
        obtain ⟨g1, g2, g3, g4⟩ := hcls _ C' hC'
        generalize ch 75 P C' σ = σ' at g1 g2 g3 g4 ⊢
        refine gS1 g3.1 (by omega) (gS2 g3.1 (by omega) ?_)
        have h2 : F_L_law_1020 l G (d + 40) (Z_L_law_23 l G (d + 40) K (r + 1)) v0 (P 0) m v3 (nI i) (q_round (xs (i + 1)) b).2 m (xs (i + 1)) b σ' bc bs K := by
          unfold F_L_law_1020
          rw [← g4]
          refine p_X12_round (d := d) hA hM fun S' hS' => ?_
          obtain ⟨e1, e2, e3, e4⟩ := l_mdl (S' := S') hA g1 g2 hW g3
          exact ⟨fun _ => hn1 _ C' S' _ (hZ.tr (vq_round _ _)) e1 e2 e3 e4 hS', fun hc => absurd rfl hc⟩
        refine ⟨fun e => ?_, fun e => ?_⟩
        · have e2 := hb.mp e
          subst e2
          exact h2
        · have e2 : b = true := by
            cases b with
            | true => rfl
            | false => exact absurd (hb.mpr rfl) e
          subst e2
          exact h2
      exact ⟨fun e => h1 false ⟨fun _ => rfl, fun _ => e⟩, fun e => h1 true ⟨fun h => absurd h e, fun h => by cases h⟩⟩
    have hLE : gScr σ v0 (nI i + 1) fun x255 => 6 ≤ bs ∧ 1 ≤ bc ∧ C_L_led l G (d + 40) (P 0) x255 v3 σ fun r259 σ258 => gScr σ258 v0 (nI i + 1) fun x260 => C_X12_led l G (d + 40) m x260 σ258 fun r262 σ261 => C_X12_thrown l G (d + 40) m σ261 fun r264 σ263 => ((r264 : Int32) = (r259 : Int32) → (¬ (r259 : Int32) = 0 → F_L_law_1344 l G (d + 40) (Z_L_law_23 l G (d + 40) K (r + 1)) v0 (P 0) m v3 (nI i) σ263 (bc - 1) (bs - 6) K) ∧ ((r259 : Int32) = 0 → gJ σ263 v3 0 fun x265 => (((lg_cmp x265 ((r262 : Int32).toInt64)) : Int32) = 0 → F_L_law_1344 l G (d + 40) (Z_L_law_23 l G (d + 40) K (r + 1)) v0 (P 0) m v3 (nI i) σ263 (bc - 1) (bs - 6) K) ∧ (¬ ((lg_cmp x265 ((r262 : Int32).toInt64)) : Int32) = 0 → K false σ263))) ∧ (¬ (r264 : Int32) = (r259 : Int32) → K false σ263) := by
      refine gS1 hx.1 (by omega) ⟨by omega, by omega, ?_⟩
      obtain ⟨f, hf⟩ := hx.2.1
      rw [← hc]
      refine p_L_led (d := d + 10) hl hZ hCI (by rw [hc]; exact hf) (fun hq => ?_) fun n hq => ?_
      · rw [hc]
        refine gS1 hx.1 (by omega) ?_
        rw [← hm]
        refine p_X12_led (d := d) hA hZ hM fun S' x hS' hS2 => ?_
        rw [hq] at hS2
        obtain ⟨e1, e2, e3, e4⟩ := l_mdl (S' := S') hA hG hCI hW hx
        refine p_X12_thrown (d := d + 39) ?_
        rw [hS2]
        refine ⟨fun _ => ⟨fun _ => ?_, fun hc => absurd hc (by decide)⟩, fun hc => absurd rfl hc⟩
        unfold F_L_law_1344
        exact hn _ N P C S' _ _ _ rfl hZ e1 e2 hW e3 e4 hS' (by omega) n2 (by omega) (by omega)
      · rw [hc]
        have hv3 : ∀ {q c}, q ≠ v3 → σ q = some c → hset σ v3 (jA 1 (up_ f 0 (nI n).toInt64)) q = some c := fun hq h => (hset_ne hq).trans h
        have hne0 : v0 ≠ v3 := fun e => by have := hx.1; rw [e, hf] at this; cases this
        have hneE : gE G ≠ v3 := fun e => by have := hx.2.2; rw [e, hf] at this; cases this
        have hG' : RG P C (hset σ v3 (jA 1 (up_ f 0 (nI n).toInt64))) := fun k hk => hv3 (hW.2.2.1.1 k hk) (hG k hk)
        have hCI' : CI Z N (MoA m A) P (hset σ v3 (jA 1 (up_ f 0 (nI n).toInt64))) C := by
          obtain ⟨Q, X, h1, h2, h3, h4, h5, h6⟩ := hCI
          refine ⟨fun q => Q q ∧ q ≠ v3, X, h1, fun q hq => h2 q hq.1, h3, h4, h5, fun T hT => ⟨?_, (h6 T hT).2⟩⟩
          have hk : Kp (fun q => q = v3) σ (hset σ v3 (jA 1 (up_ f 0 (nI n).toInt64))) := Kp.set fun _ => rfl
          exact ((h6 T hT).1.s2 fun q c hq hc hj => ⟨hq, fun e => (by rw [e, hf] at hc; cases hc; exact hj rfl)⟩).kp hk fun q hq e => hq.2 e
        have hx' : LX G v0 v3 L xs (hset σ v3 (jA 1 (up_ f 0 (nI n).toInt64))) := ⟨hv3 hne0 hx.1, ⟨_, hset_eq ..⟩, hv3 hneE hx.2.2⟩
        have hm' : mh m A S (hset σ v3 (jA 1 (up_ f 0 (nI n).toInt64))) = hset σ v3 (jA 1 (up_ f 0 (nI n).toInt64)) := mh_kp hA hm fun q hq _ => hset_ne fun e => hW.2.2.1.2 (e ▸ hq)
        have hJ : hset σ v3 (jA 1 (up_ f 0 (nI n).toInt64)) v3 = some (jA 1 (up_ f 0 (nI n).toInt64)) := hset_eq ..
        generalize hset σ v3 (jA 1 (up_ f 0 (nI n).toInt64)) = σ' at hG' hCI' hx' hm' hJ ⊢
        refine gS1 hx'.1 (by omega) ?_
        rw [← hm']
        refine p_X12_led (d := d) hA hZ hM fun S' x hS' hS2 => ?_
        rw [hq] at hS2
        obtain ⟨s1, rfl⟩ := hS2
        obtain ⟨e1, e2, e3, e4⟩ := l_mdl (S' := S') hA hG' hCI' hW hx'
        refine p_X12_thrown (d := d + 39) ?_
        rw [s1]
        have hJ' := (mh_ne (S' := S') (σ := σ') hW.2.2.1.2).trans hJ
        refine ⟨fun _ => ⟨fun hc => absurd rfl hc, fun _ => ?_⟩, fun hc => absurd rfl hc⟩
        rw [gJ_at hJ']
        refine ⟨(nt_in (show 0 < 2 ^ 31 by decide)).mpr (by decide), ?_⟩
        rw [lg_cmp_eq]
        refine ⟨fun _ => ?_, fun hc => absurd (up_eq ..) hc⟩
        unfold F_L_law_1344
        exact hn _ N P C S' _ _ _ rfl hZ e1 e2 hW e3 e4 hS' (by omega) n2 (by omega) (by omega)
    refine ⟨fun _ => ?_, fun _ => ?_, fun _ => ?_, fun _ => ?_, fun _ => ?_, fun _ => ?_, fun _ => ?_, fun _ => ?_, fun _ => ?_, fun _ => ?_, fun _ => ?_, fun _ => ?_, fun _ => ?_, fun _ => ?_, fun _ => ?_, fun _ => ?_, fun _ => ?_, fun _ => ?_, fun _ => ?_, fun _ => ?_, fun _ => ?_, fun _ => ?_, fun _ => ?_, fun _ => ?_, fun _ => ?_, fun _ => ?_, fun _ => ?_, fun _ => ?_, fun _ => ?_, fun _ => ?_, fun _ => ?_, fun _ => ?_, fun _ => ?_, fun _ => ?_, fun _ => ?_, fun _ => ?_, fun _ => ?_, fun _ => ?_, fun _ => ?_, fun _ => ?_, fun _ => ?_, fun _ => ?_, fun _ => ?_, fun _ => ?_, fun _ => ?_, fun _ _ _ _ _ _ _ _ _ _ _ _ _ _ _ _ _ _ _ _ _ _ _ _ _ _ _ _ _ _ _ _ _ _ _ _ _ _ _ _ _ _ _ _ _ => ?_⟩
    · refine gS1 hx.1 (by omega) ?_
      refine gS2 hx.1 (by omega) ?_
      refine gS3 hx.1 (by omega) ?_
      refine gS4 hx.1 (by omega) ?_
      refine gS5 hx.1 (by omega) ?_
      rw [← hc]
      refine p_X11_feed (d := d + 10) hZ hCI fun C' hC' => ?_
      obtain ⟨g1, g2, g3, g4⟩ := hcls _ C' hC'
      generalize ch 75 P C' σ = σ' at g1 g2 g3 g4 ⊢
      refine gS1 g3.1 (by omega) ?_
      refine gS2 g3.1 (by omega) ?_
      refine gS3 g3.1 (by omega) ?_
      refine gS4 g3.1 (by omega) ?_
      refine gS5 g3.1 (by omega) ?_
      rw [← g4]
      refine p_X12_feed (d := d) hA hZ hM fun S' hS' => ?_
      obtain ⟨e1, e2, e3, e4⟩ := l_mdl (S' := S') hA g1 g2 hW g3
      exact ⟨fun _ => hn1 _ C' S' _ (v_feed hZ _ _ _ _ _) e1 e2 e3 e4 hS', fun hc => absurd rfl hc⟩
    · exact hTB
    · rw [← hc]
      refine p_X11_fault (d := d + 10) hCI ?_
      rw [hc]
      rw [← hm]
      refine p_X12_fault (d := d) hM fun S' hS' => ?_
      obtain ⟨e1, e2, e3, e4⟩ := l_mdl (S' := S') hA hG hCI hW hx
      exact ⟨fun _ => hn1 _ C S' _ hZ e1 e2 e3 e4 hS', fun hc => absurd rfl hc⟩
    · rw [← hc]
      refine p_X11_where (d := d + 10) hZ hCI ?_
      rw [hc]
      rw [← hm]
      refine p_X12_where (d := d) hZ hM fun S' hS' => ?_
      obtain ⟨e1, e2, e3, e4⟩ := l_mdl (S' := S') hA hG hCI hW hx
      exact ⟨fun _ => hn1 _ C S' _ hZ e1 e2 e3 e4 hS', fun hc => absurd rfl hc⟩
    · refine gS1 hx.1 (by omega) ?_
      refine gS2 hx.1 (by omega) ?_
      rw [← hc]
      refine p_X11_lay (d := d + 10) hZ hCI fun C' hC' => ?_
      obtain ⟨g1, g2, g3, g4⟩ := hcls _ C' hC'
      generalize ch 75 P C' σ = σ' at g1 g2 g3 g4 ⊢
      refine gS1 g3.1 (by omega) ?_
      refine gS2 g3.1 (by omega) ?_
      rw [← g4]
      refine p_X12_lay (d := d) hA hZ hM fun S' hS' => ?_
      obtain ⟨e1, e2, e3, e4⟩ := l_mdl (S' := S') hA g1 g2 hW g3
      exact ⟨fun _ => hn1 _ C' S' _ (hZ.tr (vq_lay _ _ _)) e1 e2 e3 e4 hS', fun hc => absurd rfl hc⟩
    · refine gS1 hx.1 (by omega) ?_
      refine gS2 hx.1 (by omega) ?_
      refine gS3 hx.1 (by omega) ?_
      refine gS4 hx.1 (by omega) ?_
      refine gS5 hx.1 (by omega) ?_
      rw [← hc]
      refine p_X11_layOf (d := d + 10) hZ hCI fun C' hC' => ?_
      obtain ⟨g1, g2, g3, g4⟩ := hcls _ C' hC'
      generalize ch 75 P C' σ = σ' at g1 g2 g3 g4 ⊢
      refine gS1 g3.1 (by omega) ?_
      refine gS2 g3.1 (by omega) ?_
      refine gS3 g3.1 (by omega) ?_
      refine gS4 g3.1 (by omega) ?_
      refine gS5 g3.1 (by omega) ?_
      rw [← g4]
      refine p_X12_layOf (d := d) hA hZ hM fun S' hS' => ?_
      obtain ⟨e1, e2, e3, e4⟩ := l_mdl (S' := S') hA g1 g2 hW g3
      exact ⟨fun _ => hn1 _ C' S' _ (hZ.tr (vq_layOf _ _ _ _ _ _)) e1 e2 e3 e4 hS', fun hc => absurd rfl hc⟩
    · refine gS1 hx.1 (by omega) ?_
      rw [← hc]
      refine p_X11_may (d := d + 10) hZ hCI fun C' hC' => ?_
      obtain ⟨g1, g2, g3, g4⟩ := hcls _ C' hC'
      generalize ch 75 P C' σ = σ' at g1 g2 g3 g4 ⊢
      refine gS1 g3.1 (by omega) ?_
      rw [← g4]
      refine p_X12_may (d := d) hA hZ hM fun S' hS' => ?_
      obtain ⟨e1, e2, e3, e4⟩ := l_mdl (S' := S') hA g1 g2 hW g3
      exact ⟨fun _ => hn1 _ C' S' _ (hZ.tr (vq_may _ _)) e1 e2 e3 e4 hS', fun hc => absurd rfl hc⟩
    · rw [← hc]
      refine p_X11_lays (d := d + 10) hZ hCI fun C' hC' => ?_
      obtain ⟨g1, g2, g3, g4⟩ := hcls _ C' hC'
      generalize ch 75 P C' σ = σ' at g1 g2 g3 g4 ⊢
      rw [← g4]
      refine p_X12_lays (d := d) hA hZ hM fun S' hS' => ?_
      obtain ⟨e1, e2, e3, e4⟩ := l_mdl (S' := S') hA g1 g2 hW g3
      exact ⟨fun _ => hn1 _ C' S' _ (hZ.tr (vq_lays _)) e1 e2 e3 e4 hS', fun hc => absurd rfl hc⟩
    · refine gS1 hx.1 (by omega) ?_
      rw [← hc]
      refine p_X11_layAt (d := d + 10) hZ hCI fun C' hC' => ?_
      obtain ⟨g1, g2, g3, g4⟩ := hcls _ C' hC'
      generalize ch 75 P C' σ = σ' at g1 g2 g3 g4 ⊢
      refine gS1 g3.1 (by omega) ?_
      rw [← g4]
      refine p_X12_layAt (d := d) hA hZ hM fun S' hS' => ?_
      obtain ⟨e1, e2, e3, e4⟩ := l_mdl (S' := S') hA g1 g2 hW g3
      exact ⟨fun _ => hn1 _ C' S' _ (hZ.tr (vq_layAt _ _)) e1 e2 e3 e4 hS', fun hc => absurd rfl hc⟩
    · refine gS1 hx.1 (by omega) ?_
      rw [← hc]
      refine p_X11_across (d := d + 10) hZ hCI fun C' hC' => ?_
      obtain ⟨g1, g2, g3, g4⟩ := hcls _ C' hC'
      generalize ch 75 P C' σ = σ' at g1 g2 g3 g4 ⊢
      refine gS1 g3.1 (by omega) ?_
      rw [← g4]
      refine p_X12_across (d := d) hA hZ hM fun S' hS' => ?_
      obtain ⟨e1, e2, e3, e4⟩ := l_mdl (S' := S') hA g1 g2 hW g3
      exact ⟨fun _ => hn1 _ C' S' _ (hZ.tr (vq_across _ _)) e1 e2 e3 e4 hS', fun hc => absurd rfl hc⟩
    · rw [← hc]
      refine p_X11_taken (d := d + 10) hZ hCI fun C' hC' => ?_
      obtain ⟨g1, g2, g3, g4⟩ := hcls _ C' hC'
      generalize ch 75 P C' σ = σ' at g1 g2 g3 g4 ⊢
      rw [← g4]
      refine p_X12_taken (d := d) hA hZ hM fun S' hS' => ?_
      obtain ⟨e1, e2, e3, e4⟩ := l_mdl (S' := S') hA g1 g2 hW g3
      exact ⟨fun _ => hn1 _ C' S' _ (hZ.tr (vq_taken _)) e1 e2 e3 e4 hS', fun hc => absurd rfl hc⟩
    · rw [← hc]
      refine p_X11_dead (d := d + 10) hZ hCI fun C' hC' => ?_
      obtain ⟨g1, g2, g3, g4⟩ := hcls _ C' hC'
      generalize ch 75 P C' σ = σ' at g1 g2 g3 g4 ⊢
      rw [← g4]
      refine p_X12_dead (d := d) hA hZ hM fun S' hS' => ?_
      obtain ⟨e1, e2, e3, e4⟩ := l_mdl (S' := S') hA g1 g2 hW g3
      exact ⟨fun _ => hn1 _ C' S' _ (hZ.tr (vq_dead _)) e1 e2 e3 e4 hS', fun hc => absurd rfl hc⟩
    · rw [← hc]
      refine p_X11_over (d := d + 10) hZ hCI fun C' hC' => ?_
      obtain ⟨g1, g2, g3, g4⟩ := hcls _ C' hC'
      generalize ch 75 P C' σ = σ' at g1 g2 g3 g4 ⊢
      rw [← g4]
      refine p_X12_over (d := d) hA hZ hM fun S' hS' => ?_
      obtain ⟨e1, e2, e3, e4⟩ := l_mdl (S' := S') hA g1 g2 hW g3
      exact ⟨fun _ => hn1 _ C' S' _ (hZ.tr (vq_over _)) e1 e2 e3 e4 hS', fun hc => absurd rfl hc⟩
    · rw [← hc]
      refine p_X11_has (d := d + 10) hZ hCI fun C' hC' => ?_
      obtain ⟨g1, g2, g3, g4⟩ := hcls _ C' hC'
      generalize ch 75 P C' σ = σ' at g1 g2 g3 g4 ⊢
      rw [← g4]
      refine p_X12_has (d := d) hA hZ hM fun S' hS' => ?_
      obtain ⟨e1, e2, e3, e4⟩ := l_mdl (S' := S') hA g1 g2 hW g3
      exact ⟨fun _ => hn1 _ C' S' _ (hZ.tr (vq_has _)) e1 e2 e3 e4 hS', fun hc => absurd rfl hc⟩
    · rw [← hc]
      refine p_X11_best (d := d + 10) hZ hCI fun C' hC' => ?_
      obtain ⟨g1, g2, g3, g4⟩ := hcls _ C' hC'
      generalize ch 75 P C' σ = σ' at g1 g2 g3 g4 ⊢
      rw [← g4]
      refine p_X12_best (d := d) hA hZ hM fun S' hS' => ?_
      obtain ⟨e1, e2, e3, e4⟩ := l_mdl (S' := S') hA g1 g2 hW g3
      exact ⟨fun _ => hn1 _ C' S' _ (hZ.tr (vq_best _)) e1 e2 e3 e4 hS', fun hc => absurd rfl hc⟩
    · rw [← hc]
      refine p_X11_good (d := d + 10) hZ hCI fun C' hC' => ?_
      obtain ⟨g1, g2, g3, g4⟩ := hcls _ C' hC'
      generalize ch 75 P C' σ = σ' at g1 g2 g3 g4 ⊢
      rw [← g4]
      refine p_X12_good (d := d) hA hZ hM fun S' hS' => ?_
      obtain ⟨e1, e2, e3, e4⟩ := l_mdl (S' := S') hA g1 g2 hW g3
      exact ⟨fun _ => hn1 _ C' S' _ (hZ.tr (vq_good _)) e1 e2 e3 e4 hS', fun hc => absurd rfl hc⟩
    · rw [← hc]
      refine p_X11_soonest (d := d + 10) hZ hCI fun C' hC' => ?_
      obtain ⟨g1, g2, g3, g4⟩ := hcls _ C' hC'
      generalize ch 75 P C' σ = σ' at g1 g2 g3 g4 ⊢
      rw [← g4]
      refine p_X12_soonest (d := d) hA hZ hM fun S' hS' => ?_
      obtain ⟨e1, e2, e3, e4⟩ := l_mdl (S' := S') hA g1 g2 hW g3
      exact ⟨fun _ => hn1 _ C' S' _ (hZ.tr (vq_soonest _)) e1 e2 e3 e4 hS', fun hc => absurd rfl hc⟩
    · rw [← hc]
      refine p_X11_ways (d := d + 10) hZ hCI fun C' hC' => ?_
      obtain ⟨g1, g2, g3, g4⟩ := hcls _ C' hC'
      generalize ch 75 P C' σ = σ' at g1 g2 g3 g4 ⊢
      rw [← g4]
      refine p_X12_ways (d := d) hA hZ hM fun S' hS' => ?_
      obtain ⟨e1, e2, e3, e4⟩ := l_mdl (S' := S') hA g1 g2 hW g3
      exact ⟨fun _ => hn1 _ C' S' _ (hZ.tr (vq_ways _)) e1 e2 e3 e4 hS', fun hc => absurd (by rw [lg_cmp_eq]) hc⟩
    · refine gS1 hx.1 (by omega) ?_
      rw [← hc]
      refine p_X11_heap (d := d + 10) hZ hCI fun C' hC' => ?_
      obtain ⟨g1, g2, g3, g4⟩ := hcls _ C' hC'
      generalize ch 75 P C' σ = σ' at g1 g2 g3 g4 ⊢
      refine gS1 g3.1 (by omega) ?_
      rw [← g4]
      refine p_X12_heap (d := d) hA hZ hM fun S' hS' => ?_
      obtain ⟨e1, e2, e3, e4⟩ := l_mdl (S' := S') hA g1 g2 hW g3
      exact ⟨fun _ => hn1 _ C' S' _ (hZ.tr (vq_heap _ _)) e1 e2 e3 e4 hS', fun hc => absurd rfl hc⟩
    · rw [← hc]
      refine p_X11_byAcross (d := d + 10) hZ hCI fun C' hC' => ?_
      obtain ⟨g1, g2, g3, g4⟩ := hcls _ C' hC'
      generalize ch 75 P C' σ = σ' at g1 g2 g3 g4 ⊢
      rw [← g4]
      refine p_X12_byAcross (d := d) hA hZ hM fun S' hS' => ?_
      obtain ⟨e1, e2, e3, e4⟩ := l_mdl (S' := S') hA g1 g2 hW g3
      exact ⟨fun _ => hn1 _ C' S' _ (hZ.tr (vq_byAcross _)) e1 e2 e3 e4 hS', fun hc => absurd rfl hc⟩
    · refine gS1 hx.1 (by omega) ?_
      rw [← hc]
      refine p_X11_half (d := d + 10) hZ hCI fun C' hC' => ?_
      obtain ⟨g1, g2, g3, g4⟩ := hcls _ C' hC'
      generalize ch 75 P C' σ = σ' at g1 g2 g3 g4 ⊢
      refine gS1 g3.1 (by omega) ?_
      rw [← g4]
      refine p_X12_half (d := d) hA hZ hM fun S' hS' => ?_
      obtain ⟨e1, e2, e3, e4⟩ := l_mdl (S' := S') hA g1 g2 hW g3
      exact ⟨fun _ => hn1 _ C' S' _ (hZ.tr (vq_half _ _)) e1 e2 e3 e4 hS', fun hc => absurd rfl hc⟩
    · refine gS1 hx.1 (by omega) ?_
      rw [← hc]
      refine p_X11_spoils (d := d + 10) hZ hCI fun C' hC' => ?_
      obtain ⟨g1, g2, g3, g4⟩ := hcls _ C' hC'
      generalize ch 75 P C' σ = σ' at g1 g2 g3 g4 ⊢
      refine gS1 g3.1 (by omega) ?_
      rw [← g4]
      refine p_X12_spoils (d := d) hA hZ hM fun S' hS' => ?_
      obtain ⟨e1, e2, e3, e4⟩ := l_mdl (S' := S') hA g1 g2 hW g3
      exact ⟨fun _ => hn1 _ C' S' _ (hZ.tr (vq_spoils _ _)) e1 e2 e3 e4 hS', fun hc => absurd rfl hc⟩
    · refine gS1 hx.1 (by omega) ?_
      rw [← hc]
      refine p_X11_open (d := d + 10) hZ hCI fun C' hC' => ?_
      obtain ⟨g1, g2, g3, g4⟩ := hcls _ C' hC'
      generalize ch 75 P C' σ = σ' at g1 g2 g3 g4 ⊢
      refine gS1 g3.1 (by omega) ?_
      rw [← g4]
      refine p_X12_open (d := d) hA hZ hM fun S' hS' => ?_
      obtain ⟨e1, e2, e3, e4⟩ := l_mdl (S' := S') hA g1 g2 hW g3
      exact ⟨fun _ => hn1 _ C' S' _ (hZ.tr (vq_open _ _)) e1 e2 e3 e4 hS', fun hc => absurd rfl hc⟩
    · rw [← hc]
      refine p_X11_elbow (d := d + 10) hZ hCI fun C' hC' => ?_
      obtain ⟨g1, g2, g3, g4⟩ := hcls _ C' hC'
      generalize ch 75 P C' σ = σ' at g1 g2 g3 g4 ⊢
      rw [← g4]
      refine p_X12_elbow (d := d) hA hZ hM fun S' hS' => ?_
      obtain ⟨e1, e2, e3, e4⟩ := l_mdl (S' := S') hA g1 g2 hW g3
      exact ⟨fun _ => hn1 _ C' S' _ (hZ.tr (vq_elbow _)) e1 e2 e3 e4 hS', fun hc => absurd rfl hc⟩
    · rw [← hc]
      refine p_X11_fewest (d := d + 10) hZ hCI fun C' hC' => ?_
      obtain ⟨g1, g2, g3, g4⟩ := hcls _ C' hC'
      generalize ch 75 P C' σ = σ' at g1 g2 g3 g4 ⊢
      rw [← g4]
      refine p_X12_fewest (d := d) hA hZ hM fun S' hS' => ?_
      obtain ⟨e1, e2, e3, e4⟩ := l_mdl (S' := S') hA g1 g2 hW g3
      exact ⟨fun _ => hn1 _ C' S' _ (hZ.tr (vq_fewest _)) e1 e2 e3 e4 hS', fun hc => absurd rfl hc⟩
    · rw [← hc]
      refine p_X11_most (d := d + 10) hZ hCI fun C' hC' => ?_
      obtain ⟨g1, g2, g3, g4⟩ := hcls _ C' hC'
      generalize ch 75 P C' σ = σ' at g1 g2 g3 g4 ⊢
      rw [← g4]
      refine p_X12_most (d := d) hA hZ hM fun S' hS' => ?_
      obtain ⟨e1, e2, e3, e4⟩ := l_mdl (S' := S') hA g1 g2 hW g3
      exact ⟨fun _ => hn1 _ C' S' _ (hZ.tr (vq_most _)) e1 e2 e3 e4 hS', fun hc => absurd rfl hc⟩
    · rw [← hc]
      refine p_X11_lot (d := d + 10) hZ hCI fun C' hC' => ?_
      obtain ⟨g1, g2, g3, g4⟩ := hcls _ C' hC'
      generalize ch 75 P C' σ = σ' at g1 g2 g3 g4 ⊢
      rw [← g4]
      refine p_X12_lot (d := d) hA hZ hM fun S' hS' => ?_
      obtain ⟨e1, e2, e3, e4⟩ := l_mdl (S' := S') hA g1 g2 hW g3
      exact ⟨fun _ => hn1 _ C' S' _ (hZ.tr (vq_lot _)) e1 e2 e3 e4 hS', fun hc => absurd rfl hc⟩
    · refine gS1 hx.1 (by omega) ?_
      refine gS2 hx.1 (by omega) ?_
      rw [← hc]
      refine p_X11_size (d := d + 10) hZ hCI fun C' hC' => ?_
      obtain ⟨g1, g2, g3, g4⟩ := hcls _ C' hC'
      generalize ch 75 P C' σ = σ' at g1 g2 g3 g4 ⊢
      refine gS1 g3.1 (by omega) ?_
      refine gS2 g3.1 (by omega) ?_
      rw [← g4]
      refine p_X12_size (d := d) hA hM fun S' hS' => ?_
      obtain ⟨e1, e2, e3, e4⟩ := l_mdl (S' := S') hA g1 g2 hW g3
      exact ⟨fun _ => hn1 _ C' S' _ (hZ.tr (vq_size _ _)) e1 e2 e3 e4 hS', fun hc => absurd rfl hc⟩
    · refine gS1 hx.1 (by omega) ?_
      refine gS2 hx.1 (by omega) ?_
      refine gS3 hx.1 (by omega) ?_
      refine gS4 hx.1 (by omega) ?_
      rw [← hc]
      refine p_X11_rows (d := d + 10) hZ hCI fun C' hC' => ?_
      obtain ⟨g1, g2, g3, g4⟩ := hcls _ C' hC'
      generalize ch 75 P C' σ = σ' at g1 g2 g3 g4 ⊢
      refine gS1 g3.1 (by omega) ?_
      refine gS2 g3.1 (by omega) ?_
      refine gS3 g3.1 (by omega) ?_
      refine gS4 g3.1 (by omega) ?_
      rw [← g4]
      refine p_X12_rows (d := d) hA hM fun S' hS' => ?_
      obtain ⟨e1, e2, e3, e4⟩ := l_mdl (S' := S') hA g1 g2 hW g3
      exact ⟨fun _ => hn1 _ C' S' _ (hZ.tr (vq_rows _ _ _ _)) e1 e2 e3 e4 hS', fun hc => absurd rfl hc⟩
    · refine gS1 hx.1 (by omega) ?_
      refine gS2 hx.1 (by omega) ?_
      refine gS3 hx.1 (by omega) ?_
      rw [← hc]
      refine p_X11_rowLay (d := d + 10) hZ hCI fun C' hC' => ?_
      obtain ⟨g1, g2, g3, g4⟩ := hcls _ C' hC'
      generalize ch 75 P C' σ = σ' at g1 g2 g3 g4 ⊢
      refine gS1 g3.1 (by omega) ?_
      refine gS2 g3.1 (by omega) ?_
      refine gS3 g3.1 (by omega) ?_
      rw [← g4]
      refine p_X12_rowLay (d := d) hA hM fun S' hS' => ?_
      obtain ⟨e1, e2, e3, e4⟩ := l_mdl (S' := S') hA g1 g2 hW g3
      exact ⟨fun _ => hn1 _ C' S' _ (hZ.tr (vq_rowLay _ _ _)) e1 e2 e3 e4 hS', fun hc => absurd rfl hc⟩
    · exact hRO
    · refine gS1 hx.1 (by omega) ?_
      rw [← hc]
      refine p_X11_would (d := d + 10) hZ hCI fun C' hC' => ?_
      obtain ⟨g1, g2, g3, g4⟩ := hcls _ C' hC'
      generalize ch 75 P C' σ = σ' at g1 g2 g3 g4 ⊢
      refine gS1 g3.1 (by omega) ?_
      rw [← g4]
      refine p_X12_would (d := d) hA hZ hM fun S' hS' => ?_
      obtain ⟨e1, e2, e3, e4⟩ := l_mdl (S' := S') hA g1 g2 hW g3
      exact ⟨fun _ => hn1 _ C' S' _ (hZ.tr (vq_would _ _)) e1 e2 e3 e4 hS', fun hc => absurd rfl hc⟩
    · refine gS1 hx.1 (by omega) ?_
      refine gS2 hx.1 (by omega) ?_
      rw [← hc]
      refine p_X11_match (d := d + 10) hZ hCI fun C' hC' => ?_
      obtain ⟨g1, g2, g3, g4⟩ := hcls _ C' hC'
      generalize ch 75 P C' σ = σ' at g1 g2 g3 g4 ⊢
      refine gS1 g3.1 (by omega) ?_
      refine gS2 g3.1 (by omega) ?_
      rw [← g4]
      refine p_X12_match (d := d) hA hZ hM fun S' hS' => ?_
      obtain ⟨e1, e2, e3, e4⟩ := l_mdl (S' := S') hA g1 g2 hW g3
      exact ⟨fun _ => hn1 _ C' S' _ (hZ.tr (vq_match _ _ _)) e1 e2 e3 e4 hS', fun hc => absurd rfl hc⟩
    · refine gS1 hx.1 (by omega) ?_
      refine gS2 hx.1 (by omega) ?_
      rw [← hc]
      refine p_X11_matchLong (d := d + 10) hZ hCI fun C' hC' => ?_
      obtain ⟨g1, g2, g3, g4⟩ := hcls _ C' hC'
      generalize ch 75 P C' σ = σ' at g1 g2 g3 g4 ⊢
      refine gS1 g3.1 (by omega) ?_
      refine gS2 g3.1 (by omega) ?_
      rw [← g4]
      refine p_X12_matchLong (d := d) hA hZ hM fun S' hS' => ?_
      obtain ⟨e1, e2, e3, e4⟩ := l_mdl (S' := S') hA g1 g2 hW g3
      exact ⟨fun _ => hn1 _ C' S' _ (hZ.tr (vq_matchLong _ _ _)) e1 e2 e3 e4 hS', fun hc => absurd rfl hc⟩
    · refine gS1 hx.1 (by omega) ?_
      rw [← hc]
      refine p_X11_beats (d := d + 10) hZ hCI fun C' hC' => ?_
      obtain ⟨g1, g2, g3, g4⟩ := hcls _ C' hC'
      generalize ch 75 P C' σ = σ' at g1 g2 g3 g4 ⊢
      refine gS1 g3.1 (by omega) ?_
      rw [← g4]
      refine p_X12_beats (d := d) hA hZ hM fun S' hS' => ?_
      obtain ⟨e1, e2, e3, e4⟩ := l_mdl (S' := S') hA g1 g2 hW g3
      exact ⟨fun _ => hn1 _ C' S' _ (hZ.tr (vq_beats _ _)) e1 e2 e3 e4 hS', fun hc => absurd rfl hc⟩
    · refine gS1 hx.1 (by omega) ?_
      rw [← hc]
      refine p_X11_puts (d := d + 10) hZ hCI fun C' hC' => ?_
      obtain ⟨g1, g2, g3, g4⟩ := hcls _ C' hC'
      generalize ch 75 P C' σ = σ' at g1 g2 g3 g4 ⊢
      refine gS1 g3.1 (by omega) ?_
      rw [← g4]
      refine p_X12_puts (d := d) hA hZ hM fun S' hS' => ?_
      obtain ⟨e1, e2, e3, e4⟩ := l_mdl (S' := S') hA g1 g2 hW g3
      exact ⟨fun _ => hn1 _ C' S' _ (v_puts hZ _) e1 e2 e3 e4 hS', fun hc => absurd rfl hc⟩
    · rw [← hc]
      refine p_X11_takes (d := d + 10) hZ hCI fun C' hC' => ?_
      obtain ⟨g1, g2, g3, g4⟩ := hcls _ C' hC'
      generalize ch 75 P C' σ = σ' at g1 g2 g3 g4 ⊢
      rw [← g4]
      refine p_X12_takes (d := d) hA hZ hM fun S' hS' => ?_
      obtain ⟨e1, e2, e3, e4⟩ := l_mdl (S' := S') hA g1 g2 hW g3
      exact ⟨fun _ => hn1 _ C' S' _ (v_takes hZ ) e1 e2 e3 e4 hS', fun hc => absurd rfl hc⟩
    · refine gS1 hx.1 (by omega) ?_
      rw [← hc]
      refine p_X11_plays (d := d + 10) hZ hCI fun C' hC' => ?_
      obtain ⟨g1, g2, g3, g4⟩ := hcls _ C' hC'
      generalize ch 75 P C' σ = σ' at g1 g2 g3 g4 ⊢
      refine gS1 g3.1 (by omega) ?_
      rw [← g4]
      refine p_X12_plays (d := d) hA hZ hM fun S' hS' => ?_
      obtain ⟨e1, e2, e3, e4⟩ := l_mdl (S' := S') hA g1 g2 hW g3
      exact ⟨fun _ => hn1 _ C' S' _ (v_plays hZ _) e1 e2 e3 e4 hS', fun hc => absurd rfl hc⟩
    · refine gS1 hx.1 (by omega) ?_
      rw [← hc]
      refine p_X11_seed (d := d + 10) hZ hCI fun C' hC' => ?_
      obtain ⟨g1, g2, g3, g4⟩ := hcls _ C' hC'
      generalize ch 75 P C' σ = σ' at g1 g2 g3 g4 ⊢
      refine gS1 g3.1 (by omega) ?_
      rw [← g4]
      refine p_X12_seed (d := d) hA hM (fun S' hS' => ?_) hZ
      obtain ⟨e1, e2, e3, e4⟩ := l_mdl (S' := S') hA g1 g2 hW g3
      exact ⟨fun _ => hn1 _ C' S' _ (v_seed hZ _) e1 e2 e3 e4 hS', fun hc => absurd rfl hc⟩
    · rw [← hc]
      refine p_X11_undo (d := d + 10) hZ hCI fun C' hC' => ?_
      obtain ⟨g1, g2, g3, g4⟩ := hcls _ C' hC'
      generalize ch 75 P C' σ = σ' at g1 g2 g3 g4 ⊢
      rw [← g4]
      refine p_X12_undo (d := d) hA hZ hM fun S' hS' => ?_
      obtain ⟨e1, e2, e3, e4⟩ := l_mdl (S' := S') hA g1 g2 hW g3
      exact ⟨fun _ => hn1 _ C' S' _ (v_undo hZ ) e1 e2 e3 e4 hS', fun hc => absurd rfl hc⟩
    · rw [← hc]
      refine p_X11_image (d := d + 10) hZ hCI fun C' hC' => ?_
      obtain ⟨g1, g2, g3, g4⟩ := hcls _ C' hC'
      generalize ch 75 P C' σ = σ' at g1 g2 g3 g4 ⊢
      rw [← g4]
      refine p_X12_image (d := d) hA hZ hM fun S' hS' => ?_
      obtain ⟨e1, e2, e3, e4⟩ := l_mdl (S' := S') hA g1 g2 hW g3
      exact ⟨fun _ => hn1 _ C' S' _ (v_image hZ ) e1 e2 e3 e4 hS', fun hc => absurd rfl hc⟩
    · refine gS1 hx.1 (by omega) ?_
      rw [← hc]
      refine p_X11_back (d := d + 10) hZ hCI fun C' hC' => ?_
      obtain ⟨g1, g2, g3, g4⟩ := hcls _ C' hC'
      generalize ch 75 P C' σ = σ' at g1 g2 g3 g4 ⊢
      refine gS1 g3.1 (by omega) ?_
      rw [← g4]
      refine p_X12_back (d := d) hA hZ hM fun S' hS' => ?_
      obtain ⟨e1, e2, e3, e4⟩ := l_mdl (S' := S') hA g1 g2 hW g3
      exact ⟨fun _ => hn1 _ C' S' _ (v_back hZ _) e1 e2 e3 e4 hS', fun hc => absurd rfl hc⟩
    · exact hLE
    · refine gS1 hx.1 (by omega) ?_
      rw [← hc]
      refine p_X11_told (d := d + 10) hZ hCI ?_
      rw [hc]
      refine gS1 hx.1 (by omega) ?_
      rw [← hm]
      refine p_X12_told (d := d) hA hZ hM fun S' hS' => ?_
      obtain ⟨e1, e2, e3, e4⟩ := l_mdl (S' := S') hA hG hCI hW hx
      exact ⟨fun _ => hn1 _ C S' _ hZ e1 e2 e3 e4 hS', fun hc => absurd rfl hc⟩
    · rw [← hc]
      refine p_X11_trouble (d := d + 10) hCI ?_
      rw [hc]
      rw [← hm]
      refine p_X12_trouble (d := d) hM fun S' hS' => ?_
      obtain ⟨e1, e2, e3, e4⟩ := l_mdl (S' := S') hA hG hCI hW hx
      exact ⟨fun _ => hn1 _ C S' _ hZ e1 e2 e3 e4 hS', fun hc => absurd rfl hc⟩
    · exact hn1 _ C S σ hZ hG hCI hx hm hM
end LAW
