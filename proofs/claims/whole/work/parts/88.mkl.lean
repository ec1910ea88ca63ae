/-! BUILDING a table: all lays (makeLays) -/
theorem shp_agn {p : PC} (hp : p.1 = 0 ∧ p.2.1 = 1 ∧ p.2.2.1 = 1 ∨ p.1 = 1 ∧ (1 ≤ p.2.1 ∧ p.2.1 ≤ 4) ∧ 1 ≤ p.2.2.1 ∧ p.2.2.1 ≤ 4 ∨ p.1 = 2 ∧ (2 ≤ p.2.1 ∧ p.2.1 ≤ 3) ∧ 2 ≤ p.2.2.1 ∧ p.2.2.1 ≤ 3) (ht : p.2.2.2.1 = true) {t : Nat} (h4 : t < 4) : shp p t = !agn p t t 0 := by
  obtain ⟨k, w, h, tn, o, nm⟩ := p
  simp only at hp ht
  subst ht
  have key : ∀ k' w' h' : Nat, k = k' → w = w' → h = h' → (∀ t : Fin 4, shp (k', w', h', true, 0, []) t.val = !agn (k', w', h', true, 0, []) t.val t.val 0) → shp (k, w, h, true, o, nm) t = !agn (k, w, h, true, o, nm) t t 0 := by
    intro k' w' h' e1 e2 e3 hd
    subst e1 e2 e3
    have hS1 : ∀ t' x y, hS (k, w, h, true, o, nm) t' x y = hS (k, w, h, true, 0, []) t' x y := fun _ _ _ => rfl
    have hr : ∀ t' y n x, rowE (k, w, h, true, o, nm) t' t y n x = rowE (k, w, h, true, 0, []) t' t y n x := by
      intro t' y n
      induction n with
      | zero => intro x; rfl
      | succ n ih => intro x; simp only [rowE, hS1, ih]
    have ha : ∀ t' n y, allE (k, w, h, true, o, nm) t' t n y = allE (k, w, h, true, 0, []) t' t n y := by
      intro t' n
      induction n with
      | zero => intro y; rfl
      | succ n ih => intro y; simp only [allE, hr, ih]; rfl
    have hg : ∀ n s, agn (k, w, h, true, o, nm) t n s = agn (k, w, h, true, 0, []) t n s := by
      intro n
      induction n with
      | zero => intro s; rfl
      | succ n ih => intro s; simp only [agn, sameE, ha, ih]; rfl
    rw [hg]
    exact hd ⟨t, h4⟩
  rcases hp with ⟨e1, e2, e3⟩ | ⟨e1, ⟨e2, e3⟩, e4, e5⟩ | ⟨e1, ⟨e2, e3⟩, e4, e5⟩
  · exact key 0 1 1 e1 e2 e3 (by decide)
  · rcases (show w = 1 ∨ w = 2 ∨ w = 3 ∨ w = 4 by omega) with e6 | e6 | e6 | e6 <;> rcases (show h = 1 ∨ h = 2 ∨ h = 3 ∨ h = 4 by omega) with e7 | e7 | e7 | e7 <;> exact key 1 _ _ e1 e6 e7 (by decide +kernel)
  · rcases (show w = 2 ∨ w = 3 by omega) with e6 | e6 <;> rcases (show h = 2 ∨ h = 3 by omega) with e7 | e7 <;> exact key 2 _ _ e1 e6 e7 (by decide +kernel)
def stE (pi k : Nat) (p : PC) (b : BD) (x y t : Nat) : LY := (pi, k, x, y, t, cov p b x y t, an (besN (cov p b x y t) b.2.2.1 b.1 (b.1 * b.2.1) (b.1 * b.2.1) 0 0) (cov p b x y t))
def stL (j pi k : Nat) (p : PC) (b : BD) (x y t : Nat) : List LY := if covS p b x y t ≠ 0 ∧ covS p b x y t &&& j = 0 then [stE pi k p b x y t] else []
def stR (j pi k : Nat) (p : PC) (b : BD) (x y : Nat) : Nat → Nat → List LY
  | 0, _ => []
  | n + 1, t => stL j pi k p b x y t ++ stR j pi k p b x y n (t + 1)
theorem stL_eq {T : TB} (hW : WFT T) {pi k : Nat} {p : PC} (hp : T.2.2.1[pi]? = some p) (b : BD) (j x y t : Nat) : stL j pi k p b x y t = if shp p t then (lay1 j pi k p b x y t).toList else [] := by
  have hc := cov_pos hW hp b x y t
  unfold stL covS lay1
  cases shp p t with
  | false => simp
  | true =>
    cases fits p b x y t with
    | false => simp
    | true =>
      simp only [Bool.and_self, if_true]
      by_cases hj : cov p b x y t &&& j = 0
      · rw [if_pos ⟨by omega, hj⟩, if_pos hj]; rfl
      · rw [if_neg (fun h => hj h.2), if_neg hj]; rfl
theorem stR_eq {T : TB} (hW : WFT T) {pi k : Nat} {p : PC} (hp : T.2.2.1[pi]? = some p) (b : BD) (j x y : Nat) : stR j pi k p b x y 4 0 = ltL j pi k p b x y (tmx p) 0 := by
  have hs := (hW.2.1.2 pi p hp).1
  simp only [stR, stL_eq hW hp, List.append_nil]
  unfold tmx
  cases ht : p.2.2.2.1 with
  | true =>
    rw [if_pos rfl]
    simp only [ltL, List.append_nil]
    rw [shp_agn hs ht (show 0 < 4 by decide), shp_agn hs ht (show 0 + 1 < 4 by decide), shp_agn hs ht (show 0 + 1 + 1 < 4 by decide), shp_agn hs ht (show 0 + 1 + 1 + 1 < 4 by decide)]
    have hq : ∀ (c : Bool) (M : List LY), (if (!c) = true then M else []) = if c = true then [] else M := fun c M => by cases c <;> rfl
    simp only [hq]
  | false =>
    have h0 : shp p 0 = true := rfl
    have h1 : ∀ t, t ≠ 0 → shp p t = false := fun t h => by unfold shp; rw [if_neg h, ht]; rfl
    rw [h0, h1 _ (by decide), h1 _ (by decide), h1 _ (by decide)]
    simp [ltL, agn]
theorem or_an (a b : Nat) : a ||| an b a = a ||| b := by
  apply Nat.eq_of_testBit_eq
  intro i
  rw [Nat.testBit_or, an_bit, Nat.testBit_or]
  cases a.testBit i <;> cases b.testBit i <;> rfl
theorem bdS_mono_all : ((List.range 231).all fun n => Nat.ble (bdS n) (bdS (n + 1))) = true := by decide +kernel
theorem bdS_mono {n : Nat} : ∀ m, n + m ≤ 231 → bdS n ≤ bdS (n + m)
  | 0, _ => Nat.le_refl _
  | m + 1, h => Nat.le_trans (bdS_mono m (by omega)) (Nat.le_of_ble_eq_true (List.all_eq_true.mp bdS_mono_all (n + m) (List.mem_range.mpr (by omega))))
/-- lays made so far -/
def LYI (G : GG) (σ0 σ : Hp) (T : TB) (X : TX) (fo dF : Nat) (L : List LY) (xl : Nat → Nat) : Prop := Kp (fun _ => False) σ0 σ ∧ σ0 fo = none ∧ (dF = gE G ∨ σ0 dF = none) ∧ AL G σ fo dF L.length xl ∧ ∀ (i : Nat) e, L[i]? = some e → σ0 (xl i) = none ∧ σ (xl i) = some (LYc T i (xp X e.1) (xb X e.2.1) e none)
section MKL
variable {l : Launch} {G : GG} {d mc ms : Nat} {W : Nat → Prop} {σ0 σ : Hp} {X : TX} {dB dP la fo : Nat} {T : TB}
theorem z_al27 (h0 : TBb G W σ0 X dB dP true la T) (hE : σ0 (gE G) ≠ none) (hW : WFT T) {pi k : Nat} {p : PC} {b : BD} (hp : T.2.2.1[pi]? = some p) (hb : T.2.1[k]? = some b) {x y : Nat} (hx : x < b.1) (hy : y < b.2.1) {X3 : Nat → Nat → Nat → Nat → Int32 → Hp → Nat → Nat → Prop} {X15 : Nat → Nat → Nat → Nat → Int32 → Int32 → Hp → Nat → Nat → Prop} {K : Hp → Prop} : ∀ r t L xl dF σ bc bs, t + r = 4 → LYI G σ0 σ T X fo dF L xl → L.length + (stR T.2.2.2 pi k p b x y r t).length ≤ 224 → 2 * (stR T.2.2.2 pi k p b x y r t).length ≤ bc → 9 * (stR T.2.2.2 pi k p b x y r t).length + bdS (L.length + (stR T.2.2.2 pi k p b x y r t).length) ≤ bs + bdS L.length →
    (∀ σ' xl' dF' bc' bs', LYI G σ0 σ' T X fo dF' (L ++ stR T.2.2.2 pi k p b x y r t) xl' → bc = bc' + 2 * (stR T.2.2.2 pi k p b x y r t).length → bs + bdS L.length = bs' + 9 * (stR T.2.2.2 pi k p b x y r t).length + bdS (L.length + (stR T.2.2.2 pi k p b x y r t).length) → X15 (xT X) fo (xp X pi) (xb X k) (nI y) (nI x + 1) σ' bc' bs') →
    Z_X8_addLays_27 l G (d + 10) X3 X15 K (r + 1) (xT X) fo (xp X pi) (xb X k) (nI y) (nI x) (nI t) σ bc bs := by
  have hPB := hW.PB hp
  have hBB := hW.BB hb
  have hj := tb_j hW
  obtain ⟨hb1, hb2, hb3, hb4, hb5⟩ := id hBB
  intro r
  induction r with
  | zero =>
    intro t L xl dF σ bc bs ht hL h1 h2 h3 hX
    simp only [Z_X8_addLays_27, F_X8_addLays_27]
    rw [show (4 : Int32) = nI 4 from rfl, nt_le (by decide) (by omega)]
    simp only [stR, List.append_nil, List.length_nil, Nat.mul_zero, Nat.add_zero] at hX
    exact ⟨fun _ => hX σ xl dF bc bs hL rfl rfl, fun hc => absurd (by omega) hc⟩
  | succ r ih =>
    intro t L xl dF σ bc bs ht hL h1 h2 h3 hX
    obtain ⟨k1, k2, k3, k4, k5⟩ := id hL
    have hT := h0.kp k1 fun _ _ hc => hc
    have hpc := (hT.2.2.2.2.2 pi p hp).2
    have hbc := (hT.2.2.2.2.1 k b hb).2
    have hcov : covS p b x y t < 2 ^ 14 := by
      unfold covS
      split
      · rename_i hf
        simp only [Bool.and_eq_true] at hf
        exact cov_lt hW hb hf.2
      · decide
    simp only [stR] at h1 h2 h3 hX
    have hno : ¬ (covS p b x y t ≠ 0 ∧ covS p b x y t &&& T.2.2.2 = 0) → Z_X8_addLays_27 l G (d + 10) X3 X15 K (r + 1) (xT X) fo (xp X pi) (xb X k) (nI y) (nI x) (nI (t + 1)) σ bc bs := by
      intro hn
      rw [show stL T.2.2.2 pi k p b x y t = [] from if_neg hn, List.nil_append] at h1 h2 h3 hX
      exact ih (t + 1) L xl dF σ bc bs (by omega) hL h1 h2 h3 hX
    rw [show r + 1 + 1 = (r + 1) + 1 from rfl, Z_X8_addLays_27]
    simp only [F_X8_addLays_27, F_X8_addLays_114, show nI t + 1 = nI (t + 1) from nt_add t 1]
    rw [show (4 : Int32) = nI 4 from rfl, nt_le (by decide) (by omega)]
    refine ⟨fun hc => by omega, fun _ => s_X5_squaresOn (d := d + 7) hPB hBB hpc hbc (by omega) (by omega) (by omega) ?_⟩
    rw [nt_0 (by omega)]
    refine ⟨fun e => hno fun hc => hc.1 e, fun e => ?_⟩
    simp only [fI_at hT.1.2, rZ8_0, rP8_0, rZ8_1, rP8_1, rZ8_2, rP8_2, rR8_3, rN8_3, rP8_3, rR8_4, rN8_4, rP8_4, rI8_5, rP8_5, rI8_6, rP8_6, rZ8_7, rP8_7, rR8_8, rN8_8, rP8_8]
    rw [nt_and0 (by omega)]
    refine ⟨fun e2 => hno fun hc => e2 hc.2, fun e2 => ?_⟩
    rw [show stL T.2.2.2 pi k p b x y t = [stE pi k p b x y t] from if_pos ⟨e, e2⟩] at h1 h2 h3 hX
    have hcs : covS p b x y t = cov p b x y t := by
      unfold covS at e ⊢
      split
      · rfl
      · rename_i hf; rw [if_neg hf] at e; exact absurd rfl e
    rw [hcs] at hcov ⊢
    simp only [List.length_append, List.length_singleton] at h1 h2 h3
    obtain ⟨c1, c2, c3, c4, c5⟩ := cp_of (n := L.length) (by omega)
    have hbm := bdS_mono (n := L.length + 1) (stR T.2.2.2 pi k p b x y r (t + 1)).length (by omega)
    rw [show L.length + 1 + (stR T.2.2.2 pi k p b x y r (t + 1)).length = L.length + (1 + (stR T.2.2.2 pi k p b x y r (t + 1)).length) by omega] at hbm
    refine ⟨by omega, by omega, fun q hq => ?_⟩
    have hk1 : ∀ c, Kp (fun _ => False) σ (hset σ q c) := fun c => Kp.set fun hc => absurd hq hc
    have hl1 := (k4.kp (hk1 (O2 0 none none 0 0 0 0 0 none)) (fun hc => hc) (fun hc => hc) fun _ _ hc => hc).lst (Q := fun _ => True) (by omega) ⟨trivial, trivial⟩
    refine s_size (d := d + 9) hl1 ?_
    refine m_X2_init ?_
    simp only [F_X2_init, pF_hs, rI2_0, rP2_0, rR2_1, rN2_1, rP2_1, rR2_2, rN2_2, rP2_2, rI2_3, rP2_3, rI2_4, rP2_4, rI2_5, rP2_5, rI2_6, rP2_6, rI2_7, rP2_7, rR2_8, rN2_8, rP2_8]
    -- the lay's cell, whatever guard; then it is added
    have h104 : ∀ gd, gd = gdN T (stE pi k p b x y t) → F_X8_addLays_104 l G (d + 10) X3 X15 (Z_X8_addLays_27 l G (d + 10) X3 X15 K (r + 1)) (xT X) fo (xp X pi) (xb X k) (nI y) (nI x) (nI t) q q (nI gd) (hset σ q (O2 (nI L.length) (some (xp X pi)) (some (xb X k)) (nI x) (nI y) (nI t) (nI (cov p b x y t)) (nI (cov p b x y t)) none)) (bc - 1) (bs - 9) K := by
      intro gd hgd
      subst hgd
      simp only [F_X8_addLays_104, F_X8_addLays_114, pF_hs, rI2_0, rP2_0, rR2_1, rN2_1, rP2_1, rR2_2, rN2_2, rP2_2, rI2_3, rP2_3, rI2_4, rP2_4, rI2_5, rP2_5, rI2_6, rP2_6, rI2_7, rP2_7, rR2_8, rN2_8, rP2_8, show nI t + 1 = nI (t + 1) from nt_add t 1]
      have hq2 : hset σ q (LYc T L.length (xp X pi) (xb X k) (stE pi k p b x y t) none) q = some (LYc T L.length (xp X pi) (xb X k) (stE pi k p b x y t) none) := hset_eq ..
      have hk2 := hk1 (LYc T L.length (xp X pi) (xb X k) (stE pi k p b x y t) none)
      refine ⟨1, cst L.length, by omega, by omega, ?_⟩
      show C_Jx4a65c_add_9ea2d l G (d + 10) 1 (cst L.length) fo q (hset σ q (LYc T L.length (xp X pi) (xb X k) (stE pi k p b x y t) none)) _
      generalize hset σ q (LYc T L.length (xp X pi) (xb X k) (stE pi k p b x y t) none) = σ2 at hq2 hk2
      have a2 := k4.kp hk2 (fun hc => hc) (fun hc => hc) fun _ _ hc => hc
      refine s_add (d := d + 2) a2 (hk2.1 _ (k1.1 _ hE)) (by omega) (t := 2) ⟨_, hq2⟩ (Or.inr (Or.inr rfl)) (Nat.le_refl _) (Nat.le_refl _) fun σ3 dF' k3' e3 a3 => ?_
      have hdf : L.length ≠ 0 → σ0 dF = none := fun hne => by
        rcases k3 with e | e
        · obtain ⟨md, g, _, _, b3, _⟩ := k4
          exact absurd (b3.mpr e) hne
        · exact e
      have hk03 : Kp (fun _ => False) σ0 σ3 := (k1.tr hk2).tr2 k3' fun z hz hs => by
        rcases hs with e | ⟨e, e9⟩
        · rw [e] at hz; exact hz k2
        · rw [e] at hz; exact hz (hdf (by omega))
      have hL' : LYI G σ0 σ3 T X fo dF' (L ++ [stE pi k p b x y t]) (fun i => if i = L.length then q else xl i) := by
        refine ⟨hk03, k2, ?_, ?_, fun i e hi => ?_⟩
        · rcases e3 with ⟨e4, e5⟩ | e4
          · rw [e4]; exact Or.inr (hdf (by omega))
          · exact Or.inr (k1.fr (hk2.fr e4))
        · rw [List.length_append, List.length_singleton]; exact a3
        · have ha := a2.ta
          by_cases hl : i < L.length
          · rw [List.getElem?_append_left hl] at hi
            dsimp only
            rw [if_neg (by omega)]
            obtain ⟨q1, q2⟩ := k5 i e hi
            have q3 := hk2.at q2 fun hc => hc
            refine ⟨q1, k3'.at q3 ?_⟩
            rintro (e4 | ⟨e4, -⟩)
            · exact tg_ne ⟨_, q3, rfl⟩ ha.1 (by show (2 : Nat) ≠ 13; decide) e4
            · exact tg_ne ⟨_, q3, rfl⟩ ha.2 (by show (2 : Nat) ≠ 100; decide) e4
          · have := (List.getElem?_eq_some_iff.mp hi).1
            rw [List.length_append, List.length_singleton] at this
            obtain rfl : i = L.length := by omega
            simp only [List.getElem?_concat_length, Option.some.injEq] at hi
            subst hi
            dsimp only
            rw [if_pos rfl]
            refine ⟨k1.fr hq, k3'.at hq2 ?_⟩
            rintro (e4 | ⟨e4, -⟩)
            · exact tg_ne ⟨_, hq2, rfl⟩ ha.1 (by show (2 : Nat) ≠ 13; decide) e4
            · exact tg_ne ⟨_, hq2, rfl⟩ ha.2 (by show (2 : Nat) ≠ 100; decide) e4
      refine ih (t + 1) _ _ dF' σ3 _ _ (by omega) hL' ?_ ?_ ?_ fun σ' xl' dF'' bc' bs' g1 g2 g3 => ?_
      · rw [List.length_append, List.length_singleton]; omega
      · omega
      · rw [List.length_append, List.length_singleton, show L.length + 1 + (stR T.2.2.2 pi k p b x y r (t + 1)).length = L.length + (1 + (stR T.2.2.2 pi k p b x y r (t + 1)).length) by omega]
        omega
      · rw [List.length_append, List.length_singleton, show L.length + 1 + (stR T.2.2.2 pi k p b x y r (t + 1)).length = L.length + (1 + (stR T.2.2.2 pi k p b x y r (t + 1)).length) by omega] at g3
        refine hX σ' xl' dF'' bc' bs' (by rw [← List.append_assoc]; exact g1) ?_ ?_
        · rw [List.length_append, List.length_singleton]; omega
        · rw [List.length_append, List.length_singleton]; omega
    have hT2 := hT.kp (hk1 (O2 (nI L.length) (some (xp X pi)) (some (xb X k)) (nI x) (nI y) (nI t) (nI (cov p b x y t)) (nI (cov p b x y t)) none)) fun _ _ hc => hc
    simp only [fZ_at hT2.1.2, rZ8_0, rP8_0, rZ8_1, rP8_1, rZ8_2, rP8_2, rR8_3, rN8_3, rP8_3, rR8_4, rN8_4, rP8_4, rI8_5, rP8_5, rI8_6, rP8_6, rZ8_7, rP8_7, rR8_8, rN8_8, rP8_8]
    refine ⟨fun ea => h104 _ ?_, fun ea => s_X0_withThoseBeside (d := d + 8) hBB (hT2.2.2.2.2.1 k b hb).2 (by omega) (h104 _ ?_)⟩
    · unfold gdN; rw [if_neg (by rw [ea]; decide)]; rfl
    · unfold gdN; rw [if_pos ea]
      exact (or_an _ _).symm
theorem z_al15 (h0 : TBb G W σ0 X dB dP true la T) (hE : σ0 (gE G) ≠ none) (hW : WFT T) {pi k : Nat} {p : PC} {b : BD} (hp : T.2.2.1[pi]? = some p) (hb : T.2.1[k]? = some b) {y : Nat} (hy : y < b.2.1) {X3 : Nat → Nat → Nat → Nat → Int32 → Hp → Nat → Nat → Prop} {K : Hp → Prop} : ∀ r x L xl dF σ bc bs, x + r = b.1 → LYI G σ0 σ T X fo dF L xl → L.length + (lxL T.2.2.2 pi k p b y r x).length ≤ 224 → 2 * (lxL T.2.2.2 pi k p b y r x).length ≤ bc → 9 * (lxL T.2.2.2 pi k p b y r x).length + bdS (L.length + (lxL T.2.2.2 pi k p b y r x).length) ≤ bs + bdS L.length →
    (∀ σ' xl' dF' bc' bs', LYI G σ0 σ' T X fo dF' (L ++ lxL T.2.2.2 pi k p b y r x) xl' → bc = bc' + 2 * (lxL T.2.2.2 pi k p b y r x).length → bs + bdS L.length = bs' + 9 * (lxL T.2.2.2 pi k p b y r x).length + bdS (L.length + (lxL T.2.2.2 pi k p b y r x).length) → X3 (xT X) fo (xp X pi) (xb X k) (nI y + 1) σ' bc' bs') →
    Z_X8_addLays_15 l G (d + 10) X3 K (r + 1) (xT X) fo (xp X pi) (xb X k) (nI y) (nI x) σ bc bs := by
  have hBB := hW.BB hb
  obtain ⟨hb1, hb2, hb3, hb4, hb5⟩ := id hBB
  intro r
  induction r with
  | zero =>
    intro x L xl dF σ bc bs ht hL h1 h2 h3 hX
    have hT := h0.kp hL.1 fun _ _ hc => hc
    simp only [Z_X8_addLays_15, F_X8_addLays_15, fI_at (hT.2.2.2.2.1 k b hb).2, rI0_0, rP0_0, rJ0_1, rP0_1, rI0_2, rP0_2, rI0_3, rP0_3, rI0_4, rP0_4]
    rw [nt_le (by omega) (by omega)]
    simp only [lxL, List.append_nil, List.length_nil, Nat.mul_zero, Nat.add_zero] at hX
    exact ⟨fun _ => hX σ xl dF bc bs hL rfl rfl, fun hc => absurd (by omega) hc⟩
  | succ r ih =>
    intro x L xl dF σ bc bs ht hL h1 h2 h3 hX
    have hT := h0.kp hL.1 fun _ _ hc => hc
    simp only [lxL, ← stR_eq hW hp, List.length_append] at h1 h2 h3 hX
    rw [show r + 1 + 1 = (r + 1) + 1 from rfl, Z_X8_addLays_15]
    simp only [F_X8_addLays_15, fI_at (hT.2.2.2.2.1 k b hb).2, rI0_0, rP0_0, rJ0_1, rP0_1, rI0_2, rP0_2, rI0_3, rP0_3, rI0_4, rP0_4]
    rw [nt_le (by omega) (by omega)]
    have hbm := bdS_mono (n := L.length + (stR T.2.2.2 pi k p b x y 4 0).length) (lxL T.2.2.2 pi k p b y r (x + 1)).length (by omega)
    rw [Nat.add_assoc L.length] at hbm
    refine ⟨fun hc => by omega, fun _ => ⟨_, z_al27 h0 hE hW hp hb (show x < b.1 by omega) hy 4 0 L xl dF σ bc bs rfl hL (by omega) (by omega) (by omega) fun σ' xl' dF' bc' bs' g1 g2 g3 => ?_⟩⟩
    rw [show nI x + 1 = nI (x + 1) from nt_add x 1]
    refine ih (x + 1) _ xl' dF' σ' bc' bs' (by omega) g1 (by rw [List.length_append]; omega) (by omega) (by rw [List.length_append, Nat.add_assoc L.length]; omega) fun σ2 xl2 dF2 bc2 bs2 g4 g5 g6 => ?_
    rw [List.length_append, Nat.add_assoc L.length] at g6
    exact hX σ2 xl2 dF2 bc2 bs2 (by rw [← List.append_assoc]; exact g4) (by omega) (by omega)
theorem s_X8_addLays (h0 : TBb G W σ0 X dB dP true la T) (hE : σ0 (gE G) ≠ none) (hW : WFT T) {pi k : Nat} {p : PC} {b : BD} (hp : T.2.2.1[pi]? = some p) (hb : T.2.1[k]? = some b) {L : List LY} {xl : Nat → Nat} {dF : Nat} {R : List LY} (hR : R = lyL T.2.2.2 pi k p b b.2.1 0) (hL : LYI G σ0 σ T X fo dF L xl) (h1 : L.length + R.length ≤ 224) (h2 : 2 * R.length ≤ mc) (h3 : 9 * R.length + bdS (L.length + R.length) ≤ ms + bdS L.length) {K : Hp → Prop} (hK : ∀ σ' xl' dF', LYI G σ0 σ' T X fo dF' (L ++ R) xl' → K σ') : C_X8_addLays l G (d + 11) mc ms (xT X) fo (xp X pi) (xb X k) σ K := by
  subst hR
  have hBB := hW.BB hb
  obtain ⟨hb1, hb2, hb3, hb4, hb5⟩ := id hBB
  have hz : ∀ r y L xl dF σ bc bs, y + r = b.2.1 → LYI G σ0 σ T X fo dF L xl → L.length + (lyL T.2.2.2 pi k p b r y).length ≤ 224 → 2 * (lyL T.2.2.2 pi k p b r y).length ≤ bc → 9 * (lyL T.2.2.2 pi k p b r y).length + bdS (L.length + (lyL T.2.2.2 pi k p b r y).length) ≤ bs + bdS L.length → (∀ σ' xl' dF', LYI G σ0 σ' T X fo dF' (L ++ lyL T.2.2.2 pi k p b r y) xl' → K σ') → Z_X8_addLays_3 l G (d + 10) K (r + 1) (xT X) fo (xp X pi) (xb X k) (nI y) σ bc bs := by
    intro r
    induction r with
    | zero =>
      intro y L xl dF σ bc bs ht hL h1 h2 h3 hX
      have hT := h0.kp hL.1 fun _ _ hc => hc
      simp only [Z_X8_addLays_3, F_X8_addLays_3, fI_at (hT.2.2.2.2.1 k b hb).2, rI0_0, rP0_0, rJ0_1, rP0_1, rI0_2, rP0_2, rI0_3, rP0_3, rI0_4, rP0_4]
      rw [nt_le (by omega) (by omega)]
      simp only [lyL, List.append_nil] at hX
      exact ⟨fun _ => hX σ xl dF hL, fun hc => absurd (by omega) hc⟩
    | succ r ih =>
      intro y L xl dF σ bc bs ht hL h1 h2 h3 hX
      have hT := h0.kp hL.1 fun _ _ hc => hc
      simp only [lyL, List.length_append] at h1 h2 h3 hX
      rw [show r + 1 + 1 = (r + 1) + 1 from rfl, Z_X8_addLays_3]
      simp only [F_X8_addLays_3, fI_at (hT.2.2.2.2.1 k b hb).2, rI0_0, rP0_0, rJ0_1, rP0_1, rI0_2, rP0_2, rI0_3, rP0_3, rI0_4, rP0_4]
      rw [nt_le (by omega) (by omega)]
      have hbm := bdS_mono (n := L.length + (lxL T.2.2.2 pi k p b y b.1 0).length) (lyL T.2.2.2 pi k p b r (y + 1)).length (by omega)
      rw [Nat.add_assoc L.length] at hbm
      refine ⟨fun hc => by omega, fun _ => ⟨_, z_al15 h0 hE hW hp hb (show y < b.2.1 by omega) b.1 0 L xl dF σ bc bs (by omega) hL (by omega) (by omega) (by omega) fun σ' xl' dF' bc' bs' g1 g2 g3 => ?_⟩⟩
      rw [show nI y + 1 = nI (y + 1) from nt_add y 1]
      exact ih (y + 1) _ xl' dF' σ' bc' bs' (by omega) g1 (by rw [List.length_append]; omega) (by omega) (by rw [List.length_append, Nat.add_assoc L.length]; omega) fun σ2 xl2 dF2 g4 => hX σ2 xl2 dF2 (by rw [← List.append_assoc]; exact g4)
  refine m_X8_addLays (rv_at (h0.kp hL.1 fun _ _ hc => hc).1.2 ⟨_, rfl⟩) ?_
  simp only [F_X8_addLays]
  exact ⟨_, hz b.2.1 0 L xl dF σ mc ms (by omega) hL h1 h2 h3 hK⟩
theorem TBb.pinj (h : TBb G W σ X dB dP true la T) (hW : WFT T) {i j : Nat} {p q : PC} (hi : T.2.2.1[i]? = some p) (hj : T.2.2.1[j]? = some q) (e : xp X i = xp X j) : i = j := by
  have h1 := (List.getElem?_eq_some_iff.mp hi).1
  have h2 := (List.getElem?_eq_some_iff.mp hj).1
  have h3 := hW.2.1.1
  have a := (h.2.2.2.2.2 i p hi).2
  have b := (h.2.2.2.2.2 j q hj).2
  rw [e, b] at a
  have a' := Option.some.inj a
  simp only [PCc, O5, Sum.inl.injEq, Prod.mk.injEq, true_and, List.cons.injEq] at a'
  exact ((nt_eq (by omega) (by omega)).mp a'.1).symm
theorem TBb.binj (h : TBb G W σ X dB dP true la T) (hW : WFT T) {i j : Nat} {p q : BD} (hi : T.2.1[i]? = some p) (hj : T.2.1[j]? = some q) (e : xb X i = xb X j) : i = j := by
  have h1 := (List.getElem?_eq_some_iff.mp hi).1
  have h2 := (List.getElem?_eq_some_iff.mp hj).1
  have h3 := hW.1.1
  have a := (h.2.2.2.2.1 i p hi).2
  have b := (h.2.2.2.2.1 j q hj).2
  rw [e, b] at a
  have a' := Option.some.inj a
  simp only [BDc, O0, Sum.inl.injEq, Prod.mk.injEq, true_and, List.cons.injEq] at a'
  exact ((nt_eq (by omega) (by omega)).mp a'.1).symm
end MKL
