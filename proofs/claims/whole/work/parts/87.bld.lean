/-! BUILDING a table: names, boards -/
def tgc : CE → Nat
  | .inl o => o.1
  | .inr _ => 100
def tg (σ : Hp) (a t : Nat) : Prop := ∃ c, σ a = some c ∧ tgc c = t
theorem tg_ne {σ : Hp} {a b t s : Nat} (h : tg σ a t) (h' : tg σ b s) (hne : t ≠ s) : a ≠ b := by
  obtain ⟨c, h1, h2⟩ := h
  obtain ⟨c', h3, h4⟩ := h'
  intro e
  rw [e, h3] at h1
  cases h1
  exact hne (h2.symm.trans h4)
theorem AL.ta {G : GG} {σ : Hp} {a da n : Nat} {f : Nat → Nat} (h : AL G σ a da n f) : tg σ a 13 ∧ tg σ da 100 := by
  obtain ⟨md, g, a1, a2, a3⟩ := h
  exact ⟨⟨_, a1, rfl⟩, ⟨_, a2, rfl⟩⟩
/-- the first board, piece of a name -/
def fB (w : List Nat) : List BD → Nat → Option Nat
  | [], _ => none
  | b :: bs, k => if b.2.2.2 = w then some k else fB w bs (k + 1)
def fP (w : List Nat) : List PC → Nat → Option Nat
  | [], _ => none
  | b :: bs, k => if b.2.2.2.2.2 = w then some k else fP w bs (k + 1)
theorem findN_none {T : TB} {w : List Nat} : ∀ n k, findN T w n k = none ↔ ∀ j, k ≤ j → j < k + n → nms T j ≠ some w
  | 0, k => by simp only [findN, true_iff]; intro j h1 h2; omega
  | n + 1, k => by
    simp only [findN]
    by_cases h : nms T k = some w
    · rw [if_pos h]
      exact ⟨fun hc => (by cases hc), fun hc => absurd h (hc k (Nat.le_refl _) (by omega))⟩
    · rw [if_neg h, findN_none n (k + 1)]
      refine ⟨fun hc j h1 h2 => ?_, fun hc j h1 h2 => hc j (by omega) (by omega)⟩
      by_cases e : j = k
      · subst e; exact h
      · exact hc j (by omega) (by omega)
theorem findN_some {T : TB} {w : List Nat} {m : Nat} : ∀ n k, findN T w n k = some m → k ≤ m ∧ m < k + n ∧ nms T m = some w ∧ ∀ i, k ≤ i → i < m → nms T i ≠ some w
  | 0, k => by simp [findN]
  | n + 1, k => by
    simp only [findN]
    by_cases h : nms T k = some w
    · rw [if_pos h]
      intro hc
      cases hc
      exact ⟨Nat.le_refl _, by omega, h, fun i h1 h2 => by omega⟩
    · rw [if_neg h]
      intro hc
      obtain ⟨h1, h2, h3, h4⟩ := findN_some n (k + 1) hc
      refine ⟨by omega, by omega, h3, fun i h5 h6 => ?_⟩
      by_cases e : i = k
      · subst e; exact h
      · exact h4 i (by omega) h6
theorem fB_none {w : List Nat} : ∀ bs k, fB w bs k = none ↔ ∀ (i : Nat) b, bs[i]? = some b → b.2.2.2 ≠ w
  | [], k => by simp [fB]
  | b :: bs, k => by
    simp only [fB]
    by_cases h : b.2.2.2 = w
    · rw [if_pos h]
      exact ⟨fun hc => (by cases hc), fun hc => absurd h (hc 0 b rfl)⟩
    · rw [if_neg h, fB_none bs (k + 1)]
      refine ⟨fun hc i b' hb => ?_, fun hc i b' hb => hc (i + 1) b' hb⟩
      cases i with
      | zero => cases hb; exact h
      | succ i => exact hc i b' hb
theorem fB_some {w : List Nat} {m : Nat} : ∀ bs k, fB w bs k = some m → k ≤ m ∧ ∃ b, bs[m - k]? = some b ∧ b.2.2.2 = w ∧ ∀ (i : Nat) b', bs[i]? = some b' → k + i < m → b'.2.2.2 ≠ w
  | [], k => by simp [fB]
  | b :: bs, k => by
    simp only [fB]
    by_cases h : b.2.2.2 = w
    · rw [if_pos h]
      intro hc
      cases hc
      exact ⟨Nat.le_refl _, b, by simp, h, fun i b' _ h1 => by omega⟩
    · rw [if_neg h]
      intro hc
      obtain ⟨h1, b', h2, h3, h4⟩ := fB_some bs (k + 1) hc
      refine ⟨by omega, b', ?_, h3, fun i b'' hb hi => ?_⟩
      · rw [show m - k = (m - (k + 1)) + 1 by omega]; exact h2
      · cases i with
        | zero => cases hb; exact h
        | succ i => exact h4 i b'' hb (by omega)
theorem fP_none {w : List Nat} : ∀ bs k, fP w bs k = none ↔ ∀ (i : Nat) b, bs[i]? = some b → b.2.2.2.2.2 ≠ w
  | [], k => by simp [fP]
  | b :: bs, k => by
    simp only [fP]
    by_cases h : b.2.2.2.2.2 = w
    · rw [if_pos h]
      exact ⟨fun hc => (by cases hc), fun hc => absurd h (hc 0 b rfl)⟩
    · rw [if_neg h, fP_none bs (k + 1)]
      refine ⟨fun hc i b' hb => ?_, fun hc i b' hb => hc (i + 1) b' hb⟩
      cases i with
      | zero => cases hb; exact h
      | succ i => exact hc i b' hb
theorem nms_b {T : TB} (hW : WFT T) {j : Nat} {b : BD} (h : T.2.1[j]? = some b) : nms T j = some b.2.2.2 := by
  have h1 := (List.getElem?_eq_some_iff.mp h).1
  have h2 := hW.1.1
  unfold nms
  rw [if_pos (by omega), h]; rfl
theorem nms_p {T : TB} {j : Nat} {p : PC} (h : T.2.2.1[j]? = some p) : nms T (j + 3) = some p.2.2.2.2.2 := by
  unfold nms
  rw [if_neg (by omega), Nat.add_sub_cancel, h]; rfl
theorem nms_c {T : TB} {j : Nat} {w : List Nat} (h : nms T j = some w) : (j < 3 ∧ ∃ b, T.2.1[j]? = some b ∧ b.2.2.2 = w) ∨ (3 ≤ j ∧ ∃ p, T.2.2.1[j - 3]? = some p ∧ p.2.2.2.2.2 = w) := by
  unfold nms at h
  split at h
  · rename_i h1
    rw [Option.map_eq_some_iff] at h
    exact Or.inl ⟨h1, h⟩
  · rename_i h1
    rw [Option.map_eq_some_iff] at h
    exact Or.inr ⟨by omega, h⟩
theorem jB {T : TB} (hW : WFT T) (w : List Nat) : ((findN T w 7 0).bind fun k => if k < 3 then T.2.1[k]? else none) = (fB w T.2.1 0).bind fun k => T.2.1[k]? := by
  cases h : fB w T.2.1 0 with
  | none =>
    rw [fB_none] at h
    cases h2 : findN T w 7 0 with
    | none => rfl
    | some m =>
      obtain ⟨h3, h4, h5, h6⟩ := findN_some _ _ h2
      rcases nms_c h5 with ⟨h7, b, h8, h9⟩ | ⟨h7, -⟩
      · exact absurd h9 (h m b h8)
      · simp only [Option.bind_some, Option.bind_none]; rw [if_neg (by omega)]
  | some j =>
    obtain ⟨h1, b, h2, h3, h4⟩ := fB_some _ _ h
    rw [Nat.sub_zero] at h2
    have hj := (List.getElem?_eq_some_iff.mp h2).1
    have hl := hW.1.1
    have hn := nms_b hW h2
    rw [h3] at hn
    cases h5 : findN T w 7 0 with
    | none => exact absurd hn ((findN_none _ _).mp h5 j (by omega) (by omega))
    | some m =>
      obtain ⟨h6, h7, h8, h9⟩ := findN_some _ _ h5
      have hmj : m ≤ j := Nat.le_of_not_lt fun hc => h9 j (by omega) hc hn
      have e : m = j := by
        rcases nms_c h8 with ⟨h10, b', h11, h12⟩ | ⟨h10, -⟩
        · exact Nat.le_antisymm hmj (Nat.le_of_not_lt fun hc => h4 m b' h11 (by omega) h12)
        · omega
      subst e
      simp only [Option.bind_some]
      rw [if_pos (by omega)]
theorem tdN {T : TB} (hW : WFT T) (w : List Nat) : (findN T w 7 0).isNone = ((fP w T.2.2.1 0).isNone && (fB w T.2.1 0).isNone) := by
  rw [Bool.eq_iff_iff, Bool.and_eq_true, Option.isNone_iff_eq_none, Option.isNone_iff_eq_none, Option.isNone_iff_eq_none, findN_none, fP_none, fB_none]
  constructor
  · intro h
    refine ⟨fun i p hp e => ?_, fun i b hb e => ?_⟩
    · have := (List.getElem?_eq_some_iff.mp hp).1
      have := hW.2.1.1
      exact h (i + 3) (by omega) (by omega) (by rw [nms_p hp, e])
    · have := (List.getElem?_eq_some_iff.mp hb).1
      have := hW.1.1
      exact h i (by omega) (by omega) (by rw [nms_b hW hb, e])
  · rintro ⟨h1, h2⟩ j - - hn
    rcases nms_c hn with ⟨-, b, h3, h4⟩ | ⟨-, p, h3, h4⟩
    · exact h2 _ b h3 h4
    · exact h1 _ p h3 h4
/-- a table being told -/
def TBb (G : GG) (W : Nat → Prop) (σ : Hp) (X : TX) (dB dP : Nat) (mk : Bool) (la : Nat) (T : TB) : Prop :=
  (W (xT X) ∧ σ (xT X) = some (O8 T.1.1 T.1.2.1 T.1.2.2 (some (xB X)) (some (xP X)) (nI (nsq T.2.1)) (nI T.2.2.2) mk (some la))) ∧
  (W (xB X) ∧ W dB ∧ AL G σ (xB X) dB T.2.1.length (xb X)) ∧ (W (xP X) ∧ W dP ∧ AL G σ (xP X) dP T.2.2.1.length (xp X)) ∧ (xB X ≠ xP X ∧ (dB = dP → dB = gE G)) ∧
  (∀ k b, T.2.1[k]? = some b → W (xb X k) ∧ σ (xb X k) = some (BDc k (wcd b.2.2.2) b)) ∧
  (∀ k p, T.2.2.1[k]? = some p → W (xp X k) ∧ σ (xp X k) = some (PCc k (wcd p.2.2.2.2.2) p))
section BLD
variable {l : Launch} {G : GG} {d mc ms : Nat} {W : Nat → Prop} {σ σ' : Hp} {X : TX} {dB dP la : Nat} {mk : Bool} {T : TB}
theorem TBb.kp (h : TBb G W σ X dB dP mk la T) {S : Nat → Prop} (hk : Kp S σ σ') (hS : ∀ q, W q → ¬ S q) : TBb G W σ' X dB dP mk la T := by
  obtain ⟨⟨a1, a2⟩, ⟨b1, b2, b3⟩, ⟨c1, c2, c3⟩, d1, e1, f1⟩ := h
  refine ⟨⟨a1, hk.at a2 (hS _ a1)⟩, ⟨b1, b2, b3.kp hk (hS _ b1) (hS _ b2) fun i hi => hS _ ?_⟩, ⟨c1, c2, c3.kp hk (hS _ c1) (hS _ c2) fun i hi => hS _ ?_⟩, d1, fun k b hb => ?_, fun k p hp => ?_⟩
  · obtain ⟨b, hb⟩ : ∃ b, T.2.1[i]? = some b := ⟨_, List.getElem?_eq_getElem hi⟩
    exact (e1 i b hb).1
  · obtain ⟨b, hb⟩ : ∃ b, T.2.2.1[i]? = some b := ⟨_, List.getElem?_eq_getElem hi⟩
    exact (f1 i b hb).1
  · exact ⟨(e1 k b hb).1, hk.at (e1 k b hb).2 (hS _ (e1 k b hb).1)⟩
  · exact ⟨(f1 k p hp).1, hk.at (f1 k p hp).2 (hS _ (f1 k p hp).1)⟩
theorem TBb.lb (h : TBb G W σ X dB dP mk la T) (hW : WFT T) : LST (fun _ => True) σ (xB X) T.2.1.length (xb X) := h.2.1.2.2.lst (Nat.le_trans hW.1.1 (by decide)) ⟨trivial, trivial⟩
theorem TBb.lp (h : TBb G W σ X dB dP mk la T) (hW : WFT T) : LST (fun _ => True) σ (xP X) T.2.2.1.length (xp X) := h.2.2.1.2.2.lst (Nat.le_trans hW.2.1.1 (by decide)) ⟨trivial, trivial⟩
theorem s_X8_boardNamed (h : TBb G W σ X dB dP mk la T) (hW : WFT T) {w : List Nat} (hw : NM w) {K : Option Nat → Hp → Prop} (hK : K ((fB w T.2.1 0).map (xb X)) σ) : C_X8_boardNamed l G (d + 5) (xT X) (wcd w) σ K := by
  have h3 := hW.1.1
  have hT := h.1.2
  have hl := h.lb hW
  have hz : ∀ r i, i + r = T.2.1.length → K ((fB w (T.2.1.drop i) i).map (xb X)) σ → Z_X8_boardNamed_2 l G (d + 4) K (r + 1) (xT X) (wcd w) (nI i) σ := by
    intro r
    induction r with
    | zero =>
      intro i hi hx
      rw [List.drop_eq_nil_of_le (by omega)] at hx
      simp only [Z_X8_boardNamed_2, F_X8_boardNamed_2, fI_at (hT), fZ_at (hT), fJ_at (hT), fR_at (hT), fN_at (hT), pF_at (hT), rZ8_0, rP8_0, rZ8_1, rP8_1, rZ8_2, rP8_2, rR8_3, rN8_3, rP8_3, rR8_4, rN8_4, rP8_4, rI8_5, rP8_5, rI8_6, rP8_6, rZ8_7, rP8_7, rR8_8, rN8_8, rP8_8]
      refine s_size (d := d + 3) hl ?_
      rw [nt_le (by omega) (by omega)]
      exact ⟨fun _ => hx, fun hc => absurd (by omega) hc⟩
    | succ r ih =>
      intro i hi hx
      obtain ⟨b, hb⟩ : ∃ b, T.2.1[i]? = some b := ⟨_, List.getElem?_eq_getElem (by omega)⟩
      have hd : T.2.1.drop i = b :: T.2.1.drop (i + 1) := by
        obtain ⟨hk, e1⟩ := List.getElem?_eq_some_iff.mp hb
        rw [← List.getElem_cons_drop hk, e1]
      have hc := (h.2.2.2.2.1 i b hb).2
      have hN := (hW.1.2.2 i b hb).2.2.2.2.2
      rw [hd] at hx
      simp only [fB] at hx
      rw [show r + 1 + 1 = (r + 1) + 1 from rfl, Z_X8_boardNamed_2]
      simp only [F_X8_boardNamed_2, fI_at (hT), fZ_at (hT), fJ_at (hT), fR_at (hT), fN_at (hT), pF_at (hT), rZ8_0, rP8_0, rZ8_1, rP8_1, rZ8_2, rP8_2, rR8_3, rN8_3, rP8_3, rR8_4, rN8_4, rP8_4, rI8_5, rP8_5, rI8_6, rP8_6, rZ8_7, rP8_7, rR8_8, rN8_8, rP8_8, show nI i + 1 = nI (i + 1) from nt_add i 1]
      refine s_size (d := d + 3) hl ?_
      rw [nt_le (by omega) (by omega)]
      refine ⟨fun hc => by omega, fun _ => ?_⟩
      simp only [fI_at (hT), fZ_at (hT), fJ_at (hT), fR_at (hT), fN_at (hT), pF_at (hT), rZ8_0, rP8_0, rZ8_1, rP8_1, rZ8_2, rP8_2, rR8_3, rN8_3, rP8_3, rR8_4, rN8_4, rP8_4, rI8_5, rP8_5, rI8_6, rP8_6, rZ8_7, rP8_7, rR8_8, rN8_8, rP8_8]
      refine s_get (d := d) hl (by omega) ⟨rv_at hc ⟨_, rfl⟩, ?_⟩
      simp only [fI_at (hc), fZ_at (hc), fJ_at (hc), fR_at (hc), fN_at (hc), pF_at (hc), rI0_0, rP0_0, rJ0_1, rP0_1, rI0_2, rP0_2, rI0_3, rP0_3, rI0_4, rP0_4, lg_cmp_eq, wcd_inj hN hw, fI_at (hT), fZ_at (hT), fJ_at (hT), fR_at (hT), fN_at (hT), pF_at (hT), rZ8_0, rP8_0, rZ8_1, rP8_1, rZ8_2, rP8_2, rR8_3, rN8_3, rP8_3, rR8_4, rN8_4, rP8_4, rI8_5, rP8_5, rI8_6, rP8_6, rZ8_7, rP8_7, rR8_8, rN8_8, rP8_8]
      refine ⟨fun e => ?_, fun e => s_get (d := d) hl (by omega) ⟨rv_at hc ⟨_, rfl⟩, ?_⟩⟩
      · rw [if_neg e] at hx; exact ih (i + 1) (by omega) hx
      · rw [if_pos e] at hx; exact hx
  refine m_X8_boardNamed (rv_at hT ⟨_, rfl⟩) ?_
  simp only [F_X8_boardNamed]
  exact ⟨_, hz T.2.1.length 0 (by omega) hK⟩
theorem s_X8_isNameTold (h : TBb G W σ X dB dP mk la T) (hW : WFT T) {w : List Nat} (hw : NM w) {K : Bool → Hp → Prop} (hK : K (!(findN T w 7 0).isNone) σ) : C_X8_isNameTold l G (d + 6) (xT X) (wcd w) σ K := by
  have h3 := hW.2.1.1
  have hT := h.1.2
  have hl := h.lp hW
  rw [tdN hW] at hK
  have hz : ∀ r i, i + r = T.2.2.1.length → K (!((fP w (T.2.2.1.drop i) i).isNone && (fB w T.2.1 0).isNone)) σ → Z_X8_isNameTold_2 l G (d + 5) K (r + 1) (xT X) (wcd w) (nI i) σ := by
    intro r
    induction r with
    | zero =>
      intro i hi hx
      rw [List.drop_eq_nil_of_le (by omega)] at hx
      simp only [Z_X8_isNameTold_2, F_X8_isNameTold_2, F_X8_isNameTold_53, fI_at (hT), fZ_at (hT), fJ_at (hT), fR_at (hT), fN_at (hT), pF_at (hT), rZ8_0, rP8_0, rZ8_1, rP8_1, rZ8_2, rP8_2, rR8_3, rN8_3, rP8_3, rR8_4, rN8_4, rP8_4, rI8_5, rP8_5, rI8_6, rP8_6, rZ8_7, rP8_7, rR8_8, rN8_8, rP8_8]
      refine s_size (d := d + 4) hl ?_
      rw [nt_le (by omega) (by omega)]
      refine ⟨fun _ => s_X8_boardNamed (d := d) h hW hw ?_, fun hc => absurd (by omega) hc⟩
      cases hf : fB w T.2.1 0 with
      | none => rw [hf] at hx; exact ⟨fun _ => hx, fun b hb => by cases hb⟩
      | some m => rw [hf] at hx; exact ⟨fun hc => (by cases hc), fun b hb => hx⟩
    | succ r ih =>
      intro i hi hx
      obtain ⟨p, hp⟩ : ∃ p, T.2.2.1[i]? = some p := ⟨_, List.getElem?_eq_getElem (by omega)⟩
      have hd : T.2.2.1.drop i = p :: T.2.2.1.drop (i + 1) := by
        obtain ⟨hk, e1⟩ := List.getElem?_eq_some_iff.mp hp
        rw [← List.getElem_cons_drop hk, e1]
      have hc := (h.2.2.2.2.2 i p hp).2
      have hN := (hW.2.1.2 i p hp).2.2
      rw [hd] at hx
      simp only [fP] at hx
      rw [show r + 1 + 1 = (r + 1) + 1 from rfl, Z_X8_isNameTold_2]
      simp only [F_X8_isNameTold_2, F_X8_isNameTold_53, fI_at (hT), fZ_at (hT), fJ_at (hT), fR_at (hT), fN_at (hT), pF_at (hT), rZ8_0, rP8_0, rZ8_1, rP8_1, rZ8_2, rP8_2, rR8_3, rN8_3, rP8_3, rR8_4, rN8_4, rP8_4, rI8_5, rP8_5, rI8_6, rP8_6, rZ8_7, rP8_7, rR8_8, rN8_8, rP8_8, show nI i + 1 = nI (i + 1) from nt_add i 1]
      refine s_size (d := d + 4) hl ?_
      rw [nt_le (by omega) (by omega)]
      refine ⟨fun hc => by omega, fun _ => ?_⟩
      simp only [fI_at (hT), fZ_at (hT), fJ_at (hT), fR_at (hT), fN_at (hT), pF_at (hT), rZ8_0, rP8_0, rZ8_1, rP8_1, rZ8_2, rP8_2, rR8_3, rN8_3, rP8_3, rR8_4, rN8_4, rP8_4, rI8_5, rP8_5, rI8_6, rP8_6, rZ8_7, rP8_7, rR8_8, rN8_8, rP8_8]
      refine s_get (d := d + 1) hl (by omega) ⟨rv_at hc ⟨_, rfl⟩, ?_⟩
      simp only [fI_at (hc), fZ_at (hc), fJ_at (hc), fR_at (hc), fN_at (hc), pF_at (hc), rI5_0, rP5_0, rJ5_1, rP5_1, rI5_2, rP5_2, rI5_3, rP5_3, rI5_4, rP5_4, rZ5_5, rP5_5, rI5_6, rP5_6, lg_cmp_eq, wcd_inj hN hw]
      refine ⟨fun e => ?_, fun e => ?_⟩
      · rw [if_neg e] at hx; exact ih (i + 1) (by omega) hx
      · rw [if_pos e] at hx; exact hx
  refine m_X8_isNameTold (rv_at hT ⟨_, rfl⟩) ?_
  simp only [F_X8_isNameTold]
  exact ⟨_, hz T.2.2.1.length 0 (by omega) hK⟩
theorem TBb.tt (h : TBb G W σ X dB dP mk la T) : tg σ (xT X) 8 ∧ (tg σ (xB X) 13 ∧ tg σ dB 100) ∧ (tg σ (xP X) 13 ∧ tg σ dP 100) ∧ (∀ k b, T.2.1[k]? = some b → tg σ (xb X k) 0) ∧ ∀ k p, T.2.2.1[k]? = some p → tg σ (xp X k) 5 :=
  ⟨⟨_, h.1.2, rfl⟩, h.2.1.2.2.ta, h.2.2.1.2.2.ta, fun k b hb => ⟨_, (h.2.2.2.2.1 k b hb).2, rfl⟩, fun k p hp => ⟨_, (h.2.2.2.2.2 k p hp).2, rfl⟩⟩
theorem s_X8_addBoard (h : TBb G W σ X dB dP false la T) (hE : σ (gE G) ≠ none) (hfr : ∀ q, σ q = none → W q) (hWT : WFT T) (hb : T.2.1.length < 3) {w hh : Nat} {nm : List Nat} (hmc : 2 ≤ mc) (hms : 20 ≤ ms) {K : Hp → Prop} (hK : ∀ σ' X' dB', xT X' = xT X → Kp (fun q => q = xT X ∨ q = xB X ∨ q = dB ∧ 0 < T.2.1.length) σ σ' → TBb G W σ' X' dB' dP false la (addB T w hh nm) → K σ') : C_X8_addBoard l G (d + 9) mc ms (xT X) (wcd nm) (nI w) (nI hh) σ K := by
  obtain ⟨t1, ⟨t2, t3⟩, ⟨t4, t5⟩, t6, t7⟩ := h.tt
  have hT := h.1.2
  refine m_X8_addBoard (rv_at hT ⟨_, rfl⟩) ?_
  simp only [F_X8_addBoard, fI_at (hT), fZ_at (hT), fJ_at (hT), fR_at (hT), fN_at (hT), pF_at (hT), rZ8_0, rP8_0, rZ8_1, rP8_1, rZ8_2, rP8_2, rR8_3, rN8_3, rP8_3, rR8_4, rN8_4, rP8_4, rI8_5, rP8_5, rI8_6, rP8_6, rZ8_7, rP8_7, rR8_8, rN8_8, rP8_8]
  refine ⟨by omega, by omega, fun q hq => ?_⟩
  have hk1 : ∀ c, Kp (fun _ => False) σ (hset σ q c) := fun c => Kp.set fun hc => absurd hq hc
  have hT1 := hs_new (c := O0 0 0 0 0 0) hT hq
  simp only [fI_at (hT1), fZ_at (hT1), fJ_at (hT1), fR_at (hT1), fN_at (hT1), pF_at (hT1), rZ8_0, rP8_0, rZ8_1, rP8_1, rZ8_2, rP8_2, rR8_3, rN8_3, rP8_3, rR8_4, rN8_4, rP8_4, rI8_5, rP8_5, rI8_6, rP8_6, rZ8_7, rP8_7, rR8_8, rN8_8, rP8_8]
  refine s_size (d := d + 7) ((h.kp (hk1 _) fun _ _ hc => hc).lb hWT) ?_
  simp only [fI_at (hT1), fZ_at (hT1), fJ_at (hT1), fR_at (hT1), fN_at (hT1), pF_at (hT1), rZ8_0, rP8_0, rZ8_1, rP8_1, rZ8_2, rP8_2, rR8_3, rN8_3, rP8_3, rR8_4, rN8_4, rP8_4, rI8_5, rP8_5, rI8_6, rP8_6, rZ8_7, rP8_7, rR8_8, rN8_8, rP8_8]
  refine m_X0_init ?_
  simp only [F_X0_init, pF_hs, rI0_0, rP0_0, rJ0_1, rP0_1, rI0_2, rP0_2, rI0_3, rP0_3, rI0_4, rP0_4]
  have h2 := h.kp (hk1 (O0 (nI T.2.1.length) (wcd nm) (nI w) (nI hh) (nI (nsq T.2.1)))) fun _ _ hc => hc
  have hq2 : hset σ q (O0 (nI T.2.1.length) (wcd nm) (nI w) (nI hh) (nI (nsq T.2.1))) q = some (O0 (nI T.2.1.length) (wcd nm) (nI w) (nI hh) (nI (nsq T.2.1))) := hset_eq ..
  have hk2 := hk1 (O0 (nI T.2.1.length) (wcd nm) (nI w) (nI hh) (nI (nsq T.2.1)))
  generalize hset σ q (O0 (nI T.2.1.length) (wcd nm) (nI w) (nI hh) (nI (nsq T.2.1))) = σ2 at h2 hq2 hk2
  have hc10 : cst T.2.1.length ≤ 10 := by
    rcases (show T.2.1.length = 0 ∨ T.2.1.length = 1 ∨ T.2.1.length = 2 by omega) with e | e | e <;> rw [e] <;> decide
  refine ⟨mc - 1, ms - 5, Nat.le_refl _, Nat.le_refl _, s_add (d := d) h2.2.1.2.2 (hk2.1 _ hE) (by omega) (t := 0) ⟨_, hq2⟩ (Or.inl rfl) (by omega) (by omega) fun σ3 dB' k3 e3 a3 => ?_⟩
  obtain ⟨u1, ⟨u2, u3⟩, ⟨u4, u5⟩, u6, u7⟩ := h2.tt
  have n1 : xT X ≠ xB X := tg_ne u1 u2 (by decide)
  have n2 : xT X ≠ dB := tg_ne u1 u3 (by decide)
  have hT3 : σ3 (xT X) = _ := k3.at h2.1.2 fun e => e.elim n1 fun e => n2 e.1
  simp only [fI_at (hT3), fZ_at (hT3), fJ_at (hT3), fR_at (hT3), fN_at (hT3), pF_at (hT3), rZ8_0, rP8_0, rZ8_1, rP8_1, rZ8_2, rP8_2, rR8_3, rN8_3, rP8_3, rR8_4, rN8_4, rP8_4, rI8_5, rP8_5, rI8_6, rP8_6, rZ8_7, rP8_7, rR8_8, rN8_8, rP8_8, nt_mul, nt_add]
  have n3 : dB' ≠ xT X := fun e => by
    rcases e3 with ⟨e4, -⟩ | e4
    · exact n2 (e.symm.trans e4)
    · rw [e, h2.1.2] at e4; cases e4
  have hx3 : ∀ i, i < T.2.1.length + 1 → (if i = T.2.1.length then q else xb X i) ≠ xT X := fun i hi e => by
    by_cases e1 : i = T.2.1.length
    · rw [if_pos e1] at e; rw [e, h2.1.2] at hq2; cases hq2
    · rw [if_neg e1] at e
      obtain ⟨b, hb⟩ : ∃ b, T.2.1[i]? = some b := ⟨_, List.getElem?_eq_getElem (by omega)⟩
      exact tg_ne (u6 i b hb) u1 (by decide) e
  have hkk : Kp (fun q => q = xT X) σ3 (hset σ3 (xT X) (O8 T.1.1 T.1.2.1 T.1.2.2 (some (xB X)) (some (xP X)) (nI (nsq T.2.1 + w * hh)) (nI T.2.2.2) false (some la))) := Kp.set fun _ => rfl
  have hq3 : ∀ {z t c}, σ2 z = some c → tgc c = t → (t = 0 ∨ t = 5) → σ3 z = some c := fun {z t c} hz ht h05 => k3.at hz (by
    rintro (e | ⟨e, -⟩)
    · exact tg_ne ⟨_, hz, ht⟩ u2 (by omega) e
    · exact tg_ne ⟨_, hz, ht⟩ u3 (by omega) e)
  have hq4 : ∀ {z t c}, σ2 z = some c → tgc c = t → (t = 0 ∨ t = 5) → hset σ3 (xT X) (O8 T.1.1 T.1.2.1 T.1.2.2 (some (xB X)) (some (xP X)) (nI (nsq T.2.1 + w * hh)) (nI T.2.2.2) false (some la)) z = some c := fun {z t c} hz ht h05 => hkk.at (hq3 hz ht h05) (fun e => tg_ne ⟨_, hz, ht⟩ u1 (by omega) e)
  refine hK _ (xT X, xB X, xP X, xL' X, (fun i => if i = T.2.1.length then q else xb X i), xp X, xl X) dB' rfl ?_ ⟨⟨h.1.1, ?_⟩, ⟨h.2.1.1, ?_, ?_⟩, ⟨h.2.2.1.1, h.2.2.1.2.1, ?_⟩, ⟨h.2.2.2.1.1, ?_⟩, fun k b hk => ?_, fun k p hp => ?_⟩
  · refine Kp.sset ((hk2.mo fun _ _ hc => hc.elim).tr2 k3 fun z hz hs => ?_) fun _ => Or.inl rfl
    rcases hs with e | e
    · exact Or.inr (Or.inl e)
    · exact Or.inr (Or.inr e)
  · rw [hset_eq, addB, nsq_app]
  · rcases e3 with ⟨e4, -⟩ | e4
    · rw [e4]; exact h.2.1.2.1
    · exact hfr _ (hk2.fr e4)
  · have := a3.kp hkk (Ne.symm n1) n3 hx3
    simpa [addB] using this
  · refine (h2.2.2.1.2.2.kp k3 ?_ ?_ ?_).kp hkk (fun e => tg_ne u1 u4 (by decide) e.symm) (fun e => tg_ne u1 u5 (by decide) e.symm) ?_
    · rintro (e | ⟨e, -⟩)
      · exact h.2.2.2.1.1 e.symm
      · exact tg_ne u4 u3 (by decide) e
    · rintro (e | ⟨e, h0⟩)
      · exact tg_ne u5 u2 (by decide) e
      · have h9 := h.2.2.2.1.2 e.symm
        obtain ⟨md, g, _, _, b3, _⟩ := h.2.1.2.2
        have := b3.mpr h9
        omega
    · rintro i hi (e | ⟨e, -⟩)
      · obtain ⟨p, hp⟩ : ∃ p, T.2.2.1[i]? = some p := ⟨_, List.getElem?_eq_getElem hi⟩
        exact tg_ne (u7 i p hp) u2 (by decide) e
      · obtain ⟨p, hp⟩ : ∃ p, T.2.2.1[i]? = some p := ⟨_, List.getElem?_eq_getElem hi⟩
        exact tg_ne (u7 i p hp) u3 (by decide) e
    · intro i hi e
      obtain ⟨p, hp⟩ : ∃ p, T.2.2.1[i]? = some p := ⟨_, List.getElem?_eq_getElem hi⟩
      exact tg_ne (u7 i p hp) u1 (by decide) e
  · intro e
    exfalso
    rcases e3 with ⟨e4, h0⟩ | e4
    · have h9 := h.2.2.2.1.2 (e4.symm.trans e)
      obtain ⟨md, g, _, _, b3, _⟩ := h.2.1.2.2
      have := b3.mpr h9
      omega
    · obtain ⟨c, h9, -⟩ := u5
      rw [e, h9] at e4
      cases e4
  · simp only [addB] at hk
    by_cases hl : k < T.2.1.length
    · rw [List.getElem?_append_left hl] at hk
      have h9 := h2.2.2.2.2.1 k b hk
      simp only [xb]
      rw [if_neg (by omega)]
      exact ⟨h9.1, hq4 h9.2 rfl (Or.inl rfl)⟩
    · have := (List.getElem?_eq_some_iff.mp hk).1
      rw [List.length_append, List.length_cons, List.length_nil] at this
      obtain rfl : k = T.2.1.length := by omega
      simp only [List.getElem?_concat_length, Option.some.injEq] at hk
      subst hk
      simp only [xb, if_true]
      exact ⟨hfr q hq, hq4 hq2 rfl (Or.inl rfl)⟩
  · have h9 := h2.2.2.2.2.2 k p hp
    exact ⟨h9.1, hq4 h9.2 rfl (Or.inr rfl)⟩
end BLD
