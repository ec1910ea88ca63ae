/-! THE CLASS holds what is answered: CI -/
def lst (o : Option TB) : List LY := match o with
  | none => []
  | some T => allL T
/-- the Outlook, turned to anything -/
def OUg (P : Nat → Nat) (N : Nat) (C : Nat → CE) : Prop := ∃ tb st s S, s ≤ 14 ∧ st ≤ N % 1024 ∧ N / 1024 ≤ s ∧ (∀ j, j < 2 * 2 ^ s → ∃ x, x ≤ st ∧ kn S j = nI x) ∧ (∀ j, j < 2 ^ s → ∃ x, x ≤ st ∧ gk S j = nI x) ∧ ∀ k, 2 ≤ k → k ≤ 11 → C k = oc P tb st s S C k
theorem OUr.g {P : Nat → Nat} {X : TX} {T : TB} {N : Nat} {C : Nat → CE} (h : OUr P X T N C) : OUg P N C := by
  obtain ⟨st, s, S, h1, h2, h3, h4, h5, h6⟩ := h
  exact ⟨_, st, s, S, h1, h3, h4, h5.1, h5.2.1, h6⟩
theorem OUg.cg {P : Nat → Nat} {N : Nat} {C C' : Nat → CE} (h : OUg P N C) (hc : ∀ k, 2 ≤ k → k ≤ 11 → C' k = C k) : OUg P N C' := by
  obtain ⟨tb, st, s, S, h1, h2, h3, h4, h5, h6⟩ := h
  exact ⟨tb, st, s, S, h1, h2, h3, h4, h5, fun k a b => by rw [hc k a b, h6 k a b]; exact oc_in _ _ a b⟩
/-- the object itself -/
def C0r (Z : ST) (P : Nat → Nat) (X : TX) (C : Nat → CE) : Prop := ∃ fp, C 0 = O11 (some (P 1)) (nI (zN Z)) (nI (zF Z)) fp (nI (zR Z)) ((zT Z).map fun _ => xT X) (some (P 2)) (some (P 12)) (some (P 14)) (some (P 16)) (some (P 57)) (some (P 60)) ∧ (zR Z = 4 → fp = nI (zP Z))
/-- the rest: tape, laid, told, past, players, rows -/
def C1r (Z : ST) (P : Nat → Nat) (X : TX) (C : Nat → CE) : Prop := (∃ f, C 1 = iA 900 f ∧ ∀ j, j < zN Z → f j = nI (zB Z j)) ∧ LDr P (xl X) (lst (zT Z)) C 12 (zW Z) ∧ LDs P C 14 ∧ PAr P (xl X) (lst (zT Z)) C (zU Z) (zI Z) ∧ (C 57 = O6 (some (P 58)) ∧ LDs P C 58) ∧ RWr P C
def CIq (Z : ST) (N : Nat) (Mo : Nat → Prop) (P : Nat → Nat) (τ : Hp) (C : Nat → CE) (Q : Nat → Prop) (X : TX) : Prop := okB 75 P ∧ (∀ q, Q q → outB 75 P q ∧ ¬ Mo q) ∧ C0r Z P X C ∧ C1r Z P X C ∧ OUg P N C ∧ ∀ T, zT Z = some T → TBr Q τ X T ∧ OUr P X T N C
def CI (Z : ST) (N : Nat) (Mo : Nat → Prop) (P : Nat → Nat) (τ : Hp) (C : Nat → CE) : Prop := ∃ Q X, CIq Z N Mo P τ C Q X
theorem LDs.ck {P : Nat → Nat} {C C' : Nat → CE} {k : Nat} (h : LDs P C k) (hc : ∀ j, k ≤ j → j ≤ k + 1 → C' j = C j) : LDs P C' k := h.cg (hc _ (Nat.le_refl _) (by omega)) (hc _ (by omega) (Nat.le_refl _))
theorem LDr.ck {P : Nat → Nat} {xl : Nat → Nat} {L : List LY} {C C' : Nat → CE} {k : Nat} {r : RO} (h : LDr P xl L C k r) (hc : ∀ j, k ≤ j → j ≤ k + 1 → C' j = C j) : LDr P xl L C' k r := h.cg (hc _ (Nat.le_refl _) (by omega)) (hc _ (by omega) (Nat.le_refl _))
section CI
variable {l : Launch} {G : GG} {d : Nat} {Z : ST} {N : Nat} {Mo : Nat → Prop} {P : Nat → Nat} {τ : Hp} {C C' : Nat → CE} {Q : Nat → Prop} {X : TX} {T : TB}
theorem C1r.cg (h : C1r Z P X C) (hc : ∀ j, 1 ≤ j → j < 2 ∨ 11 < j → j < 75 → C' j = C j) : C1r Z P X C' := by
  obtain ⟨⟨f, h1, h2⟩, h3, h4, h5, ⟨h6, h7⟩, h8⟩ := h
  exact ⟨⟨f, (hc 1 (by decide) (by decide) (by decide)).trans h1, h2⟩, h3.ck fun j a b => hc j (by omega) (by omega) (by omega), h4.ck fun j a b => hc j (by omega) (by omega) (by omega), h5.cg fun j a b => hc j (by omega) (by omega) (by omega), ⟨(hc 57 (by decide) (by decide) (by decide)).trans h6, h7.ck fun j a b => hc j (by omega) (by omega) (by omega)⟩, h8.cg fun j a b => hc j (by omega) (by omega) (by omega)⟩
/-- the Outlook works out more -/
theorem CIq.ou (h : CIq Z N Mo P τ C Q X) (hT : zT Z = some T) (hc : Ck 2 11 C C') (ho : OUr P X T N C') : CIq Z N Mo P τ C' Q X := by
  obtain ⟨h1, h2, ⟨fp, h3, h3'⟩, h4, h5, h6⟩ := h
  refine ⟨h1, h2, ⟨fp, (hc 0 (by omega)).trans h3, h3'⟩, h4.cg fun j _ a _ => hc j a, ho.g, fun T' hT' => ?_⟩
  rw [hT] at hT'
  cases hT'
  exact ⟨(h6 T hT).1, ho⟩
/-- the players' walk goes on -/
theorem CIq.wk (h : CIq Z N Mo P τ C Q X) (hT : zT Z = some T) (hc : Fk 58 C C') (ho : OUr P X T N C') (hs : LDs P C' 58) : CIq Z N Mo P τ C' Q X := by
  obtain ⟨h1, h2, ⟨fp, h3, h3'⟩, ⟨⟨f, g1, g2⟩, g3, g4, g5, ⟨g6, g7⟩, g8⟩, h5, h6⟩ := h
  have hk : ∀ j, j < 2 ∨ 11 < j → j ≠ 58 → j ≠ 59 → C' j = C j := hc
  refine ⟨h1, h2, ⟨fp, (hk 0 (by omega) (by decide) (by decide)).trans h3, h3'⟩, ⟨⟨f, (hk 1 (by decide) (by decide) (by decide)).trans g1, g2⟩, g3.ck fun j a b => hk j (by omega) (by omega) (by omega), g4.ck fun j a b => hk j (by omega) (by omega) (by omega), g5.cg fun j a b => hk j (by omega) (by omega) (by omega), ⟨(hk 57 (by decide) (by decide) (by decide)).trans g6, hs⟩, g8.cg fun j a b => hk j (by omega) (by omega) (by omega)⟩, ho.g, fun T' hT' => ?_⟩
  rw [hT] at hT'
  cases hT'
  exact ⟨(h6 T hT).1, ho⟩
/-- the rows are laid out -/
theorem CIq.rw (h : CIq Z N Mo P τ C Q X) (hc : Ck 60 74 C C') (hr : RWr P C') : CIq Z N Mo P τ C' Q X := by
  obtain ⟨h1, h2, ⟨fp, h3, h3'⟩, ⟨⟨f, g1, g2⟩, g3, g4, g5, ⟨g6, g7⟩, g8⟩, h5, h6⟩ := h
  exact ⟨h1, h2, ⟨fp, (hc 0 (by omega)).trans h3, h3'⟩, ⟨⟨f, (hc 1 (by decide)).trans g1, g2⟩, g3.ck fun j a b => hc j (by omega), g4.ck fun j a b => hc j (by omega), g5.cg fun j a b => hc j (by omega), ⟨(hc 57 (by decide)).trans g6, g7.ck fun j a b => hc j (by omega)⟩, hr⟩, h5.cg fun j a b => hc j (by omega), fun T hT => ⟨(h6 T hT).1, (h6 T hT).2.cg fun j a b => hc j (by omega)⟩⟩
theorem CIq.so (h : CIq Z N Mo P τ C Q X) (hT : zT Z = some T) (hW : WFT T) : SS P τ Q X T ∧ OUr P X T N C ∧ LDr P (xl X) (allL T) C 12 (zW Z) := by
  obtain ⟨h1, h2, h3, h4, h5, h6⟩ := h
  refine ⟨⟨h1, (h6 T hT).1, fun q hq => (h2 q hq).1, hW⟩, (h6 T hT).2, ?_⟩
  have := h4.2.1
  rwa [hT] at this
theorem CIq.t (h : CIq Z N Mo P τ C Q X) {t : Nat} (ht : t ≠ 4) {C' : Nat → CE} (hc : ∀ j, j ≠ 0 → C' j = C j) (h0 : ∀ fp, C 0 = O11 (some (P 1)) (nI (zN Z)) (nI (zF Z)) fp (nI (zR Z)) ((zT Z).map fun _ => xT X) (some (P 2)) (some (P 12)) (some (P 14)) (some (P 16)) (some (P 57)) (some (P 60)) → C' 0 = O11 (some (P 1)) (nI (zN Z)) (nI (zF Z)) fp (nI t) ((zT Z).map fun _ => xT X) (some (P 2)) (some (P 12)) (some (P 14)) (some (P 16)) (some (P 57)) (some (P 60))) : CIq (zt Z t) N Mo P τ C' Q X := by
  obtain ⟨h1, h2, ⟨fp, h3, h3'⟩, h4, h5, h6⟩ := h
  have h7 : C1r (zt Z t) P X C' := C1r.cg (C := C) h4 fun j a _ _ => hc j (by omega)
  exact ⟨h1, h2, ⟨fp, h0 fp h3, fun e => absurd e ht⟩, h7, h5.cg fun j a _ => hc j (by omega), fun T hT => ⟨(h6 T hT).1, (h6 T hT).2.cg fun j a _ => hc j (by omega)⟩⟩
theorem CIq.tau (h : CIq Z N Mo P τ C Q X) {τ' : Hp} (ht : ∀ q, ¬ Mo q → τ' q = τ q) : CIq Z N Mo P τ' C Q X := by
  obtain ⟨h1, h2, h3, h4, h5, h6⟩ := h
  exact ⟨h1, h2, h3, h4, h5, fun T hT => ⟨(h6 T hT).1.mo fun q hq => ht q (h2 q hq).2, (h6 T hT).2⟩⟩
theorem s_X11_refuse (h : CIq Z N Mo P τ C Q X) {t : Nat} (ht : t ≠ 4) {K : Int32 → Hp → Prop} (hK : ∀ C', CI (zt Z t) N Mo P τ C' → K (-1) (ch 75 P C' τ)) : C_X11_refuse l G (d + 1) (P 0) (nI t) (ch 75 P C τ) K := by
  obtain ⟨fp, h0, h0'⟩ := h.2.2.1
  have hB := h.1
  refine m_X11_refuse (rv_c hB (by decide) (by rw [h0]; exact ⟨_, rfl⟩)) ?_
  simp only [F_X11_refuse, fI_c hB, fZ_c hB, fJ_c hB, fR_c hB, fN_c hB, pF_c hB, gI_c hB, gZ_c hB, gJ_c hB, gN_c hB, sI_c hB, sZ_c hB, sJ_c hB, sN_c hB, aL_c hB, Nat.reduceLT, h0, rR11_0, rN11_0, rP11_0, rI11_1, rP11_1, rI11_2, rP11_2, rI11_3, rP11_3, rI11_4, rP11_4, rR11_5, rN11_5, rP11_5, rR11_6, rN11_6, rP11_6, rR11_7, rN11_7, rP11_7, rR11_8, rN11_8, rP11_8, rR11_9, rN11_9, rP11_9, rR11_10, rN11_10, rP11_10, rR11_11, rN11_11, rP11_11]
  exact hK _ ⟨Q, X, h.t ht (fun j hj => up_ne hj) fun fp' h1 => by rw [up_eq]; rw [h0] at h1; cases h1; rfl⟩
theorem s_X11_accept (h : CIq Z N Mo P τ C Q X) {v : Int32} {K : Int32 → Hp → Prop} (hK : ∀ C', CIq (zt Z 0) N Mo P τ C' Q X → K v (ch 75 P C' τ)) : C_X11_accept l G (d + 1) (P 0) v (ch 75 P C τ) K := by
  obtain ⟨fp, h0, h0'⟩ := h.2.2.1
  have hB := h.1
  refine m_X11_accept (rv_c hB (by decide) (by rw [h0]; exact ⟨_, rfl⟩)) ?_
  simp only [F_X11_accept, fI_c hB, fZ_c hB, fJ_c hB, fR_c hB, fN_c hB, pF_c hB, gI_c hB, gZ_c hB, gJ_c hB, gN_c hB, sI_c hB, sZ_c hB, sJ_c hB, sN_c hB, aL_c hB, Nat.reduceLT, h0, rR11_0, rN11_0, rP11_0, rI11_1, rP11_1, rI11_2, rP11_2, rI11_3, rP11_3, rI11_4, rP11_4, rR11_5, rN11_5, rP11_5, rR11_6, rN11_6, rP11_6, rR11_7, rN11_7, rP11_7, rR11_8, rN11_8, rP11_8, rR11_9, rN11_9, rP11_9, rR11_10, rN11_10, rP11_10, rR11_11, rN11_11, rP11_11]
  exact hK _ (h.t (by decide) (fun j hj => up_ne hj) fun fp' h1 => by rw [up_eq]; rw [h0] at h1; cases h1; rfl)
theorem s_X11_deny (h : CIq Z N Mo P τ C Q X) {t : Nat} (ht : t ≠ 4) {K : Bool → Hp → Prop} (hK : ∀ C', CI (zt Z t) N Mo P τ C' → K false (ch 75 P C' τ)) : C_X11_deny l G (d + 1) (P 0) (nI t) (ch 75 P C τ) K := by
  obtain ⟨fp, h0, h0'⟩ := h.2.2.1
  have hB := h.1
  refine m_X11_deny (rv_c hB (by decide) (by rw [h0]; exact ⟨_, rfl⟩)) ?_
  simp only [F_X11_deny, fI_c hB, fZ_c hB, fJ_c hB, fR_c hB, fN_c hB, pF_c hB, gI_c hB, gZ_c hB, gJ_c hB, gN_c hB, sI_c hB, sZ_c hB, sJ_c hB, sN_c hB, aL_c hB, Nat.reduceLT, h0, rR11_0, rN11_0, rP11_0, rI11_1, rP11_1, rI11_2, rP11_2, rI11_3, rP11_3, rI11_4, rP11_4, rR11_5, rN11_5, rP11_5, rR11_6, rN11_6, rP11_6, rR11_7, rN11_7, rP11_7, rR11_8, rN11_8, rP11_8, rR11_9, rN11_9, rP11_9, rR11_10, rN11_10, rP11_10, rR11_11, rN11_11, rP11_11]
  exact hK _ ⟨Q, X, h.t ht (fun j hj => up_ne hj) fun fp' h1 => by rw [up_eq]; rw [h0] at h1; cases h1; rfl⟩
theorem s_X11_grant (h : CIq Z N Mo P τ C Q X) {K : Bool → Hp → Prop} (hK : ∀ C', CI (zt Z 0) N Mo P τ C' → K true (ch 75 P C' τ)) : C_X11_grant l G (d + 1) (P 0) (ch 75 P C τ) K := by
  obtain ⟨fp, h0, h0'⟩ := h.2.2.1
  have hB := h.1
  refine m_X11_grant (rv_c hB (by decide) (by rw [h0]; exact ⟨_, rfl⟩)) ?_
  simp only [F_X11_grant, fI_c hB, fZ_c hB, fJ_c hB, fR_c hB, fN_c hB, pF_c hB, gI_c hB, gZ_c hB, gJ_c hB, gN_c hB, sI_c hB, sZ_c hB, sJ_c hB, sN_c hB, aL_c hB, Nat.reduceLT, h0, rR11_0, rN11_0, rP11_0, rI11_1, rP11_1, rI11_2, rP11_2, rI11_3, rP11_3, rI11_4, rP11_4, rR11_5, rN11_5, rP11_5, rR11_6, rN11_6, rP11_6, rR11_7, rN11_7, rP11_7, rR11_8, rN11_8, rP11_8, rR11_9, rN11_9, rP11_9, rR11_10, rN11_10, rP11_10, rR11_11, rN11_11, rP11_11]
  exact hK _ ⟨Q, X, h.t (by decide) (fun j hj => up_ne hj) fun fp' h1 => by rw [up_eq]; rw [h0] at h1; cases h1; rfl⟩
/-- fields of the object -/
theorem g_cur (h : CIq Z N Mo P τ C Q X) {K : Option Nat → Prop} : fR (ch 75 P C τ) (P 0) 11 5 K = K ((zT Z).map fun _ => xT X) := by
  obtain ⟨fp, h0, h0'⟩ := h.2.2.1
  rw [fR_c h.1 (by decide), h0]; exact rR11_5
theorem g_outl (h : CIq Z N Mo P τ C Q X) {K : Nat → Prop} : fN (ch 75 P C τ) (P 0) 11 6 K = K (P 2) := by
  obtain ⟨fp, h0, h0'⟩ := h.2.2.1
  rw [fN_c h.1 (by decide), h0]; exact rN11_6
theorem g_laid (h : CIq Z N Mo P τ C Q X) {K : Nat → Prop} : fN (ch 75 P C τ) (P 0) 11 7 K = K (P 12) := by
  obtain ⟨fp, h0, h0'⟩ := h.2.2.1
  rw [fN_c h.1 (by decide), h0]; exact rN11_7
theorem g_past (h : CIq Z N Mo P τ C Q X) {K : Nat → Prop} : fN (ch 75 P C τ) (P 0) 11 9 K = K (P 16) := by
  obtain ⟨fp, h0, h0'⟩ := h.2.2.1
  rw [fN_c h.1 (by decide), h0]; exact rN11_9
theorem g_play (h : CIq Z N Mo P τ C Q X) {K : Nat → Prop} : fN (ch 75 P C τ) (P 0) 11 10 K = K (P 57) := by
  obtain ⟨fp, h0, h0'⟩ := h.2.2.1
  rw [fN_c h.1 (by decide), h0]; exact rN11_10
theorem g_rows (h : CIq Z N Mo P τ C Q X) {K : Nat → Prop} : fN (ch 75 P C τ) (P 0) 11 11 K = K (P 60) := by
  obtain ⟨fp, h0, h0'⟩ := h.2.2.1
  rw [fN_c h.1 (by decide), h0]; exact rN11_11
theorem g_tk (h : CIq Z N Mo P τ C Q X) {K : Int32 → Prop} : fI (ch 75 P C τ) (P 12) 1 2 K = K (nI (tkn (lst (zT Z)) (zW Z).1)) := by
  rw [fI_c h.1 (by decide), h.2.2.2.1.2.1.1]; exact rI1_2
theorem rv_0 (h : CIq Z N Mo P τ C Q X) : rv (ch 75 P C τ) (P 0) 11 := by
  obtain ⟨fp, h0, h0'⟩ := h.2.2.1
  exact rv_c h.1 (by decide) (by rw [h0]; exact ⟨_, rfl⟩)
theorem n_next (h : CIq Z N Mo P τ C Q X) {K : Int32 → Hp → Prop} (hK : K (nI ((zW Z).1.length % 2)) (ch 75 P C τ)) : C_X1_next l G (d + 1) (P 12) (ch 75 P C τ) K := s_X1_next h.1 (by decide) h.2.2.2.1.2.1 hK
/-- a lay's number -/
theorem s_X11_numberOf {σ : Hp} (hX : TBr Q σ X T) {o : Option Nat} (ho : ∀ n, o = some n → ∃ e, (allL T)[n]? = some e) {K : Int32 → Hp → Prop} (hK : K (optF o) σ) : C_X11_numberOf l G (d + 1) (o.map (xl X)) σ K := by
  refine m_X11_numberOf ?_
  simp only [F_X11_numberOf_13, F_X11_numberOf]
  cases o with
  | none => exact ⟨fun b hb => (by cases hb), fun _ => hK⟩
  | some n =>
    obtain ⟨e, he⟩ := ho n rfl
    obtain ⟨g, g1, g2, g3⟩ := hX.lay he
    refine ⟨fun b hb => ?_, fun hc => (by cases hc)⟩
    cases hb
    simp only [fI_at g3, rI2_0, rP2_0, rR2_1, rN2_1, rP2_1, rR2_2, rN2_2, rP2_2, rI2_3, rP2_3, rI2_4, rP2_4, rI2_5, rP2_5, rI2_6, rP2_6, rI2_7, rP2_7, rR2_8, rN2_8, rP2_8]
    exact hK
end CI
