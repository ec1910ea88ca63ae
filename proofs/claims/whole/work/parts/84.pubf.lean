/-! public methods of the class: what is told; acts -/
section PUBF
variable {l : Launch} {G : GG} {d : Nat} {Z : ST} {N : Nat} {Mo : Nat → Prop} {P : Nat → Nat} {τ : Hp} {C C' : Nat → CE} {Q : Nat → Prop} {X : TX} {T : TB}
theorem g_ct (h : CIq Z N Mo P τ C Q X) {K : Int32 → Prop} : fI (ch 75 P C τ) (P 12) 1 1 K = K (nI (zW Z).1.length) := by
  rw [fI_c h.1 (by decide), h.2.2.2.1.2.1.1]; exact rI1_1
theorem g_sd (h : CIq Z N Mo P τ C Q X) {K : Int32 → Prop} : fI (ch 75 P C τ) (P 12) 1 3 K = K (nI (zW Z).2) := by
  rw [fI_c h.1 (by decide), h.2.2.2.1.2.1.1]; exact rI1_3
theorem g_kp (h : CIq Z N Mo P τ C Q X) {K : Int32 → Prop} : fI (ch 75 P C τ) (P 16) 4 2 K = K (nI (zU Z).length) := by
  obtain ⟨top, g, g', a1, a2, a3⟩ := h.2.2.2.1.2.2.2.1
  rw [fI_c h.1 (by decide), a2]; exact rI4_2
theorem g_im (h : CIq Z N Mo P τ C Q X) {K : Int32 → Prop} : fI (ch 75 P C τ) (P 16) 4 4 K = K (nI (zI Z).length) := by
  obtain ⟨top, g, g', a1, a2, a3⟩ := h.2.2.2.1.2.2.2.1
  rw [fI_c h.1 (by decide), a2]; exact rI4_4
theorem g_len (h : CIq Z N Mo P τ C Q X) {K : Int32 → Prop} : fI (ch 75 P C τ) (P 0) 11 1 K = K (nI (zN Z)) := by
  obtain ⟨fp, h0, h0'⟩ := h.2.2.1
  rw [fI_c h.1 (by decide), h0]; exact rI11_1
theorem p_X11_fault (hC : CI Z N Mo P τ C) {K : Int32 → Hp → Prop} (hK : K (nI (zF Z)) (ch 75 P C τ)) : C_X11_fault l G (d + 30) (P 0) (ch 75 P C τ) K := by
  obtain ⟨Q, X, h⟩ := hC
  refine m_X11_fault (rv_0 h) ?_
  obtain ⟨fp, h0, h0'⟩ := h.2.2.1
  have hB := h.1
  simp only [F_X11_fault, fI_c hB, fZ_c hB, fJ_c hB, fR_c hB, fN_c hB, pF_c hB, gI_c hB, gZ_c hB, gJ_c hB, gN_c hB, sI_c hB, sZ_c hB, sJ_c hB, sN_c hB, aL_c hB, Nat.reduceLT, h0, rR11_0, rN11_0, rP11_0, rI11_1, rP11_1, rI11_2, rP11_2, rI11_3, rP11_3, rI11_4, rP11_4, rR11_5, rN11_5, rP11_5, rR11_6, rN11_6, rP11_6, rR11_7, rN11_7, rP11_7, rR11_8, rN11_8, rP11_8, rR11_9, rN11_9, rP11_9, rR11_10, rN11_10, rP11_10, rR11_11, rN11_11, rP11_11]
  exact hK
theorem p_X11_trouble (hC : CI Z N Mo P τ C) {K : Int32 → Hp → Prop} (hK : K (nI (zR Z)) (ch 75 P C τ)) : C_X11_trouble l G (d + 30) (P 0) (ch 75 P C τ) K := by
  obtain ⟨Q, X, h⟩ := hC
  refine m_X11_trouble (rv_0 h) ?_
  obtain ⟨fp, h0, h0'⟩ := h.2.2.1
  have hB := h.1
  simp only [F_X11_trouble, fI_c hB, fZ_c hB, fJ_c hB, fR_c hB, fN_c hB, pF_c hB, gI_c hB, gZ_c hB, gJ_c hB, gN_c hB, sI_c hB, sZ_c hB, sJ_c hB, sN_c hB, aL_c hB, Nat.reduceLT, h0, rR11_0, rN11_0, rP11_0, rI11_1, rP11_1, rI11_2, rP11_2, rI11_3, rP11_3, rI11_4, rP11_4, rR11_5, rN11_5, rP11_5, rR11_6, rN11_6, rP11_6, rR11_7, rN11_7, rP11_7, rR11_8, rN11_8, rP11_8, rR11_9, rN11_9, rP11_9, rR11_10, rN11_10, rP11_10, rR11_11, rN11_11, rP11_11]
  exact hK
theorem p_X11_where (hZ : VZ Z) (hC : CI Z N Mo P τ C) {K : Int32 → Hp → Prop} (hK : K (q_where Z) (ch 75 P C τ)) : C_X11_where l G (d + 30) (P 0) (ch 75 P C τ) K := by
  obtain ⟨Q, X, h⟩ := hC
  refine m_X11_where (rv_0 h) ?_
  obtain ⟨fp, h0, h0'⟩ := h.2.2.1
  have hB := h.1
  have h7 := hZ.2.2.2.2.1
  simp only [F_X11_where_16, F_X11_where, fI_c hB, fZ_c hB, fJ_c hB, fR_c hB, fN_c hB, pF_c hB, gI_c hB, gZ_c hB, gJ_c hB, gN_c hB, sI_c hB, sZ_c hB, sJ_c hB, sN_c hB, aL_c hB, Nat.reduceLT, h0, rR11_0, rN11_0, rP11_0, rI11_1, rP11_1, rI11_2, rP11_2, rI11_3, rP11_3, rI11_4, rP11_4, rR11_5, rN11_5, rP11_5, rR11_6, rN11_6, rP11_6, rR11_7, rN11_7, rP11_7, rR11_8, rN11_8, rP11_8, rR11_9, rN11_9, rP11_9, rR11_10, rN11_10, rP11_10, rR11_11, rN11_11, rP11_11]
  rw [show (4 : Int32) = nI 4 from rfl, nt_eq (by omega) (by decide)]
  unfold q_where at hK
  refine ⟨fun e => ?_, fun e => ?_⟩
  · rwa [if_neg e] at hK
  · rw [if_pos e] at hK
    rwa [h0' e]
theorem p_X11_told (hZ : VZ Z) (hC : CI Z N Mo P τ C) {w : Int32} {K : Int32 → Hp → Prop} (hK : K (q_told Z w) (ch 75 P C τ)) : C_X11_told l G (d + 30) (P 0) w (ch 75 P C τ) K := by
  obtain ⟨Q, X, h⟩ := hC
  refine m_X11_told (rv_0 h) ?_
  simp only [F_X11_told, g_laid h, g_past h, g_ct h, g_sd h, g_kp h, g_im h, g_len h]
  cases hT : zT Z with
  | none =>
    have hz := hZ.2.2.2.2.2.2.2
    rw [hT] at hz
    obtain ⟨z1, z2, z3⟩ := hz
    simp only [q_told, hT] at hK
    refine ⟨fun e => ?_, fun e => ?_, fun e => ?_, fun e => ?_, fun e => ?_, fun e => ?_, fun e6 e7 e8 e9 e10 e11 => ?_⟩
    · subst e
      rw [if_neg (by decide), if_pos (by decide)] at hK
      rw [z1]; exact hK
    · subst e
      rw [if_neg (by decide), if_pos (by decide)] at hK
      refine n_next (d := d + 28) h ?_
      rw [z1]; exact hK
    · subst e
      rw [if_neg (by decide), if_pos (by decide)] at hK
      rw [z1]; exact hK
    · subst e
      rw [if_neg (by decide), if_pos (by decide)] at hK
      rw [z2]; exact hK
    · subst e
      rw [if_neg (by decide), if_pos (by decide)] at hK
      rw [z3]; exact hK
    · subst e
      rw [if_pos rfl] at hK
      exact hK
    · rw [if_neg e11] at hK
      refine m_X11_toldOfTable (rv_0 h) ?_
      simp only [F_X11_toldOfTable_9, F_X11_toldOfTable_128, F_X11_toldOfTable_112, F_X11_toldOfTable, g_cur h, g_cur h, g_outl h, g_laid h, g_past h, g_play h, g_rows h, g_tk h, hT, lst, Option.map_some, Option.map_none, Option.some.injEq, exists_eq_left', forall_eq', reduceCtorEq, false_implies, true_implies, forall_const, true_and, and_true]
      refine ⟨fun h1 => ?_, fun h1 => ⟨fun h2 => ?_, fun h2 => ?_⟩⟩
      · rwa [inR, decide_eq_false (show ¬ (¬ w < nI 0 ∧ ¬ nI 10 < w) from fun hc => hc.1 h1), if_neg (by decide)] at hK
      · obtain ⟨a, ha, rfl⟩ := nt_of h1
        rw [show (5 : Int32) = nI 5 from rfl, nt_le ha (by decide)] at h2
        rwa [inR, decide_eq_true (show ¬ nI a < nI 0 ∧ ¬ nI 10 < nI a from ⟨h1, fun hc => by rw [nt_lt (by decide) ha] at hc; omega⟩), if_pos rfl] at hK
      · obtain ⟨a, ha, rfl⟩ := nt_of h1
        rw [show (5 : Int32) = nI 5 from rfl, nt_le ha (by decide)] at h2
        rw [show (6 : Int32) = nI 6 from rfl, nt_eq ha (by decide)] at e6
        rw [show (7 : Int32) = nI 7 from rfl, nt_eq ha (by decide)] at e7
        rw [show (8 : Int32) = nI 8 from rfl, nt_eq ha (by decide)] at e8
        rw [show (9 : Int32) = nI 9 from rfl, nt_eq ha (by decide)] at e9
        rw [show (10 : Int32) = nI 10 from rfl, nt_eq ha (by decide)] at e10
        rwa [inR, decide_eq_false (show ¬ (¬ nI a < nI 0 ∧ ¬ nI 10 < nI a) from fun hc => hc.2 ((nt_lt (by decide) ha).mpr (by omega))), if_neg (by decide)] at hK
  | some T =>
    obtain ⟨hW, hV, hG, htk, hwho, hsd⟩ := hZ.so hT
    obtain ⟨hS, hO, hr⟩ := h.so hT hW
    have hX := hS.hX C
    simp only [q_told, hT] at hK
    refine ⟨fun e => ?_, fun e => ?_, fun e => ?_, fun e => ?_, fun e => ?_, fun e => ?_, fun e6 e7 e8 e9 e10 e11 => ?_⟩
    · subst e; exact hK
    · subst e
      exact n_next (d := d + 28) h hK
    · subst e; exact hK
    · subst e; exact hK
    · subst e; exact hK
    · subst e; exact hK
    · refine m_X11_toldOfTable (rv_0 h) ?_
      simp only [F_X11_toldOfTable_9, F_X11_toldOfTable_128, F_X11_toldOfTable_112, F_X11_toldOfTable, g_cur h, g_cur h, g_outl h, g_laid h, g_past h, g_play h, g_rows h, g_tk h, hT, lst, Option.map_some, Option.map_none, Option.some.injEq, exists_eq_left', forall_eq', reduceCtorEq, false_implies, true_implies, forall_const, true_and, and_true]
      have h14 := hW.1.2.1
      have hj := tb_j hW
      refine ⟨fun h1 => ?_, fun h1 => ⟨fun h2 => ⟨fun e => ?_, fun e => ?_, fun e => ?_, fun e => ?_, fun e => ?_, fun e0 e1 e2 e3 e4 => ?_⟩, fun h2 => ?_⟩⟩
      · have hne : ∀ c : Int32, ¬ c < 0 → w ≠ c := fun c hc e => hc (e ▸ h1)
        simp only [hne 11 (by decide), hne 0 (by decide), hne 1 (by decide), hne 2 (by decide), hne 3 (by decide), hne 4 (by decide), hne 5 (by decide), hne 6 (by decide), hne 7 (by decide), hne 8 (by decide), hne 9 (by decide), hne 10 (by decide), if_false] at hK
        exact hK
      · subst e
        simp only [fN_at hX.1.2, rZ8_0, rP8_0, rZ8_1, rP8_1, rZ8_2, rP8_2, rR8_3, rN8_3, rP8_3, rR8_4, rN8_4, rP8_4, rI8_5, rP8_5, rI8_6, rP8_6, rZ8_7, rP8_7, rR8_8, rN8_8, rP8_8]
        exact s_size (d := d + 27) hX.2.1 hK
      · subst e
        simp only [fN_at hX.1.2, rZ8_0, rP8_0, rZ8_1, rP8_1, rZ8_2, rP8_2, rR8_3, rN8_3, rP8_3, rR8_4, rN8_4, rP8_4, rI8_5, rP8_5, rI8_6, rP8_6, rZ8_7, rP8_7, rR8_8, rN8_8, rP8_8]
        exact s_size (d := d + 27) hX.2.2.1 hK
      · subst e
        simp only [fI_at hX.1.2, rZ8_0, rP8_0, rZ8_1, rP8_1, rZ8_2, rP8_2, rR8_3, rN8_3, rP8_3, rR8_4, rN8_4, rP8_4, rI8_5, rP8_5, rI8_6, rP8_6, rZ8_7, rP8_7, rR8_8, rN8_8, rP8_8]
        exact hK
      · subst e
        simp only [fI_at hX.1.2, rZ8_0, rP8_0, rZ8_1, rP8_1, rZ8_2, rP8_2, rR8_3, rN8_3, rP8_3, rR8_4, rN8_4, rP8_4, rI8_5, rP8_5, rI8_6, rP8_6, rZ8_7, rP8_7, rR8_8, rN8_8, rP8_8]
        refine s_J6_bc (d := d + 27) ?_
        rw [bc_of hj]
        exact hK
      · subst e
        simp only [fZ_at hX.1.2, rZ8_0, rP8_0, rZ8_1, rP8_1, rZ8_2, rP8_2, rR8_3, rN8_3, rP8_3, rR8_4, rN8_4, rP8_4, rI8_5, rP8_5, rI8_6, rP8_6, rZ8_7, rP8_7, rR8_8, rN8_8, rP8_8]
        have hK' : K (bi T.1.2.1) (ch 75 P C τ) := hK
        exact ⟨fun e => by rwa [e] at hK', fun e => by rwa [e] at hK'⟩
      · have e5 : w = 5 := by
          obtain ⟨a, ha, rfl⟩ := nt_of h1
          rw [show (5 : Int32) = nI 5 from rfl, nt_le ha (by decide)] at h2
          rw [show (0 : Int32) = nI 0 from rfl, nt_eq ha (by decide)] at e0
          rw [show (1 : Int32) = nI 1 from rfl, nt_eq ha (by decide)] at e1
          rw [show (2 : Int32) = nI 2 from rfl, nt_eq ha (by decide)] at e2
          rw [show (3 : Int32) = nI 3 from rfl, nt_eq ha (by decide)] at e3
          rw [show (4 : Int32) = nI 4 from rfl, nt_eq ha (by decide)] at e4
          rw [show (5 : Int32) = nI 5 from rfl, nt_eq ha (by decide)]
          omega
        subst e5
        simp only [fZ_at hX.1.2, rZ8_0, rP8_0, rZ8_1, rP8_1, rZ8_2, rP8_2, rR8_3, rN8_3, rP8_3, rR8_4, rN8_4, rP8_4, rI8_5, rP8_5, rI8_6, rP8_6, rZ8_7, rP8_7, rR8_8, rN8_8, rP8_8]
        have hK' : K (bi T.1.2.2) (ch 75 P C τ) := hK
        exact ⟨fun e => by rwa [e] at hK', fun e => by rwa [e] at hK'⟩
      · have hne : ∀ c : Int32, c ≤ 5 → w ≠ c := fun c hc e => h2 (e ▸ hc)
        simp only [hne 0 (by decide), hne 1 (by decide), hne 2 (by decide), hne 3 (by decide), hne 4 (by decide), hne 5 (by decide), e6, e7, e8, e9, e10, e11, if_false] at hK
        exact hK
theorem CIq.gn (h : CIq Z N Mo P τ C Q X) (hT : zT Z = some T) {w : RO} {u i : List RO} (hc : ∀ j, j < 2 ∨ 11 < j → j < 12 ∨ j = 14 ∨ j = 15 ∨ 56 < j → C' j = C j) (ho : OUr P X T N C') (h1 : LDr P (xl X) (allL T) C' 12 w) (h2 : PAr P (xl X) (allL T) C' u i) : CIq (za Z w u i) N Mo P τ C' Q X := by
  obtain ⟨a1, a2, ⟨fp, a3, a3'⟩, ⟨⟨f, g1, g2⟩, g3, g4, g5, ⟨g6, g7⟩, g8⟩, a5, a6⟩ := h
  refine ⟨a1, a2, ⟨fp, (hc 0 (by omega) (by omega)).trans a3, a3'⟩, ⟨⟨f, (hc 1 (by omega) (by omega)).trans g1, g2⟩, ?_, g4.ck fun j a b => hc j (by omega) (by omega), ?_, ⟨(hc 57 (by omega) (by omega)).trans g6, g7.ck fun j a b => hc j (by omega) (by omega)⟩, g8.cg fun j a b => hc j (by omega) (by omega)⟩, ho.g, fun T' hT' => ?_⟩
  · show LDr P (xl X) (lst (zT Z)) C' 12 w
    rw [hT]; exact h1
  · show PAr P (xl X) (lst (zT Z)) C' u i
    rw [hT]; exact h2
  · have hT'' : zT Z = some T' := hT'
    rw [hT] at hT''
    cases hT''
    exact ⟨(a6 T hT).1, ho⟩
theorem CIq.ac (h : CIq Z N Mo P τ C Q X) (hT : zT Z = some T) {w : RO} {u i : List RO} (hc : ∀ j, j < 12 ∨ j = 14 ∨ j = 15 ∨ 56 < j → C' j = C j) (h1 : LDr P (xl X) (allL T) C' 12 w) (h2 : PAr P (xl X) (allL T) C' u i) : CIq (za Z w u i) N Mo P τ C' Q X :=
  h.gn hT (fun j _ b => hc j b) ((h.2.2.2.2.2 T hT).2.cg fun j _ _ => hc j (by omega)) h1 h2
theorem CIq.pa (h : CIq Z N Mo P τ C Q X) (hT : zT Z = some T) : PAr P (xl X) (allL T) C (zU Z) (zI Z) := by
  have := h.2.2.2.1.2.2.2.1
  rw [hT] at this
  exact this
theorem VZ.ur (hZ : VZ Z) (hT : zT Z = some T) : (∀ u ∈ zU Z, VRo T u) ∧ ∀ u ∈ zI Z, VRo T u := by
  have h := hZ.2.2.2.2.2.2.2
  rw [hT] at h
  exact h.2.2
theorem p_X11_puts (hZ : VZ Z) (hC : CI Z N Mo P τ C) {v : Int32} {K : Bool → Hp → Prop} (hK : ∀ C', CI (n_puts Z v).2 N Mo P τ C' → K (n_puts Z v).1 (ch 75 P C' τ)) : C_X11_puts l G (d + 30) (P 0) v (ch 75 P C τ) K := by
  obtain ⟨Q, X, h⟩ := hC
  refine m_X11_puts (rv_0 h) ?_
  simp only [F_X11_puts]
  simp only [n_puts] at hK
  cases hT : zT Z with
  | none =>
    simp only [hT] at hK
    refine k_lay0 h hT ?_
    simp only [g_cur h, g_outl h, g_laid h, g_past h, g_play h, g_rows h, g_tk h, hT, lst, Option.map_some, Option.map_none, Option.some.injEq, exists_eq_left', forall_eq', reduceCtorEq, false_implies, true_implies, forall_const, true_and, and_true]
    exact s_X11_deny (d := d + 28) (t := 1) h (by decide) hK
  | some T =>
    simp only [hT] at hK
    obtain ⟨hW, hV, hG, htk, hwho, hsd⟩ := hZ.so hT
    obtain ⟨hS, hO, hr⟩ := h.so hT hW
    have hX := hS.hX C
    simp only [ztk] at htk
    simp only [zwh] at hwho
    refine k_lay (d := d + 27) h hT hX hW ?_
    cases hi : ix v (allL T).length with
    | none =>
      simp only [hi] at hK
      simp only [g_cur h, g_outl h, g_laid h, g_past h, g_play h, g_rows h, g_tk h, hT, lst, Option.map_some, Option.map_none, Option.some.injEq, exists_eq_left', forall_eq', reduceCtorEq, false_implies, true_implies, forall_const, true_and, and_true]
      exact s_X11_deny (d := d + 28) (t := 1) h (by decide) hK
    | some i =>
      obtain ⟨rfl, hlt⟩ := ix_some (by have := allL_224 hW; omega) hi
      obtain ⟨e, he⟩ : ∃ e, (allL T)[i]? = some e := ⟨_, List.getElem?_eq_getElem hlt⟩
      simp only [hi, he] at hK
      simp only [g_cur h, g_outl h, g_laid h, g_past h, g_play h, g_rows h, g_tk h, hT, lst, Option.map_some, Option.map_none, Option.some.injEq, exists_eq_left', forall_eq', reduceCtorEq, false_implies, true_implies, forall_const, true_and, and_true]
      refine n_next (d := d + 28) h (hX.my (d := d + 27) hW he (by omega) hwho ⟨fun e1 => ?_, fun e1 => ?_⟩)
      · simp only [ztk, zwh, e1, if_true] at hK
        obtain ⟨w1, w2⟩ := may_13 hV hG he e1
        obtain ⟨q1, q2⟩ := hS.2.1.2.2.2.2.2.2 _ _ he
        simp only [g_past h, g_laid h]
        refine s_X4_keep (d := d + 27) h.1 (h.pa hT) hr (hS.lys hG) fun C1 a1 a2 => ?_
        have hr1 := hr.cg (a1 12 (by omega)) (a1 13 (by omega))
        have h1 : CIq (za Z (zW Z) (keepU Z) (zI Z)) N Mo P τ C1 Q X := h.ac hT (fun j hj => a1 j (by omega)) hr1 a2
        simp only [g_laid h1]
        refine s_X1_add (d := d + 28) (k := 12) h.1 (by decide) hr1 (hS.2.2.1 _ q1) q2 he w1 fun C2 b1 b2 => ?_
        have h2 : CIq (putZ Z i (zW Z).2) N Mo P τ C2 Q X := h.ac hT (fun j hj => (b1 j (by omega)).trans (a1 j (by omega))) b2 (a2.cg fun j _ _ => b1 j (by omega))
        exact s_X11_grant (d := d + 28) h2 hK
      · simp only [ztk, zwh, e1, Bool.false_eq_true, if_false] at hK
        exact s_X11_deny (d := d + 28) (t := 5) h (by decide) hK
theorem p_X11_takes (hZ : VZ Z) (hC : CI Z N Mo P τ C) {K : Int32 → Hp → Prop} (hK : ∀ C', CI (n_takes Z).2 N Mo P τ C' → K (n_takes Z).1 (ch 75 P C' τ)) : C_X11_takes l G (d + 30) (P 0) (ch 75 P C τ) K := by
  obtain ⟨Q, X, h⟩ := hC
  refine m_X11_takes (rv_0 h) ?_
  simp only [F_X11_takes, g_cur h]
  simp only [n_takes] at hK
  cases hT : zT Z with
  | none =>
    simp only [hT] at hK
    simp only [g_cur h, g_outl h, g_laid h, g_past h, g_play h, g_rows h, g_tk h, hT, lst, Option.map_some, Option.map_none, Option.some.injEq, exists_eq_left', forall_eq', reduceCtorEq, false_implies, true_implies, forall_const, true_and, and_true]
    exact s_X11_refuse (d := d + 28) (t := 1) h (by decide) hK
  | some T =>
    simp only [hT] at hK
    obtain ⟨hW, hV, hG, htk, hwho, hsd⟩ := hZ.so hT
    obtain ⟨hS, hO, hr⟩ := h.so hT hW
    have hX := hS.hX C
    simp only [g_cur h, g_outl h, g_laid h, g_past h, g_play h, g_rows h, g_tk h, hT, lst, Option.map_some, Option.map_none, Option.some.injEq, exists_eq_left', forall_eq', reduceCtorEq, false_implies, true_implies, forall_const, true_and, and_true]
    refine s_X1_latest (d := d + 27) h.1 (by decide) hr ?_
    cases hl : (zW Z).1.getLast? with
    | none =>
      simp only [hl] at hK
      simp only [g_cur h, g_outl h, g_laid h, g_past h, g_play h, g_rows h, g_tk h, hT, lst, Option.map_some, Option.map_none, Option.some.injEq, exists_eq_left', forall_eq', reduceCtorEq, false_implies, true_implies, forall_const, true_and, and_true]
      exact s_X11_refuse (d := d + 28) (t := 6) h (by decide) hK
    | some n =>
      simp only [hl] at hK
      simp only [g_cur h, g_outl h, g_laid h, g_past h, g_play h, g_rows h, g_tk h, hT, lst, Option.map_some, Option.map_none, Option.some.injEq, exists_eq_left', forall_eq', reduceCtorEq, false_implies, true_implies, forall_const, true_and, and_true]
      have hls : (zW Z).1 = (zW Z).1.dropLast ++ [n] := by
        rw [List.getLast?_eq_some_iff] at hl
        obtain ⟨ys, hy⟩ := hl
        rw [hy]; simp
      generalize hd : (zW Z).1.dropLast = ls at hls hK
      obtain ⟨e, he, h0⟩ := hG ls.length n (by rw [hls]; simp)
      have h0' : tkn (allL T) ls &&& eS e = 0 := by
        rw [hls, List.take_left'] at h0
        · exact h0
        · rfl
      obtain ⟨q1, q2⟩ := hS.2.1.2.2.2.2.2.2 _ _ he
      refine s_X4_keep (d := d + 27) h.1 (h.pa hT) hr (hS.lys hG) fun C1 a1 a2 => ?_
      have hr1 := hr.cg (a1 12 (by omega)) (a1 13 (by omega))
      have h1 : CIq (za Z (zW Z) (keepU Z) (zI Z)) N Mo P τ C1 Q X := h.ac hT (fun j hj => a1 j (by omega)) hr1 a2
      simp only [g_laid h1]
      refine s_X1_dropLatest (d := d + 26) (k := 12) h.1 (by decide) hr1 hls (hS.2.2.1 _ q1) q2 he h0' (tkn_lt hV ls) (hV n e he).2.2.2.1 fun C2 b1 b2 => ?_
      have h2 : CIq (za Z (ls, (zW Z).2) (keepU Z) (zI Z)) N Mo P τ C2 Q X := h.ac hT (fun j hj => (b1 j (by omega)).trans (a1 j (by omega))) b2 (a2.cg fun j _ _ => b1 j (by omega))
      obtain ⟨g, g1, g2, g3⟩ := (hS.hX C2).lay he
      simp only [fI_at g3, rI2_0, rP2_0, rR2_1, rN2_1, rP2_1, rR2_2, rN2_2, rP2_2, rI2_3, rP2_3, rI2_4, rP2_4, rI2_5, rP2_5, rI2_6, rP2_6, rI2_7, rP2_7, rR2_8, rN2_8, rP2_8]
      exact s_X11_accept (d := d + 28) h2 fun C'' h3 => hK _ ⟨Q, X, h3⟩
theorem p_X11_plays (hZ : VZ Z) (hC : CI Z N Mo P τ C) {p : Int32} {K : Int32 → Hp → Prop} (hK : ∀ C', CI (n_plays Z p).2 N Mo P τ C' → K (n_plays Z p).1 (ch 75 P C' τ)) : C_X11_plays l G (d + 30) (P 0) p (ch 75 P C τ) K := by
  obtain ⟨Q, X, h⟩ := hC
  refine m_X11_plays (rv_0 h) ?_
  simp only [F_X11_plays_14, F_X11_plays, g_cur h]
  simp only [n_plays] at hK
  cases hT : zT Z with
  | none =>
    simp only [hT] at hK
    simp only [g_cur h, g_outl h, g_laid h, g_past h, g_play h, g_rows h, g_tk h, hT, lst, Option.map_some, Option.map_none, Option.some.injEq, exists_eq_left', forall_eq', reduceCtorEq, false_implies, true_implies, forall_const, true_and, and_true]
    exact s_X11_refuse (d := d + 28) (t := 1) h (by decide) hK
  | some T =>
    simp only [hT] at hK
    obtain ⟨hW, hV, hG, htk, hwho, hsd⟩ := hZ.so hT
    obtain ⟨hS, hO, hr⟩ := h.so hT hW
    have hX := hS.hX C
    simp only [g_cur h, g_outl h, g_laid h, g_past h, g_play h, g_rows h, g_tk h, hT, lst, Option.map_some, Option.map_none, Option.some.injEq, exists_eq_left', forall_eq', reduceCtorEq, false_implies, true_implies, forall_const, true_and, and_true]
    refine k_isPlayer (d := d + 28) ?_
    cases hp : inR p 0 4 with
    | false =>
      simp only [hp, Bool.false_eq_true, if_false] at hK
      simp only [g_cur h, g_outl h, g_laid h, g_past h, g_play h, g_rows h, g_tk h, hT, lst, Option.map_some, Option.map_none, Option.some.injEq, exists_eq_left', forall_eq', reduceCtorEq, false_implies, true_implies, forall_const, true_and, and_true]
      exact s_X11_refuse (d := d + 28) (t := 1) h (by decide) hK
    | true =>
      obtain ⟨p', rfl, p1, p2⟩ := inR_some (by decide) (by decide) hp
      simp only [hp, if_true, nI_clamp (show p' < 2 ^ 31 by omega), chZ, lastO] at hK
      simp only [g_cur h, g_outl h, g_laid h, g_past h, g_play h, g_rows h, g_tk h, hT, lst, Option.map_some, Option.map_none, Option.some.injEq, exists_eq_left', forall_eq', reduceCtorEq, false_implies, true_implies, forall_const, true_and, and_true]
      refine k_isOver (d := d + 25) h hT hX hW ?_
      cases hm : mvs T (allL T) (tkn (allL T) (zW Z).1) ((zW Z).1.length % 2) with
      | nil =>
        have hc := chs_none (p := p') (last := (zW Z).1.getLast?) (s := (zW Z).2) hm
        simp only [ztk, zwh, hc] at hK
        exact ⟨fun e => (by cases e), fun _ => s_X11_refuse (d := d + 28) (t := 6) h (by decide) hK⟩
      | cons y ys =>
        obtain ⟨x, e, f1, f2, f3⟩ := chs_ok (T := T) (L := allL T) (p := p') (tk := tkn (allL T) (zW Z).1) (who := (zW Z).1.length % 2) (last := (zW Z).1.getLast?) (s := (zW Z).2) (by rw [hm]; simp)
        have hsd' := chs_sd (T := T) (L := allL T) (p := p') (tk := tkn (allL T) (zW Z).1) (who := (zW Z).1.length % 2) (last := (zW Z).1.getLast?) hsd
        obtain ⟨w1, w2⟩ := may_13 hV hG f2 f3
        obtain ⟨q1, q2⟩ := hS.2.1.2.2.2.2.2.2 _ _ f2
        refine ⟨fun _ => ?_, fun e => (by cases e)⟩
        simp only [g_past h, g_laid h]
        refine s_X4_keep (d := d + 27) h.1 (h.pa hT) hr (hS.lys hG) fun C1 a1 a2 => ?_
        have hr1 := hr.cg (a1 12 (by omega)) (a1 13 (by omega))
        have h1 : CIq (za Z (zW Z) (keepU Z) (zI Z)) N Mo P τ C1 Q X := h.ac hT (fun j hj => a1 j (by omega)) hr1 a2
        simp only [g_laid h1, g_play h1, g_outl h1]
        refine s_X6_choose (d := d + 8) (k := 12) hS (hO.cg fun j _ _ => a1 j (by omega)) (by decide) (by decide) hr1 hG hsd h1.2.2.2.1.2.2.2.2.1.1 (by omega) fun C2 c1 c2 c3 => ?_
        simp only [ztk, zwh] at hK
        generalize hq : chs T (allL T) p' (tkn (allL T) (zW Z).1) ((zW Z).1.length % 2) (zW Z).1.getLast? (zW Z).2 = o at hK f1 c3 hsd'
        obtain ⟨o1, sd'⟩ := o
        simp only at f1 hsd'
        subst f1
        simp only at hK c3
        have a2' := a2.cg fun j hj1 hj2 => c1 j (by omega) (by omega) (by omega)
        have h2 : CIq (za Z ((zW Z).1, sd') (keepU Z) (zI Z)) N Mo P τ C2 Q X := h.gn hT (fun j hj hj2 => (c1 j hj (by omega) (by omega)).trans (a1 j (by omega))) c2 c3 a2'
        simp only [g_laid h2, Option.map_some]
        refine s_X1_add (d := d + 28) (k := 12) h.1 (by decide) c3 (hS.2.2.1 _ q1) q2 f2 w1 fun C3 b1 b2 => ?_
        have h3 : CIq (putZ Z x sd') N Mo P τ C3 Q X := h.gn hT (fun j hj hj2 => ((b1 j (by omega)).trans (c1 j hj (by omega) (by omega))).trans (a1 j (by omega))) (c2.cg fun j _ _ => b1 j (by omega)) b2 (a2'.cg fun j _ _ => b1 j (by omega))
        exact s_X11_numberOf (d := d + 28) (o := some x) (hS.hX C3) (fun n hn => by cases hn; exact ⟨_, f2⟩) (s_X11_accept (d := d + 28) h3 fun C'' h4 => hK _ ⟨Q, X, h4⟩)
theorem p_X11_seed (hZ : VZ Z) (hC : CI Z N Mo P τ C) {v : Int32} {K : Bool → Hp → Prop} (hK : ∀ C', CI (n_seed Z v).2 N Mo P τ C' → K (n_seed Z v).1 (ch 75 P C' τ)) : C_X11_seed l G (d + 30) (P 0) v (ch 75 P C τ) K := by
  obtain ⟨Q, X, h⟩ := hC
  refine m_X11_seed (rv_0 h) ?_
  simp only [F_X11_seed_24, F_X11_seed, g_cur h]
  simp only [n_seed] at hK
  cases hT : zT Z with
  | none =>
    simp only [hT] at hK
    simp only [g_cur h, g_outl h, g_laid h, g_past h, g_play h, g_rows h, g_tk h, hT, lst, Option.map_some, Option.map_none, Option.some.injEq, exists_eq_left', forall_eq', reduceCtorEq, false_implies, true_implies, forall_const, true_and, and_true]
    exact s_X11_deny (d := d + 28) (t := 1) h (by decide) hK
  | some T =>
    simp only [hT] at hK
    obtain ⟨hW, hV, hG, htk, hwho, hsd⟩ := hZ.so hT
    obtain ⟨hS, hO, hr⟩ := h.so hT hW
    simp only [g_cur h, g_outl h, g_laid h, g_past h, g_play h, g_rows h, g_tk h, hT, lst, Option.map_some, Option.map_none, Option.some.injEq, exists_eq_left', forall_eq', reduceCtorEq, false_implies, true_implies, forall_const, true_and, and_true]
    have hB := h.1
    refine ⟨fun h1 => ?_, fun h1 => ⟨fun h2 => ?_, fun h2 => ?_⟩⟩
    · rw [inR, decide_eq_false (show ¬ (¬ v < nI 0 ∧ ¬ nI 65536 < v) from fun hc => hc.1 h1), if_neg (by decide)] at hK
      exact s_X11_deny (d := d + 28) (t := 2) h (by decide) hK
    · obtain ⟨a, ha, rfl⟩ := nt_of h1
      rw [show (65537 : Int32) = nI 65537 from rfl, nt_lt ha (by decide)] at h2
      rw [inR, decide_eq_true (show ¬ nI a < nI 0 ∧ ¬ nI 65536 < nI a from ⟨h1, fun hc => by rw [nt_lt (by decide) ha] at hc; omega⟩), if_pos rfl, nI_clamp ha] at hK
      simp only [pF_c hB, Nat.reduceLT, hr.1, rR1_0, rN1_0, rP1_0, rI1_1, rP1_1, rI1_2, rP1_2, rI1_3, rP1_3]
      have hr2 : LDr P (xl X) (allL T) (up_ C 12 (O1 (some (P 13)) (nI (zW Z).1.length) (nI (tkn (allL T) (zW Z).1)) (nI a))) 12 ((zW Z).1, a) := by
        obtain ⟨e1, ⟨f, e2, e3⟩, e4⟩ := hr
        exact ⟨up_eq .., ⟨f, (up_ne (by decide)).trans e2, e3⟩, e4⟩
      have h2 := h.ac hT (w := ((zW Z).1, a)) (fun j hj => up_ne (by omega)) hr2 ((h.pa hT).cg fun j _ _ => up_ne (by omega))
      exact s_X11_grant (d := d + 28) h2 hK
    · obtain ⟨a, ha, rfl⟩ := nt_of h1
      rw [show (65537 : Int32) = nI 65537 from rfl, nt_lt ha (by decide)] at h2
      rw [inR, decide_eq_false (show ¬ (¬ nI a < nI 0 ∧ ¬ nI 65536 < nI a) from fun hc => hc.2 ((nt_lt (by decide) ha).mpr (by omega))), if_neg (by decide)] at hK
      exact s_X11_deny (d := d + 28) (t := 2) h (by decide) hK
theorem p_X11_undo (hZ : VZ Z) (hC : CI Z N Mo P τ C) {K : Bool → Hp → Prop} (hK : ∀ C', CI (n_undo Z).2 N Mo P τ C' → K (n_undo Z).1 (ch 75 P C' τ)) : C_X11_undo l G (d + 30) (P 0) (ch 75 P C τ) K := by
  obtain ⟨Q, X, h⟩ := hC
  refine m_X11_undo (rv_0 h) ?_
  simp only [F_X11_undo_27, F_X11_undo, g_past h, g_laid h]
  simp only [n_undo] at hK
  cases hu : zU Z with
  | nil =>
    simp only [hu] at hK
    have hp := h.2.2.2.1.2.2.2.1
    rw [hu] at hp
    exact s_X4_undo0 (d := d + 27) h.1 hp ⟨fun _ => s_X11_deny (d := d + 28) (t := 6) h (by decide) hK, fun e => by cases e⟩
  | cons w u =>
    simp only [hu] at hK
    cases hT : zT Z with
    | none =>
      have hz := hZ.2.2.2.2.2.2.2
      rw [hT] at hz
      rw [hz.2.1] at hu
      cases hu
    | some T =>
      obtain ⟨hW, hV, hG, htk, hwho, hsd⟩ := hZ.so hT
      obtain ⟨hS, hO, hr⟩ := h.so hT hW
      have hp := h.pa hT
      rw [hu] at hp
      have hv := (hZ.ur hT).1 w (by rw [hu]; simp)
      refine s_X4_undoTo (d := d + 27) h.1 hp hr.s (hS.lys hv.1) fun C1 a1 a2 a3 a4 a5 => ⟨fun e => (by cases e), fun _ => ?_⟩
      have h2 : CIq (za Z w u (zI Z)) N Mo P τ C1 Q X := h.ac hT (fun j hj => by
        rcases hj with hj | rfl | rfl | hj
        · exact a1 j (by omega)
        · exact a2
        · exact a3
        · exact a1 j (by omega)) a5 a4
      exact s_X11_grant (d := d + 28) h2 hK
theorem p_X11_image (hZ : VZ Z) (hC : CI Z N Mo P τ C) {K : Int32 → Hp → Prop} (hK : ∀ C', CI (n_image Z).2 N Mo P τ C' → K (n_image Z).1 (ch 75 P C' τ)) : C_X11_image l G (d + 30) (P 0) (ch 75 P C τ) K := by
  obtain ⟨Q, X, h⟩ := hC
  refine m_X11_image (rv_0 h) ?_
  simp only [F_X11_image_43, F_X11_image, g_cur h]
  simp only [n_image] at hK
  cases hT : zT Z with
  | none =>
    simp only [hT] at hK
    simp only [g_cur h, g_outl h, g_laid h, g_past h, g_play h, g_rows h, g_tk h, hT, lst, Option.map_some, Option.map_none, Option.some.injEq, exists_eq_left', forall_eq', reduceCtorEq, false_implies, true_implies, forall_const, true_and, and_true]
    exact s_X11_refuse (d := d + 28) (t := 1) h (by decide) hK
  | some T =>
    simp only [hT] at hK
    obtain ⟨hW, hV, hG, htk, hwho, hsd⟩ := hZ.so hT
    obtain ⟨hS, hO, hr⟩ := h.so hT hW
    simp only [g_cur h, g_outl h, g_laid h, g_past h, g_play h, g_rows h, g_tk h, hT, lst, Option.map_some, Option.map_none, Option.some.injEq, exists_eq_left', forall_eq', reduceCtorEq, false_implies, true_implies, forall_const, true_and, and_true]
    refine s_X4_addImage (d := d + 27) h.1 (h.pa hT) hr (hS.lys hG) (fun h3 => ⟨fun e => absurd rfl e, fun _ => ?_⟩) fun h3 C1 a1 a2 => ⟨fun _ => ?_, fun e => absurd e (nI_nm1 (by omega))⟩
    · rw [if_neg (by omega)] at hK
      exact s_X11_refuse (d := d + 28) (t := 3) h (by decide) hK
    · rw [if_pos h3] at hK
      have h2 : CIq (za Z (zW Z) (zU Z) (zI Z ++ [zW Z])) N Mo P τ C1 Q X := h.ac hT (fun j hj => a1 j (by omega)) (hr.cg (a1 12 (by omega)) (a1 13 (by omega))) a2
      exact s_X11_accept (d := d + 28) h2 fun C'' h3 => hK _ ⟨Q, X, h3⟩
theorem p_X11_back (hZ : VZ Z) (hC : CI Z N Mo P τ C) {v : Int32} {K : Bool → Hp → Prop} (hK : ∀ C', CI (n_back Z v).2 N Mo P τ C' → K (n_back Z v).1 (ch 75 P C' τ)) : C_X11_back l G (d + 30) (P 0) v (ch 75 P C τ) K := by
  obtain ⟨Q, X, h⟩ := hC
  refine m_X11_back (rv_0 h) ?_
  simp only [F_X11_back_27, F_X11_back, g_past h, g_laid h]
  simp only [n_back] at hK
  cases hT : zT Z with
  | none =>
    have hz := hZ.2.2.2.2.2.2.2
    rw [hT] at hz
    have hp := h.2.2.2.1.2.2.2.1
    have hi : ix v (zI Z).length = none := by
      rw [hz.2.2]
      cases hi : ix v ([] : List RO).length with
      | none => rfl
      | some j => exact absurd (ix_some (by decide) hi).2 (by simp)
    simp only [hi] at hK
    refine s_X4_backTo (d := d + 27) h.1 hp h.2.2.2.1.2.1.s (fun u hu => by rw [hz.2.2] at hu; cases hu) (fun _ => ⟨fun _ => s_X11_deny (d := d + 28) (t := 1) h (by decide) hK, fun e => by cases e⟩) fun j u hj => ?_
    rw [hi] at hj
    cases hj
  | some T =>
    obtain ⟨hW, hV, hG, htk, hwho, hsd⟩ := hZ.so hT
    obtain ⟨hS, hO, hr⟩ := h.so hT hW
    refine s_X4_backTo (d := d + 27) h.1 (h.pa hT) hr.s (fun u hu => hS.lys ((hZ.ur hT).2 u hu).1) (fun hi => ⟨fun _ => ?_, fun e => by cases e⟩) fun j u hj hu C1 a1 a2 a3 a4 a5 => ⟨fun e => (by cases e), fun _ => ?_⟩
    · simp only [hi] at hK
      exact s_X11_deny (d := d + 28) (t := 1) h (by decide) hK
    · simp only [hj, hu] at hK
      have h2 : CIq (za Z u [] (zI Z)) N Mo P τ C1 Q X := h.ac hT (fun j hj => by
        rcases hj with hj | rfl | rfl | hj
        · exact a1 j (by omega)
        · exact a2
        · exact a3
        · exact a1 j (by omega)) a5 a4
      exact s_X11_grant (d := d + 28) h2 hK
end PUBF
