/-! public methods of the class that answer of the stand -/
section PUBC
variable {l : Launch} {G : GG} {d : Nat} {Z : ST} {N : Nat} {Mo : Nat → Prop} {P : Nat → Nat} {τ : Hp} {C : Nat → CE} {Q : Nat → Prop} {X : TX} {T : TB}
theorem p_X11_lays (hZ : VZ Z) (hC : CI Z N Mo P τ C) {K : Int32 → Hp → Prop} (hK : ∀ C', CI (zt Z (q_lays Z).1) N Mo P τ C' → K (q_lays Z).2 (ch 75 P C' τ)) : C_X11_lays l G (d + 30) (P 0) (ch 75 P C τ) K := by
  obtain ⟨Q, X, h⟩ := hC
  refine m_X11_lays (rv_0 h) ?_
  simp only [F_X11_lays, g_cur h]
  simp only [q_lays, onT, zvl] at hK
  cases hT : zT Z with
  | none =>
    simp only [hT] at hK
    simp only [g_cur h, g_outl h, g_laid h, g_past h, g_play h, g_rows h, g_tk h, hT, lst, Option.map_some, Option.map_none, Option.some.injEq, exists_eq_left', forall_eq', reduceCtorEq, false_implies, true_implies, forall_const, true_and, and_true]
    exact s_X11_refuse (d := d + 28) (t := 1) h (by decide) hK
  | some T =>
    simp only [hT] at hK
    obtain ⟨hW, hV, hG, htk, hwho, hsd⟩ := hZ.so hT
    obtain ⟨hS, hO, hr⟩ := h.so hT hW
    have hX := hS.hX C
    have htk2 := tkn_lt2 hW (zW Z).1
    simp only [ztk] at htk
    simp only [zwh] at hwho
    simp only [g_cur h, g_outl h, g_laid h, g_past h, g_play h, g_rows h, g_tk h, hT, lst, Option.map_some, Option.map_none, Option.some.injEq, exists_eq_left', forall_eq', reduceCtorEq, false_implies, true_implies, forall_const, true_and, and_true]
    exact n_next (d := d + 28) h (s_X8_countThatMay (d := d + 26) hX hW (by omega) hwho (s_X11_accept (d := d + 28) h fun C'' h1 => hK _ ⟨Q, X, h1⟩))
theorem p_X11_taken (hZ : VZ Z) (hC : CI Z N Mo P τ C) {K : Int32 → Hp → Prop} (hK : ∀ C', CI (zt Z (q_taken Z).1) N Mo P τ C' → K (q_taken Z).2 (ch 75 P C' τ)) : C_X11_taken l G (d + 30) (P 0) (ch 75 P C τ) K := by
  obtain ⟨Q, X, h⟩ := hC
  refine m_X11_taken (rv_0 h) ?_
  simp only [F_X11_taken, g_cur h]
  simp only [q_taken, onT, zvl] at hK
  cases hT : zT Z with
  | none =>
    simp only [hT] at hK
    simp only [g_cur h, g_outl h, g_laid h, g_past h, g_play h, g_rows h, g_tk h, hT, lst, Option.map_some, Option.map_none, Option.some.injEq, exists_eq_left', forall_eq', reduceCtorEq, false_implies, true_implies, forall_const, true_and, and_true]
    exact s_X11_refuse (d := d + 28) (t := 1) h (by decide) hK
  | some T =>
    simp only [hT] at hK
    obtain ⟨hW, hV, hG, htk, hwho, hsd⟩ := hZ.so hT
    obtain ⟨hS, hO, hr⟩ := h.so hT hW
    have hX := hS.hX C
    have htk2 := tkn_lt2 hW (zW Z).1
    simp only [ztk] at htk
    simp only [zwh] at hwho
    simp only [g_cur h, g_outl h, g_laid h, g_past h, g_play h, g_rows h, g_tk h, hT, lst, Option.map_some, Option.map_none, Option.some.injEq, exists_eq_left', forall_eq', reduceCtorEq, false_implies, true_implies, forall_const, true_and, and_true]
    exact s_X11_accept (d := d + 28) h fun C'' h1 => hK _ ⟨Q, X, h1⟩
theorem p_X11_dead (hZ : VZ Z) (hC : CI Z N Mo P τ C) {K : Int32 → Hp → Prop} (hK : ∀ C', CI (zt Z (q_dead Z).1) N Mo P τ C' → K (q_dead Z).2 (ch 75 P C' τ)) : C_X11_dead l G (d + 30) (P 0) (ch 75 P C τ) K := by
  obtain ⟨Q, X, h⟩ := hC
  refine m_X11_dead (rv_0 h) ?_
  simp only [F_X11_dead, g_cur h]
  simp only [q_dead, onT, zvl] at hK
  cases hT : zT Z with
  | none =>
    simp only [hT] at hK
    simp only [g_cur h, g_outl h, g_laid h, g_past h, g_play h, g_rows h, g_tk h, hT, lst, Option.map_some, Option.map_none, Option.some.injEq, exists_eq_left', forall_eq', reduceCtorEq, false_implies, true_implies, forall_const, true_and, and_true]
    exact s_X11_refuse (d := d + 28) (t := 1) h (by decide) hK
  | some T =>
    simp only [hT] at hK
    obtain ⟨hW, hV, hG, htk, hwho, hsd⟩ := hZ.so hT
    obtain ⟨hS, hO, hr⟩ := h.so hT hW
    have hX := hS.hX C
    have htk2 := tkn_lt2 hW (zW Z).1
    simp only [ztk] at htk
    simp only [zwh] at hwho
    simp only [g_cur h, g_outl h, g_laid h, g_past h, g_play h, g_rows h, g_tk h, hT, lst, Option.map_some, Option.map_none, Option.some.injEq, exists_eq_left', forall_eq', reduceCtorEq, false_implies, true_implies, forall_const, true_and, and_true]
    exact s_X8_deadSquares (d := d + 27) hX hW (by omega) (s_X11_accept (d := d + 28) h fun C'' h1 => hK _ ⟨Q, X, h1⟩)
theorem p_X11_has (hZ : VZ Z) (hC : CI Z N Mo P τ C) {K : Int32 → Hp → Prop} (hK : ∀ C', CI (zt Z (q_has Z).1) N Mo P τ C' → K (q_has Z).2 (ch 75 P C' τ)) : C_X11_has l G (d + 30) (P 0) (ch 75 P C τ) K := by
  obtain ⟨Q, X, h⟩ := hC
  refine m_X11_has (rv_0 h) ?_
  simp only [F_X11_has_43, F_X11_has, g_cur h]
  simp only [q_has, onT, zvl] at hK
  cases hT : zT Z with
  | none =>
    simp only [hT] at hK
    simp only [g_cur h, g_outl h, g_laid h, g_past h, g_play h, g_rows h, g_tk h, hT, lst, Option.map_some, Option.map_none, Option.some.injEq, exists_eq_left', forall_eq', reduceCtorEq, false_implies, true_implies, forall_const, true_and, and_true]
    exact s_X11_refuse (d := d + 28) (t := 1) h (by decide) hK
  | some T =>
    simp only [hT] at hK
    obtain ⟨hW, hV, hG, htk, hwho, hsd⟩ := hZ.so hT
    obtain ⟨hS, hO, hr⟩ := h.so hT hW
    have hX := hS.hX C
    have htk2 := tkn_lt2 hW (zW Z).1
    simp only [ztk] at htk
    simp only [zwh] at hwho
    simp only [g_cur h, g_outl h, g_laid h, g_past h, g_play h, g_rows h, g_tk h, hT, lst, Option.map_some, Option.map_none, Option.some.injEq, exists_eq_left', forall_eq', reduceCtorEq, false_implies, true_implies, forall_const, true_and, and_true]
    refine n_next (d := d + 28) h (c_isWon (d := d + 10) hS hO htk2 hwho fun C' a1 a2 => ?_)
    have h' := h.ou hT a1 a2
    refine ⟨fun e => s_X11_accept (d := d + 28) h' fun C'' h1 => ?_, fun e => s_X11_accept (d := d + 28) h' fun C'' h1 => ?_⟩
    · have := hK C'' ⟨Q, X, h1⟩
      simp only [ztk, zwh, e] at this
      exact this
    · have := hK C'' ⟨Q, X, h1⟩
      simp only [ztk, zwh, e] at this
      exact this
theorem p_X11_best (hZ : VZ Z) (hC : CI Z N Mo P τ C) {K : Int32 → Hp → Prop} (hK : ∀ C', CI (zt Z (q_best Z).1) N Mo P τ C' → K (q_best Z).2 (ch 75 P C' τ)) : C_X11_best l G (d + 30) (P 0) (ch 75 P C τ) K := by
  obtain ⟨Q, X, h⟩ := hC
  refine m_X11_best (rv_0 h) ?_
  simp only [F_X11_best, g_cur h]
  simp only [q_best, onT, zvl] at hK
  cases hT : zT Z with
  | none =>
    simp only [hT] at hK
    simp only [g_cur h, g_outl h, g_laid h, g_past h, g_play h, g_rows h, g_tk h, hT, lst, Option.map_some, Option.map_none, Option.some.injEq, exists_eq_left', forall_eq', reduceCtorEq, false_implies, true_implies, forall_const, true_and, and_true]
    exact s_X11_refuse (d := d + 28) (t := 1) h (by decide) hK
  | some T =>
    simp only [hT] at hK
    obtain ⟨hW, hV, hG, htk, hwho, hsd⟩ := hZ.so hT
    obtain ⟨hS, hO, hr⟩ := h.so hT hW
    have hX := hS.hX C
    have htk2 := tkn_lt2 hW (zW Z).1
    simp only [ztk] at htk
    simp only [zwh] at hwho
    simp only [g_cur h, g_outl h, g_laid h, g_past h, g_play h, g_rows h, g_tk h, hT, lst, Option.map_some, Option.map_none, Option.some.injEq, exists_eq_left', forall_eq', reduceCtorEq, false_implies, true_implies, forall_const, true_and, and_true]
    refine n_next (d := d + 28) h (c_firstWinning (d := d + 9) hS hO htk2 hwho fun C' a1 a2 => ?_)
    exact s_X11_numberOf (d := d + 28) (hS.hX C') (fun n hn => ((mAt_spec _ _ _ _ hn).imp fun e he => he.1)) (s_X11_accept (d := d + 28) (h.ou hT a1 a2) fun C'' h1 => hK _ ⟨Q, X, h1⟩)
theorem p_X11_good (hZ : VZ Z) (hC : CI Z N Mo P τ C) {K : Int32 → Hp → Prop} (hK : ∀ C', CI (zt Z (q_good Z).1) N Mo P τ C' → K (q_good Z).2 (ch 75 P C' τ)) : C_X11_good l G (d + 30) (P 0) (ch 75 P C τ) K := by
  obtain ⟨Q, X, h⟩ := hC
  refine m_X11_good (rv_0 h) ?_
  simp only [F_X11_good, g_cur h]
  simp only [q_good, onT, zvl] at hK
  cases hT : zT Z with
  | none =>
    simp only [hT] at hK
    simp only [g_cur h, g_outl h, g_laid h, g_past h, g_play h, g_rows h, g_tk h, hT, lst, Option.map_some, Option.map_none, Option.some.injEq, exists_eq_left', forall_eq', reduceCtorEq, false_implies, true_implies, forall_const, true_and, and_true]
    exact s_X11_refuse (d := d + 28) (t := 1) h (by decide) hK
  | some T =>
    simp only [hT] at hK
    obtain ⟨hW, hV, hG, htk, hwho, hsd⟩ := hZ.so hT
    obtain ⟨hS, hO, hr⟩ := h.so hT hW
    have hX := hS.hX C
    have htk2 := tkn_lt2 hW (zW Z).1
    simp only [ztk] at htk
    simp only [zwh] at hwho
    simp only [g_cur h, g_outl h, g_laid h, g_past h, g_play h, g_rows h, g_tk h, hT, lst, Option.map_some, Option.map_none, Option.some.injEq, exists_eq_left', forall_eq', reduceCtorEq, false_implies, true_implies, forall_const, true_and, and_true]
    refine n_next (d := d + 28) h (c_countWinning (d := d + 9) hS hO htk2 hwho fun C' a1 a2 => ?_)
    exact s_X11_accept (d := d + 28) (h.ou hT a1 a2) fun C'' h1 => hK _ ⟨Q, X, h1⟩
theorem p_X11_elbow (hZ : VZ Z) (hC : CI Z N Mo P τ C) {K : Int32 → Hp → Prop} (hK : ∀ C', CI (zt Z (q_elbow Z).1) N Mo P τ C' → K (q_elbow Z).2 (ch 75 P C' τ)) : C_X11_elbow l G (d + 30) (P 0) (ch 75 P C τ) K := by
  obtain ⟨Q, X, h⟩ := hC
  refine m_X11_elbow (rv_0 h) ?_
  simp only [F_X11_elbow, g_cur h]
  simp only [q_elbow, onT, zvl] at hK
  cases hT : zT Z with
  | none =>
    simp only [hT] at hK
    simp only [g_cur h, g_outl h, g_laid h, g_past h, g_play h, g_rows h, g_tk h, hT, lst, Option.map_some, Option.map_none, Option.some.injEq, exists_eq_left', forall_eq', reduceCtorEq, false_implies, true_implies, forall_const, true_and, and_true]
    exact s_X11_refuse (d := d + 28) (t := 1) h (by decide) hK
  | some T =>
    simp only [hT] at hK
    obtain ⟨hW, hV, hG, htk, hwho, hsd⟩ := hZ.so hT
    obtain ⟨hS, hO, hr⟩ := h.so hT hW
    have hX := hS.hX C
    have htk2 := tkn_lt2 hW (zW Z).1
    simp only [ztk] at htk
    simp only [zwh] at hwho
    simp only [g_cur h, g_outl h, g_laid h, g_past h, g_play h, g_rows h, g_tk h, hT, lst, Option.map_some, Option.map_none, Option.some.injEq, exists_eq_left', forall_eq', reduceCtorEq, false_implies, true_implies, forall_const, true_and, and_true]
    refine n_next (d := d + 28) h (c_turningSquare (d := d + 9) hS hO htk2 hwho fun C' a1 a2 => ?_)
    exact s_X11_accept (d := d + 28) (h.ou hT a1 a2) fun C'' h1 => hK _ ⟨Q, X, h1⟩
theorem p_X11_byAcross (hZ : VZ Z) (hC : CI Z N Mo P τ C) {K : Int32 → Hp → Prop} (hK : ∀ C', CI (zt Z (q_byAcross Z).1) N Mo P τ C' → K (q_byAcross Z).2 (ch 75 P C' τ)) : C_X11_byAcross l G (d + 30) (P 0) (ch 75 P C τ) K := by
  obtain ⟨Q, X, h⟩ := hC
  refine m_X11_byAcross (rv_0 h) ?_
  simp only [F_X11_byAcross, g_cur h]
  simp only [q_byAcross, onT, zvl] at hK
  cases hT : zT Z with
  | none =>
    simp only [hT] at hK
    simp only [g_cur h, g_outl h, g_laid h, g_past h, g_play h, g_rows h, g_tk h, hT, lst, Option.map_some, Option.map_none, Option.some.injEq, exists_eq_left', forall_eq', reduceCtorEq, false_implies, true_implies, forall_const, true_and, and_true]
    exact s_X11_refuse (d := d + 28) (t := 1) h (by decide) hK
  | some T =>
    simp only [hT] at hK
    obtain ⟨hW, hV, hG, htk, hwho, hsd⟩ := hZ.so hT
    obtain ⟨hS, hO, hr⟩ := h.so hT hW
    have hX := hS.hX C
    have htk2 := tkn_lt2 hW (zW Z).1
    simp only [ztk] at htk
    simp only [zwh] at hwho
    simp only [g_cur h, g_outl h, g_laid h, g_past h, g_play h, g_rows h, g_tk h, hT, lst, Option.map_some, Option.map_none, Option.some.injEq, exists_eq_left', forall_eq', reduceCtorEq, false_implies, true_implies, forall_const, true_and, and_true]
    exact s_X8_heldByAcross (d := d + 23) hX hW htk (tkn_j _) (s_X11_accept (d := d + 28) h fun C'' h1 => hK _ ⟨Q, X, h1⟩)
theorem p_X11_soonest (hZ : VZ Z) (hC : CI Z N Mo P τ C) {K : Int32 → Hp → Prop} (hK : ∀ C', CI (zt Z (q_soonest Z).1) N Mo P τ C' → K (q_soonest Z).2 (ch 75 P C' τ)) : C_X11_soonest l G (d + 30) (P 0) (ch 75 P C τ) K := by
  obtain ⟨Q, X, h⟩ := hC
  refine m_X11_soonest (rv_0 h) ?_
  simp only [F_X11_soonest]
  refine m_X11_read (rv_0 h) ?_
  simp only [F_X11_read, g_cur h]
  simp only [q_soonest, onT, zvl] at hK
  cases hT : zT Z with
  | none =>
    simp only [hT] at hK
    simp only [g_cur h, g_outl h, g_laid h, g_past h, g_play h, g_rows h, g_tk h, hT, lst, Option.map_some, Option.map_none, Option.some.injEq, exists_eq_left', forall_eq', reduceCtorEq, false_implies, true_implies, forall_const, true_and, and_true]
    exact s_X11_refuse (d := d + 27) (t := 1) h (by decide) hK
  | some T =>
    simp only [hT] at hK
    obtain ⟨hW, hV, hG, htk, hwho, hsd⟩ := hZ.so hT
    obtain ⟨hS, hO, hr⟩ := h.so hT hW
    have htk2 := tkn_lt2 hW (zW Z).1
    simp only [zwh] at hwho
    simp only [g_cur h, g_outl h, g_laid h, g_past h, g_play h, g_rows h, g_tk h, hT, lst, Option.map_some, Option.map_none, Option.some.injEq, exists_eq_left', forall_eq', reduceCtorEq, false_implies, true_implies, forall_const, true_and, and_true]
    refine n_next (d := d + 27) h (c_measured (d := d + 9) (w := 0) hS hO (by decide) htk2 hwho fun C' a1 a2 => ?_)
    exact s_X11_accept (d := d + 27) (h.ou hT a1 a2) fun C'' h1 => hK _ ⟨Q, X, h1⟩
theorem p_X11_fewest (hZ : VZ Z) (hC : CI Z N Mo P τ C) {K : Int32 → Hp → Prop} (hK : ∀ C', CI (zt Z (q_fewest Z).1) N Mo P τ C' → K (q_fewest Z).2 (ch 75 P C' τ)) : C_X11_fewest l G (d + 30) (P 0) (ch 75 P C τ) K := by
  obtain ⟨Q, X, h⟩ := hC
  refine m_X11_fewest (rv_0 h) ?_
  simp only [F_X11_fewest]
  refine m_X11_read (rv_0 h) ?_
  simp only [F_X11_read, g_cur h]
  simp only [q_fewest, onT, zvl] at hK
  cases hT : zT Z with
  | none =>
    simp only [hT] at hK
    simp only [g_cur h, g_outl h, g_laid h, g_past h, g_play h, g_rows h, g_tk h, hT, lst, Option.map_some, Option.map_none, Option.some.injEq, exists_eq_left', forall_eq', reduceCtorEq, false_implies, true_implies, forall_const, true_and, and_true]
    exact s_X11_refuse (d := d + 27) (t := 1) h (by decide) hK
  | some T =>
    simp only [hT] at hK
    obtain ⟨hW, hV, hG, htk, hwho, hsd⟩ := hZ.so hT
    obtain ⟨hS, hO, hr⟩ := h.so hT hW
    have htk2 := tkn_lt2 hW (zW Z).1
    simp only [zwh] at hwho
    simp only [g_cur h, g_outl h, g_laid h, g_past h, g_play h, g_rows h, g_tk h, hT, lst, Option.map_some, Option.map_none, Option.some.injEq, exists_eq_left', forall_eq', reduceCtorEq, false_implies, true_implies, forall_const, true_and, and_true]
    refine n_next (d := d + 27) h (c_measured (d := d + 9) (w := 1) hS hO (by decide) htk2 hwho fun C' a1 a2 => ?_)
    exact s_X11_accept (d := d + 27) (h.ou hT a1 a2) fun C'' h1 => hK _ ⟨Q, X, h1⟩
theorem p_X11_most (hZ : VZ Z) (hC : CI Z N Mo P τ C) {K : Int32 → Hp → Prop} (hK : ∀ C', CI (zt Z (q_most Z).1) N Mo P τ C' → K (q_most Z).2 (ch 75 P C' τ)) : C_X11_most l G (d + 30) (P 0) (ch 75 P C τ) K := by
  obtain ⟨Q, X, h⟩ := hC
  refine m_X11_most (rv_0 h) ?_
  simp only [F_X11_most]
  refine m_X11_read (rv_0 h) ?_
  simp only [F_X11_read, g_cur h]
  simp only [q_most, onT, zvl] at hK
  cases hT : zT Z with
  | none =>
    simp only [hT] at hK
    simp only [g_cur h, g_outl h, g_laid h, g_past h, g_play h, g_rows h, g_tk h, hT, lst, Option.map_some, Option.map_none, Option.some.injEq, exists_eq_left', forall_eq', reduceCtorEq, false_implies, true_implies, forall_const, true_and, and_true]
    exact s_X11_refuse (d := d + 27) (t := 1) h (by decide) hK
  | some T =>
    simp only [hT] at hK
    obtain ⟨hW, hV, hG, htk, hwho, hsd⟩ := hZ.so hT
    obtain ⟨hS, hO, hr⟩ := h.so hT hW
    have htk2 := tkn_lt2 hW (zW Z).1
    simp only [zwh] at hwho
    simp only [g_cur h, g_outl h, g_laid h, g_past h, g_play h, g_rows h, g_tk h, hT, lst, Option.map_some, Option.map_none, Option.some.injEq, exists_eq_left', forall_eq', reduceCtorEq, false_implies, true_implies, forall_const, true_and, and_true]
    refine n_next (d := d + 27) h (c_measured (d := d + 9) (w := 2) hS hO (by decide) htk2 hwho fun C' a1 a2 => ?_)
    exact s_X11_accept (d := d + 27) (h.ou hT a1 a2) fun C'' h1 => hK _ ⟨Q, X, h1⟩
theorem p_X11_lot (hZ : VZ Z) (hC : CI Z N Mo P τ C) {K : Int32 → Hp → Prop} (hK : ∀ C', CI (zt Z (q_lot Z).1) N Mo P τ C' → K (q_lot Z).2 (ch 75 P C' τ)) : C_X11_lot l G (d + 30) (P 0) (ch 75 P C τ) K := by
  obtain ⟨Q, X, h⟩ := hC
  refine m_X11_lot (rv_0 h) ?_
  simp only [F_X11_lot]
  refine m_X11_read (rv_0 h) ?_
  simp only [F_X11_read, g_cur h]
  simp only [q_lot, onT, zvl] at hK
  cases hT : zT Z with
  | none =>
    simp only [hT] at hK
    simp only [g_cur h, g_outl h, g_laid h, g_past h, g_play h, g_rows h, g_tk h, hT, lst, Option.map_some, Option.map_none, Option.some.injEq, exists_eq_left', forall_eq', reduceCtorEq, false_implies, true_implies, forall_const, true_and, and_true]
    exact s_X11_refuse (d := d + 27) (t := 1) h (by decide) hK
  | some T =>
    simp only [hT] at hK
    obtain ⟨hW, hV, hG, htk, hwho, hsd⟩ := hZ.so hT
    obtain ⟨hS, hO, hr⟩ := h.so hT hW
    have htk2 := tkn_lt2 hW (zW Z).1
    simp only [zwh] at hwho
    simp only [g_cur h, g_outl h, g_laid h, g_past h, g_play h, g_rows h, g_tk h, hT, lst, Option.map_some, Option.map_none, Option.some.injEq, exists_eq_left', forall_eq', reduceCtorEq, false_implies, true_implies, forall_const, true_and, and_true]
    refine n_next (d := d + 27) h (c_measured (d := d + 9) (w := 3) hS hO (by decide) htk2 hwho fun C' a1 a2 => ?_)
    exact s_X11_accept (d := d + 27) (h.ou hT a1 a2) fun C'' h1 => hK _ ⟨Q, X, h1⟩
/-- the lay numbered so -/
theorem k_lay0 (h : CIq Z N Mo P τ C Q X) (hT : zT Z = none) {v : Int32} {K : Option Nat → Hp → Prop} (hK : K none (ch 75 P C τ)) : C_X11_layNumbered l G (d + 1) (P 0) v (ch 75 P C τ) K := by
  refine m_X11_layNumbered (rv_0 h) ?_
  simp only [F_X11_layNumbered_19, F_X11_layNumbered, g_cur h, g_outl h, g_laid h, g_past h, g_play h, g_rows h, g_tk h, hT, lst, Option.map_some, Option.map_none, Option.some.injEq, exists_eq_left', forall_eq', reduceCtorEq, false_implies, true_implies, forall_const, true_and, and_true]
  exact hK
theorem k_lay (h : CIq Z N Mo P τ C Q X) (hT : zT Z = some T) (hX : TBr Q (ch 75 P C τ) X T) (hW : WFT T) {v : Int32} {K : Option Nat → Hp → Prop} (hK : K ((ix v (allL T).length).map (xl X)) (ch 75 P C τ)) : C_X11_layNumbered l G (d + 2) (P 0) v (ch 75 P C τ) K := by
  refine m_X11_layNumbered (rv_0 h) ?_
  simp only [F_X11_layNumbered_19, F_X11_layNumbered, g_cur h, g_outl h, g_laid h, g_past h, g_play h, g_rows h, g_tk h, hT, lst, Option.map_some, Option.map_none, Option.some.injEq, exists_eq_left', forall_eq', reduceCtorEq, false_implies, true_implies, forall_const, true_and, and_true]
  exact s_X8_layNumbered (d := d) hX hW hK
theorem p_X11_may (hZ : VZ Z) (hC : CI Z N Mo P τ C) {v : Int32} {K : Int32 → Hp → Prop} (hK : ∀ C', CI (zt Z (q_may Z v).1) N Mo P τ C' → K (q_may Z v).2 (ch 75 P C' τ)) : C_X11_may l G (d + 30) (P 0) v (ch 75 P C τ) K := by
  obtain ⟨Q, X, h⟩ := hC
  refine m_X11_may (rv_0 h) ?_
  simp only [F_X11_may_43, F_X11_may]
  simp only [q_may, onL, onT] at hK
  cases hT : zT Z with
  | none =>
    simp only [hT] at hK
    refine k_lay0 h hT ?_
    simp only [g_cur h, g_outl h, g_laid h, g_past h, g_play h, g_rows h, g_tk h, hT, lst, Option.map_some, Option.map_none, Option.some.injEq, exists_eq_left', forall_eq', reduceCtorEq, false_implies, true_implies, forall_const, true_and, and_true]
    exact s_X11_refuse (d := d + 28) (t := 1) h (by decide) hK
  | some T =>
    simp only [hT] at hK
    obtain ⟨hW, hV, hG, htk, hwho, hsd⟩ := hZ.so hT
    obtain ⟨hS, hO, hr⟩ := h.so hT hW
    have hX := hS.hX C
    simp only [ztk] at htk
    simp only [zwh] at hwho
    refine k_lay (d := d + 27) h hT hX hW ?_
    cases hi : ix v (allL T).length with
    | none =>
      simp only [hi] at hK
      simp only [g_cur h, g_outl h, g_laid h, g_past h, g_play h, g_rows h, g_tk h, hT, lst, Option.map_some, Option.map_none, Option.some.injEq, exists_eq_left', forall_eq', reduceCtorEq, false_implies, true_implies, forall_const, true_and, and_true]
      exact s_X11_refuse (d := d + 28) (t := 1) h (by decide) hK
    | some i =>
      obtain ⟨rfl, hlt⟩ := ix_some (by have := allL_224 hW; omega) hi
      obtain ⟨e, he⟩ : ∃ e, (allL T)[i]? = some e := ⟨_, List.getElem?_eq_getElem hlt⟩
      simp only [hi, he] at hK
      obtain ⟨g, g1, g2, g3⟩ := hX.lay he
      simp only [g_cur h, g_outl h, g_laid h, g_past h, g_play h, g_rows h, g_tk h, hT, lst, Option.map_some, Option.map_none, Option.some.injEq, exists_eq_left', forall_eq', reduceCtorEq, false_implies, true_implies, forall_const, true_and, and_true]
      refine n_next (d := d + 28) h (hX.my (d := d + 27) hW he (by omega) hwho ?_)
      refine ⟨fun e1 => s_X11_accept (d := d + 28) h fun C'' h1 => ?_, fun e1 => s_X11_accept (d := d + 28) h fun C'' h1 => ?_⟩
      · have := hK C'' ⟨Q, X, h1⟩
        simp only [ztk, zwh, e1] at this
        exact this
      · have := hK C'' ⟨Q, X, h1⟩
        simp only [ztk, zwh, e1] at this
        exact this
theorem p_X11_across (hZ : VZ Z) (hC : CI Z N Mo P τ C) {v : Int32} {K : Int32 → Hp → Prop} (hK : ∀ C', CI (zt Z (q_across Z v).1) N Mo P τ C' → K (q_across Z v).2 (ch 75 P C' τ)) : C_X11_across l G (d + 30) (P 0) v (ch 75 P C τ) K := by
  obtain ⟨Q, X, h⟩ := hC
  refine m_X11_across (rv_0 h) ?_
  simp only [F_X11_across]
  simp only [q_across, onL, onT] at hK
  cases hT : zT Z with
  | none =>
    simp only [hT] at hK
    refine k_lay0 h hT ?_
    simp only [g_cur h, g_outl h, g_laid h, g_past h, g_play h, g_rows h, g_tk h, hT, lst, Option.map_some, Option.map_none, Option.some.injEq, exists_eq_left', forall_eq', reduceCtorEq, false_implies, true_implies, forall_const, true_and, and_true]
    exact s_X11_refuse (d := d + 28) (t := 1) h (by decide) hK
  | some T =>
    simp only [hT] at hK
    obtain ⟨hW, hV, hG, htk, hwho, hsd⟩ := hZ.so hT
    obtain ⟨hS, hO, hr⟩ := h.so hT hW
    have hX := hS.hX C
    simp only [ztk] at htk
    simp only [zwh] at hwho
    refine k_lay (d := d + 27) h hT hX hW ?_
    cases hi : ix v (allL T).length with
    | none =>
      simp only [hi] at hK
      simp only [g_cur h, g_outl h, g_laid h, g_past h, g_play h, g_rows h, g_tk h, hT, lst, Option.map_some, Option.map_none, Option.some.injEq, exists_eq_left', forall_eq', reduceCtorEq, false_implies, true_implies, forall_const, true_and, and_true]
      exact s_X11_refuse (d := d + 28) (t := 1) h (by decide) hK
    | some i =>
      obtain ⟨rfl, hlt⟩ := ix_some (by have := allL_224 hW; omega) hi
      obtain ⟨e, he⟩ : ∃ e, (allL T)[i]? = some e := ⟨_, List.getElem?_eq_getElem hlt⟩
      simp only [hi, he] at hK
      obtain ⟨g, g1, g2, g3⟩ := hX.lay he
      simp only [g_cur h, g_outl h, g_laid h, g_past h, g_play h, g_rows h, g_tk h, hT, lst, Option.map_some, Option.map_none, Option.some.injEq, exists_eq_left', forall_eq', reduceCtorEq, false_implies, true_implies, forall_const, true_and, and_true]
      simp only [fR_at g3, rI2_0, rP2_0, rR2_1, rN2_1, rP2_1, rR2_2, rN2_2, rP2_2, rI2_3, rP2_3, rI2_4, rP2_4, rI2_5, rP2_5, rI2_6, rP2_6, rI2_7, rP2_7, rR2_8, rN2_8, rP2_8]
      exact s_X11_numberOf (d := d + 28) hX (fun n hn => acr_lt hn) (s_X11_accept (d := d + 28) h fun C'' h1 => hK _ ⟨Q, X, h1⟩)
theorem p_X11_spoils (hZ : VZ Z) (hC : CI Z N Mo P τ C) {v : Int32} {K : Int32 → Hp → Prop} (hK : ∀ C', CI (zt Z (q_spoils Z v).1) N Mo P τ C' → K (q_spoils Z v).2 (ch 75 P C' τ)) : C_X11_spoils l G (d + 30) (P 0) v (ch 75 P C τ) K := by
  obtain ⟨Q, X, h⟩ := hC
  refine m_X11_spoils (rv_0 h) ?_
  simp only [F_X11_spoils]
  simp only [q_spoils, onL, onT] at hK
  cases hT : zT Z with
  | none =>
    simp only [hT] at hK
    refine k_lay0 h hT ?_
    simp only [g_cur h, g_outl h, g_laid h, g_past h, g_play h, g_rows h, g_tk h, hT, lst, Option.map_some, Option.map_none, Option.some.injEq, exists_eq_left', forall_eq', reduceCtorEq, false_implies, true_implies, forall_const, true_and, and_true]
    exact s_X11_refuse (d := d + 28) (t := 1) h (by decide) hK
  | some T =>
    simp only [hT] at hK
    obtain ⟨hW, hV, hG, htk, hwho, hsd⟩ := hZ.so hT
    obtain ⟨hS, hO, hr⟩ := h.so hT hW
    have hX := hS.hX C
    simp only [ztk] at htk
    simp only [zwh] at hwho
    refine k_lay (d := d + 27) h hT hX hW ?_
    cases hi : ix v (allL T).length with
    | none =>
      simp only [hi] at hK
      simp only [g_cur h, g_outl h, g_laid h, g_past h, g_play h, g_rows h, g_tk h, hT, lst, Option.map_some, Option.map_none, Option.some.injEq, exists_eq_left', forall_eq', reduceCtorEq, false_implies, true_implies, forall_const, true_and, and_true]
      exact s_X11_refuse (d := d + 28) (t := 1) h (by decide) hK
    | some i =>
      obtain ⟨rfl, hlt⟩ := ix_some (by have := allL_224 hW; omega) hi
      obtain ⟨e, he⟩ : ∃ e, (allL T)[i]? = some e := ⟨_, List.getElem?_eq_getElem hlt⟩
      simp only [hi, he] at hK
      obtain ⟨g, g1, g2, g3⟩ := hX.lay he
      simp only [g_cur h, g_outl h, g_laid h, g_past h, g_play h, g_rows h, g_tk h, hT, lst, Option.map_some, Option.map_none, Option.some.injEq, exists_eq_left', forall_eq', reduceCtorEq, false_implies, true_implies, forall_const, true_and, and_true]
      refine n_next (d := d + 28) h (hX.my (d := d + 27) hW he (by omega) hwho ?_)
      refine ⟨fun e1 => ?_, fun e1 => ?_⟩
      · simp only [ztk, zwh, e1, if_true] at hK
        simp only [g_cur h, g_outl h, g_laid h, g_past h, g_play h, g_rows h, g_tk h, hT, lst, Option.map_some, Option.map_none, Option.some.injEq, exists_eq_left', forall_eq', reduceCtorEq, false_implies, true_implies, forall_const, true_and, and_true]
        exact s_X8_countSpoiled (d := d + 27) hX hW he htk (s_X11_accept (d := d + 28) h fun C'' h1 => hK _ ⟨Q, X, h1⟩)
      · simp only [ztk, zwh, e1, Bool.false_eq_true, if_false] at hK
        exact s_X11_refuse (d := d + 28) (t := 5) h (by decide) hK
theorem p_X11_lay (hZ : VZ Z) (hC : CI Z N Mo P τ C) {v w : Int32} {K : Int32 → Hp → Prop} (hK : ∀ C', CI (zt Z (q_lay Z v w).1) N Mo P τ C' → K (q_lay Z v w).2 (ch 75 P C' τ)) : C_X11_lay l G (d + 30) (P 0) v w (ch 75 P C τ) K := by
  obtain ⟨Q, X, h⟩ := hC
  refine m_X11_lay (rv_0 h) ?_
  simp only [F_X11_lay_19, F_X11_lay]
  simp only [q_lay, onL, onT] at hK
  cases hT : zT Z with
  | none =>
    simp only [hT] at hK
    refine k_lay0 h hT ?_
    simp only [g_cur h, g_outl h, g_laid h, g_past h, g_play h, g_rows h, g_tk h, hT, lst, Option.map_some, Option.map_none, Option.some.injEq, exists_eq_left', forall_eq', reduceCtorEq, false_implies, true_implies, forall_const, true_and, and_true]
    exact s_X11_refuse (d := d + 28) (t := 1) h (by decide) hK
  | some T =>
    simp only [hT] at hK
    obtain ⟨hW, hV, hG, htk, hwho, hsd⟩ := hZ.so hT
    obtain ⟨hS, hO, hr⟩ := h.so hT hW
    have hX := hS.hX C
    simp only [ztk] at htk
    simp only [zwh] at hwho
    refine k_lay (d := d + 27) h hT hX hW ?_
    cases hi : ix v (allL T).length with
    | none =>
      simp only [hi] at hK
      simp only [g_cur h, g_outl h, g_laid h, g_past h, g_play h, g_rows h, g_tk h, hT, lst, Option.map_some, Option.map_none, Option.some.injEq, exists_eq_left', forall_eq', reduceCtorEq, false_implies, true_implies, forall_const, true_and, and_true]
      exact s_X11_refuse (d := d + 28) (t := 1) h (by decide) hK
    | some i =>
      obtain ⟨rfl, hlt⟩ := ix_some (by have := allL_224 hW; omega) hi
      obtain ⟨e, he⟩ : ∃ e, (allL T)[i]? = some e := ⟨_, List.getElem?_eq_getElem hlt⟩
      simp only [hi, he] at hK
      obtain ⟨g, g1, g2, g3⟩ := hX.lay he
      simp only [g_cur h, g_outl h, g_laid h, g_past h, g_play h, g_rows h, g_tk h, hT, lst, Option.map_some, Option.map_none, Option.some.injEq, exists_eq_left', forall_eq', reduceCtorEq, false_implies, true_implies, forall_const, true_and, and_true]
      have h0 : ∀ q, CIq q N Mo P τ C Q X → True := fun _ _ => trivial
      have hp5 : ¬ (0 : Int32) ≤ w → True := fun _ => trivial
      have hpi := (hV i e he).1
      obtain ⟨p, hp⟩ := hpi
      obtain ⟨b, hb⟩ := (hV i e he).2.1
      obtain ⟨-, nmp, hcp⟩ := hX.2.2.2.2.1 _ p hp
      obtain ⟨-, nmb, hcb⟩ := hX.2.2.2.1 _ b hb
      refine ⟨fun c1 => ?_, fun c1 => ⟨fun c2 => ?_, fun c2 => ?_⟩⟩
      · rw [if_neg (fun e => by rw [e] at c1; exact absurd c1 (by decide)), if_neg (fun e => by rw [e] at c1; exact absurd c1 (by decide)), if_neg (fun e => by rw [e] at c1; exact absurd c1 (by decide)), if_neg (fun e => by rw [e] at c1; exact absurd c1 (by decide)), if_neg (fun e => by rw [e] at c1; exact absurd c1 (by decide)), if_neg (fun e => by rw [e] at c1; exact absurd c1 (by decide))] at hK
        exact s_X11_refuse (d := d + 28) (t := 1) h (by decide) hK
      · obtain ⟨m, hm, rfl⟩ := nt_of c1
        rw [show (5 : Int32) = nI 5 from rfl, nt_le hm (by decide)] at c2
        refine m_X2_part (rv_at g3 ⟨_, rfl⟩) ?_
        simp only [F_X2_part, fI_at (g3), fZ_at (g3), fJ_at (g3), fR_at (g3), fN_at (g3), pF_at (g3), rI2_0, rP2_0, rR2_1, rN2_1, rP2_1, rR2_2, rN2_2, rP2_2, rI2_3, rP2_3, rI2_4, rP2_4, rI2_5, rP2_5, rI2_6, rP2_6, rI2_7, rP2_7, rR2_8, rN2_8, rP2_8, fI_at (hcp), fZ_at (hcp), fJ_at (hcp), fR_at (hcp), fN_at (hcp), pF_at (hcp), fI_at (hcb), fZ_at (hcb), fJ_at (hcb), fR_at (hcb), fN_at (hcb), pF_at (hcb), rI0_0, rP0_0, rJ0_1, rP0_1, rI0_2, rP0_2, rI0_3, rP0_3, rI0_4, rP0_4, rI5_0, rP5_0, rJ5_1, rP5_1, rI5_2, rP5_2, rI5_3, rP5_3, rI5_4, rP5_4, rZ5_5, rP5_5, rI5_6, rP5_6]
        rw [show (0 : Int32) = nI 0 from rfl, show (1 : Int32) = nI 1 from rfl, show (2 : Int32) = nI 2 from rfl, show (3 : Int32) = nI 3 from rfl, show (4 : Int32) = nI 4 from rfl, nt_eq hm (by decide), nt_eq hm (by decide), nt_eq hm (by decide), nt_eq hm (by decide), nt_eq hm (by decide)]
        have hK2 : ∀ x : Int32, (∀ C', CI (zt Z 0) N Mo P τ C' → K x (ch 75 P C' τ)) → C_X11_accept l G (d + 29) (P 0) x (ch 75 P C τ) K := fun x hx => s_X11_accept (d := d + 28) h fun C'' h1 => hx _ ⟨Q, X, h1⟩
        rcases (show m = 0 ∨ m = 1 ∨ m = 2 ∨ m = 3 ∨ m = 4 ∨ m = 5 by omega) with rfl | rfl | rfl | rfl | rfl | rfl
        all_goals
          simp only [Nat.reduceEqDiff, false_implies, true_implies, true_and, and_true, not_false_eq_true, not_true_eq_false, forall_const]
          exact hK2 _ hK
      · rw [if_neg (fun e => by rw [e] at c2; exact absurd (by decide) c2), if_neg (fun e => by rw [e] at c2; exact absurd (by decide) c2), if_neg (fun e => by rw [e] at c2; exact absurd (by decide) c2), if_neg (fun e => by rw [e] at c2; exact absurd (by decide) c2), if_neg (fun e => by rw [e] at c2; exact absurd (by decide) c2), if_neg (fun e => by rw [e] at c2; exact absurd (by decide) c2)] at hK
        exact s_X11_refuse (d := d + 28) (t := 1) h (by decide) hK
end PUBC
