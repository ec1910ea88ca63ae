/-! public methods of the class: players; what is told; acts -/
theorem chs_in {T : TB} {L : List LY} {p tk who s n : Nat} {last : Option Nat} (h : (chs T L p tk who last s).1 = some n) : ∃ e, L[n]? = some e := by
  cases hm : mvs T L tk who with
  | nil => rw [chs_none hm] at h; cases h
  | cons y ys =>
    obtain ⟨x, e, f1, f2, f3⟩ := chs_ok (T := T) (L := L) (p := p) (tk := tk) (who := who) (last := last) (s := s) (by rw [hm]; simp)
    rw [f1] at h
    cases h
    exact ⟨e, f2⟩
theorem winN_lt (T : TB) (n : Nat) : winN T n < 2 := by
  unfold winN
  split <;> omega
section PUBE
variable {l : Launch} {G : GG} {d : Nat} {Z : ST} {N : Nat} {Mo : Nat → Prop} {P : Nat → Nat} {τ : Hp} {C : Nat → CE} {Q : Nat → Prop} {X : TX} {T : TB}
theorem k_isPlayer {σ : Hp} {p : Int32} {K : Bool → Hp → Prop} (hK : K (inR p 0 4) σ) : C_X11_isPlayer l G (d + 1) p σ K := by
  refine m_X11_isPlayer ?_
  simp only [F_X11_isPlayer_14, F_X11_isPlayer_13, F_X11_isPlayer]
  refine ⟨fun h => ?_, fun h => ⟨fun h2 => ?_, fun h2 => ?_⟩⟩
  · rwa [inR, decide_eq_false (show ¬ (¬ p < nI 0 ∧ ¬ nI 4 < p) from fun hc => hc.1 h)] at hK
  · obtain ⟨a, ha, rfl⟩ := nt_of h
    rw [show (5 : Int32) = nI 5 from rfl, nt_le (by decide) ha] at h2
    rwa [inR, decide_eq_false (show ¬ (¬ nI a < nI 0 ∧ ¬ nI 4 < nI a) from fun hc => hc.2 ((nt_lt (by decide) ha).mpr (by omega)))] at hK
  · obtain ⟨a, ha, rfl⟩ := nt_of h
    rw [show (5 : Int32) = nI 5 from rfl, nt_le (by decide) ha] at h2
    rwa [inR, decide_eq_true (show ¬ nI a < nI 0 ∧ ¬ nI 4 < nI a from ⟨h, fun hc => by rw [nt_lt (by decide) ha] at hc; omega⟩)] at hK
theorem k_winner (h : CIq Z N Mo P τ C Q X) (hT : zT Z = some T) (hX : TBr Q (ch 75 P C τ) X T) {n : Nat} {K : Int32 → Hp → Prop} (hK : K (nI (winN T n)) (ch 75 P C τ)) : C_X11_winnerBehind l G (d + 1) (P 0) (nI n) (ch 75 P C τ) K := by
  refine m_X11_winnerBehind (rv_0 h) ?_
  simp only [F_X11_winnerBehind_28, F_X11_winnerBehind_25, F_X11_winnerBehind, g_cur h, g_outl h, g_laid h, g_past h, g_play h, g_rows h, g_tk h, hT, lst, Option.map_some, Option.map_none, Option.some.injEq, exists_eq_left', forall_eq', reduceCtorEq, false_implies, true_implies, forall_const, true_and, and_true]
  simp only [fZ_at hX.1.2, rZ8_0, rP8_0, rZ8_1, rP8_1, rZ8_2, rP8_2, rR8_3, rN8_3, rP8_3, rR8_4, rN8_4, rP8_4, rI8_5, rP8_5, rI8_6, rP8_6, rZ8_7, rP8_7, rR8_8, rN8_8, rP8_8]
  rw [show (1 : Int32) = nI 1 from rfl, nt_and, Nat.and_one_is_mod, nt_sub (by omega) (by decide)]
  unfold winN at hK
  refine ⟨fun e => ?_, fun e => ?_⟩
  · rwa [if_neg (by rw [e]; decide)] at hK
  · rwa [if_pos e] at hK
theorem p_X11_would (hZ : VZ Z) (hC : CI Z N Mo P τ C) {p : Int32} {K : Int32 → Hp → Prop} (hK : ∀ C', CI (zt Z (q_would Z p).1) N Mo P τ C' → K (q_would Z p).2 (ch 75 P C' τ)) : C_X11_would l G (d + 30) (P 0) p (ch 75 P C τ) K := by
  obtain ⟨Q, X, h⟩ := hC
  refine m_X11_would (rv_0 h) ?_
  simp only [F_X11_would_14, F_X11_would, g_cur h]
  simp only [q_would, onP, onT] at hK
  cases hT : zT Z with
  | none =>
    simp only [hT] at hK
    simp only [g_cur h, g_outl h, g_laid h, g_past h, g_play h, g_rows h, g_tk h, hT, lst, Option.map_some, Option.map_none, Option.some.injEq, exists_eq_left', forall_eq', reduceCtorEq, false_implies, true_implies, forall_const, true_and, and_true]
    exact s_X11_refuse (d := d + 28) (t := 1) h (by decide) hK
  | some T =>
    simp only [hT] at hK
    obtain ⟨hW, hV, hG, htk, hwho, hsd⟩ := hZ.so hT
    obtain ⟨hS, hO, hr⟩ := h.so hT hW
    have hX := hS.hX C
    have htk2 := tkn_lt2 hW (zW Z).1
    have h31 : T.2.1.length < 2 ^ 31 := Nat.lt_of_le_of_lt hW.1.1 (by decide)
    have h32 : T.2.2.1.length < 2 ^ 31 := Nat.lt_of_le_of_lt hW.2.1.1 (by decide)
    simp only [ztk] at htk
    simp only [zwh] at hwho
    simp only [g_cur h, g_outl h, g_laid h, g_past h, g_play h, g_rows h, g_tk h, hT, lst, Option.map_some, Option.map_none, Option.some.injEq, exists_eq_left', forall_eq', reduceCtorEq, false_implies, true_implies, forall_const, true_and, and_true]
    refine k_isPlayer (d := d + 28) ?_
    cases hp : inR p 0 4 with
    | false =>
      simp only [hp, Bool.false_eq_true, if_false] at hK
      simp only [g_cur h, g_outl h, g_laid h, g_past h, g_play h, g_rows h, g_tk h, hT, lst, Option.map_some, Option.map_none, Option.some.injEq, exists_eq_left', forall_eq', reduceCtorEq, false_implies, true_implies, forall_const, true_and, and_true]
      exact s_X11_refuse (d := d + 28) (t := 1) h (by decide) hK
    | true =>
      obtain ⟨p', rfl, p1, p2⟩ := inR_some (by decide) (by decide) hp
      simp only [hp, if_true, nI_clamp (show p' < 2 ^ 31 by omega)] at hK
      simp only [g_cur h, g_outl h, g_laid h, g_past h, g_play h, g_rows h, g_tk h, hT, lst, Option.map_some, Option.map_none, Option.some.injEq, exists_eq_left', forall_eq', reduceCtorEq, false_implies, true_implies, forall_const, true_and, and_true]
      refine s_X6_wouldLay (d := d + 7) hS hO hr hG hsd h.2.2.2.1.2.2.2.2.1.1 h.2.2.2.1.2.2.2.2.1.2 (by omega) fun C' a1 a2 a3 => ?_
      exact s_X11_numberOf (d := d + 28) (hS.hX C') (fun n hn => chs_in hn) (s_X11_accept (d := d + 28) (h.wk hT a1 a2 a3) fun C'' h1 => hK _ ⟨Q, X, h1⟩)
theorem p_X11_match (hZ : VZ Z) (hC : CI Z N Mo P τ C) {p q : Int32} {K : Int32 → Hp → Prop} (hK : ∀ C', CI (zt Z (q_match Z p q).1) N Mo P τ C' → K (q_match Z p q).2 (ch 75 P C' τ)) : C_X11_match l G (d + 30) (P 0) p q (ch 75 P C τ) K := by
  obtain ⟨Q, X, h⟩ := hC
  refine m_X11_match (rv_0 h) ?_
  simp only [F_X11_match_21, F_X11_match, g_cur h]
  simp only [q_match, onP, onT] at hK
  cases hT : zT Z with
  | none =>
    simp only [hT] at hK
    simp only [g_cur h, g_outl h, g_laid h, g_past h, g_play h, g_rows h, g_tk h, hT, lst, Option.map_some, Option.map_none, Option.some.injEq, exists_eq_left', forall_eq', reduceCtorEq, false_implies, true_implies, forall_const, true_and, and_true]
    exact s_X11_refuse (d := d + 28) (t := 1) h (by decide) hK
  | some T =>
    simp only [hT] at hK
    obtain ⟨hW, hV, hG, htk, hwho, hsd⟩ := hZ.so hT
    obtain ⟨hS, hO, hr⟩ := h.so hT hW
    have hX := hS.hX C
    have htk2 := tkn_lt2 hW (zW Z).1
    have h31 : T.2.1.length < 2 ^ 31 := Nat.lt_of_le_of_lt hW.1.1 (by decide)
    have h32 : T.2.2.1.length < 2 ^ 31 := Nat.lt_of_le_of_lt hW.2.1.1 (by decide)
    simp only [ztk] at htk
    simp only [zwh] at hwho
    simp only [g_cur h, g_outl h, g_laid h, g_past h, g_play h, g_rows h, g_tk h, hT, lst, Option.map_some, Option.map_none, Option.some.injEq, exists_eq_left', forall_eq', reduceCtorEq, false_implies, true_implies, forall_const, true_and, and_true]
    refine k_isPlayer (d := d + 28) ?_
    cases hp : inR p 0 4 with
    | false =>
      simp only [hp, Bool.false_eq_true, if_false] at hK
      simp only [g_cur h, g_outl h, g_laid h, g_past h, g_play h, g_rows h, g_tk h, hT, lst, Option.map_some, Option.map_none, Option.some.injEq, exists_eq_left', forall_eq', reduceCtorEq, false_implies, true_implies, forall_const, true_and, and_true]
      exact s_X11_refuse (d := d + 28) (t := 1) h (by decide) hK
    | true =>
      obtain ⟨p', rfl, p1, p2⟩ := inR_some (by decide) (by decide) hp
      simp only [hp, if_true, nI_clamp (show p' < 2 ^ 31 by omega)] at hK
      simp only [g_cur h, g_outl h, g_laid h, g_past h, g_play h, g_rows h, g_tk h, hT, lst, Option.map_some, Option.map_none, Option.some.injEq, exists_eq_left', forall_eq', reduceCtorEq, false_implies, true_implies, forall_const, true_and, and_true]
      refine k_isPlayer (d := d + 28) ?_
      cases hq : inR q 0 4 with
      | false =>
        simp only [hq, Bool.false_eq_true, if_false] at hK
        simp only [g_cur h, g_outl h, g_laid h, g_past h, g_play h, g_rows h, g_tk h, hT, lst, Option.map_some, Option.map_none, Option.some.injEq, exists_eq_left', forall_eq', reduceCtorEq, false_implies, true_implies, forall_const, true_and, and_true]
        exact s_X11_refuse (d := d + 28) (t := 1) h (by decide) hK
      | true =>
        obtain ⟨q', rfl, q1, q2⟩ := inR_some (by decide) (by decide) hq
        simp only [hq, if_true, nI_clamp (show q' < 2 ^ 31 by omega)] at hK
        simp only [g_cur h, g_outl h, g_laid h, g_past h, g_play h, g_rows h, g_tk h, hT, lst, Option.map_some, Option.map_none, Option.some.injEq, exists_eq_left', forall_eq', reduceCtorEq, false_implies, true_implies, forall_const, true_and, and_true]
        refine s_X6_lengthOfMatch (d := d + 7) hS hO hr hG hsd h.2.2.2.1.2.2.2.2.1.1 h.2.2.2.1.2.2.2.2.1.2 (by omega) (by omega) fun C' a1 a2 a3 => ?_
        have h' := h.wk hT a1 a2 a3
        exact k_winner (d := d + 28) h' hT (hS.hX C') (s_X11_accept (d := d + 28) h' fun C'' h1 => hK _ ⟨Q, X, h1⟩)
theorem p_X11_matchLong (hZ : VZ Z) (hC : CI Z N Mo P τ C) {p q : Int32} {K : Int32 → Hp → Prop} (hK : ∀ C', CI (zt Z (q_matchLong Z p q).1) N Mo P τ C' → K (q_matchLong Z p q).2 (ch 75 P C' τ)) : C_X11_matchLong l G (d + 30) (P 0) p q (ch 75 P C τ) K := by
  obtain ⟨Q, X, h⟩ := hC
  refine m_X11_matchLong (rv_0 h) ?_
  simp only [F_X11_matchLong_21, F_X11_matchLong, g_cur h]
  simp only [q_matchLong, onP, onT] at hK
  cases hT : zT Z with
  | none =>
    simp only [hT] at hK
    simp only [g_cur h, g_outl h, g_laid h, g_past h, g_play h, g_rows h, g_tk h, hT, lst, Option.map_some, Option.map_none, Option.some.injEq, exists_eq_left', forall_eq', reduceCtorEq, false_implies, true_implies, forall_const, true_and, and_true]
    exact s_X11_refuse (d := d + 28) (t := 1) h (by decide) hK
  | some T =>
    simp only [hT] at hK
    obtain ⟨hW, hV, hG, htk, hwho, hsd⟩ := hZ.so hT
    obtain ⟨hS, hO, hr⟩ := h.so hT hW
    have hX := hS.hX C
    have htk2 := tkn_lt2 hW (zW Z).1
    have h31 : T.2.1.length < 2 ^ 31 := Nat.lt_of_le_of_lt hW.1.1 (by decide)
    have h32 : T.2.2.1.length < 2 ^ 31 := Nat.lt_of_le_of_lt hW.2.1.1 (by decide)
    simp only [ztk] at htk
    simp only [zwh] at hwho
    simp only [g_cur h, g_outl h, g_laid h, g_past h, g_play h, g_rows h, g_tk h, hT, lst, Option.map_some, Option.map_none, Option.some.injEq, exists_eq_left', forall_eq', reduceCtorEq, false_implies, true_implies, forall_const, true_and, and_true]
    refine k_isPlayer (d := d + 28) ?_
    cases hp : inR p 0 4 with
    | false =>
      simp only [hp, Bool.false_eq_true, if_false] at hK
      simp only [g_cur h, g_outl h, g_laid h, g_past h, g_play h, g_rows h, g_tk h, hT, lst, Option.map_some, Option.map_none, Option.some.injEq, exists_eq_left', forall_eq', reduceCtorEq, false_implies, true_implies, forall_const, true_and, and_true]
      exact s_X11_refuse (d := d + 28) (t := 1) h (by decide) hK
    | true =>
      obtain ⟨p', rfl, p1, p2⟩ := inR_some (by decide) (by decide) hp
      simp only [hp, if_true, nI_clamp (show p' < 2 ^ 31 by omega)] at hK
      simp only [g_cur h, g_outl h, g_laid h, g_past h, g_play h, g_rows h, g_tk h, hT, lst, Option.map_some, Option.map_none, Option.some.injEq, exists_eq_left', forall_eq', reduceCtorEq, false_implies, true_implies, forall_const, true_and, and_true]
      refine k_isPlayer (d := d + 28) ?_
      cases hq : inR q 0 4 with
      | false =>
        simp only [hq, Bool.false_eq_true, if_false] at hK
        simp only [g_cur h, g_outl h, g_laid h, g_past h, g_play h, g_rows h, g_tk h, hT, lst, Option.map_some, Option.map_none, Option.some.injEq, exists_eq_left', forall_eq', reduceCtorEq, false_implies, true_implies, forall_const, true_and, and_true]
        exact s_X11_refuse (d := d + 28) (t := 1) h (by decide) hK
      | true =>
        obtain ⟨q', rfl, q1, q2⟩ := inR_some (by decide) (by decide) hq
        simp only [hq, if_true, nI_clamp (show q' < 2 ^ 31 by omega)] at hK
        simp only [g_cur h, g_outl h, g_laid h, g_past h, g_play h, g_rows h, g_tk h, hT, lst, Option.map_some, Option.map_none, Option.some.injEq, exists_eq_left', forall_eq', reduceCtorEq, false_implies, true_implies, forall_const, true_and, and_true]
        refine s_X6_lengthOfMatch (d := d + 7) hS hO hr hG hsd h.2.2.2.1.2.2.2.2.1.1 h.2.2.2.1.2.2.2.2.1.2 (by omega) (by omega) fun C' a1 a2 a3 => ?_
        exact s_X11_accept (d := d + 28) (h.wk hT a1 a2 a3) fun C'' h1 => hK _ ⟨Q, X, h1⟩
theorem p_X11_beats (hZ : VZ Z) (hC : CI Z N Mo P τ C) {p : Int32} {K : Int32 → Hp → Prop} (hK : ∀ C', CI (zt Z (q_beats Z p).1) N Mo P τ C' → K (q_beats Z p).2 (ch 75 P C' τ)) : C_X11_beats l G (d + 30) (P 0) p (ch 75 P C τ) K := by
  obtain ⟨Q, X, h⟩ := hC
  refine m_X11_beats (rv_0 h) ?_
  simp only [F_X11_beats_14, F_X11_beats_59, F_X11_beats_24, F_X11_beats, g_cur h]
  simp only [q_beats, onP, onT] at hK
  cases hT : zT Z with
  | none =>
    simp only [hT] at hK
    simp only [g_cur h, g_outl h, g_laid h, g_past h, g_play h, g_rows h, g_tk h, hT, lst, Option.map_some, Option.map_none, Option.some.injEq, exists_eq_left', forall_eq', reduceCtorEq, false_implies, true_implies, forall_const, true_and, and_true]
    exact s_X11_refuse (d := d + 28) (t := 1) h (by decide) hK
  | some T =>
    simp only [hT] at hK
    obtain ⟨hW, hV, hG, htk, hwho, hsd⟩ := hZ.so hT
    obtain ⟨hS, hO, hr⟩ := h.so hT hW
    have hX := hS.hX C
    have htk2 := tkn_lt2 hW (zW Z).1
    have h31 : T.2.1.length < 2 ^ 31 := Nat.lt_of_le_of_lt hW.1.1 (by decide)
    have h32 : T.2.2.1.length < 2 ^ 31 := Nat.lt_of_le_of_lt hW.2.1.1 (by decide)
    simp only [ztk] at htk
    simp only [zwh] at hwho
    simp only [g_cur h, g_outl h, g_laid h, g_past h, g_play h, g_rows h, g_tk h, hT, lst, Option.map_some, Option.map_none, Option.some.injEq, exists_eq_left', forall_eq', reduceCtorEq, false_implies, true_implies, forall_const, true_and, and_true]
    refine k_isPlayer (d := d + 28) ?_
    cases hp : inR p 0 4 with
    | false =>
      simp only [hp, Bool.false_eq_true, if_false] at hK
      simp only [g_cur h, g_outl h, g_laid h, g_past h, g_play h, g_rows h, g_tk h, hT, lst, Option.map_some, Option.map_none, Option.some.injEq, exists_eq_left', forall_eq', reduceCtorEq, false_implies, true_implies, forall_const, true_and, and_true]
      exact s_X11_refuse (d := d + 28) (t := 1) h (by decide) hK
    | true =>
      obtain ⟨p', rfl, p1, p2⟩ := inR_some (by decide) (by decide) hp
      simp only [hp, if_true, nI_clamp (show p' < 2 ^ 31 by omega)] at hK
      simp only [g_cur h, g_outl h, g_laid h, g_past h, g_play h, g_rows h, g_tk h, hT, lst, Option.map_some, Option.map_none, Option.some.injEq, exists_eq_left', forall_eq', reduceCtorEq, false_implies, true_implies, forall_const, true_and, and_true]
      have hz : ∀ n q a C1, q + n = 5 → btB Z T p' n q a = btB Z T p' 5 0 0 → CIq Z N Mo P τ C1 Q X → Z_X11_beats_24 l G (d + 29) K (n + 1) (P 0) (nI p') (nI a) (nI q) (ch 75 P C1 τ) := by
        intro n
        induction n with
        | zero =>
          intro q a C1 hq hR h
          simp only [btB] at hR
          subst hR
          simp only [Z_X11_beats_24, F_X11_beats_24]
          rw [show (5 : Int32) = nI 5 from rfl, nt_le (by decide) (by omega)]
          exact ⟨fun _ => s_X11_accept (d := d + 28) h fun C'' h1 => hK _ ⟨Q, X, h1⟩, fun hc => absurd (by omega) hc⟩
        | succ n ih =>
          intro q a C1 hq hR h
          obtain ⟨hS, hO, hr⟩ := h.so hT hW
          rw [show n + 1 + 1 = (n + 1) + 1 from rfl, Z_X11_beats_24]
          simp only [F_X11_beats_24, F_X11_beats_59, g_cur h, g_outl h, g_laid h, g_past h, g_play h, g_rows h, g_tk h, hT, lst, Option.map_some, Option.map_none, Option.some.injEq, exists_eq_left', forall_eq', reduceCtorEq, false_implies, true_implies, forall_const, true_and, and_true]
          rw [show (5 : Int32) = nI 5 from rfl, nt_le (by decide) (by omega)]
          refine ⟨fun hc => by omega, fun _ => ?_⟩
          refine s_X6_lengthOfMatch (d := d + 7) hS hO hr hG hsd h.2.2.2.1.2.2.2.2.1.1 h.2.2.2.1.2.2.2.2.1.2 (by omega) (by omega) fun C' a1 a2 a3 => ?_
          have h' := h.wk hT a1 a2 a3
          have hw1 := winN_lt T (mtc T (allL T) p' q ((zW Z).1.length % 2) 14 0 (tkn (allL T) (zW Z).1) (zW Z).1.getLast? (zW Z).2)
          simp only [btB] at hR
          refine k_winner (d := d + 28) h' hT (hS.hX C') ⟨fun e => ?_, fun e => ?_⟩
          · rw [nt_0 (by omega)] at e
            rw [if_neg (show ¬ winN T (mtZ Z T p' q) = 0 from e)] at hR
            rw [show nI q + 1 = nI (q + 1) from nt_add q 1]
            exact ih (q + 1) a C' (by omega) hR h'
          · rw [nt_0 (by omega)] at e
            rw [if_pos (show winN T (mtZ Z T p' q) = 0 from e)] at hR
            rw [show nI q + 1 = nI (q + 1) from nt_add q 1, nt_one (by omega), nt_or]
            exact ih (q + 1) _ C' (by omega) hR h'
      exact ⟨_, hz 5 0 0 C (by omega) rfl h⟩
end PUBE
