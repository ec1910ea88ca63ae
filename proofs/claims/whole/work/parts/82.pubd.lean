/-! public methods of the class: layAt, over, ways, heap, half, open, layOf; rows -/
theorem nI_nz {c : Nat} (h0 : 0 < c) (h : c < 2 ^ 32) : ¬ nI c = 0 := fun e => by
  have h1 : (nI c).toBitVec.toNat = (0 : Int32).toBitVec.toNat := by rw [e]
  have h2 : (nI c).toBitVec.toNat = c % 2 ^ 32 := BitVec.toNat_ofNat c 32
  rw [h2, Nat.mod_eq_of_lt h] at h1
  have h3 : (0 : Int32).toBitVec.toNat = 0 := rfl
  omega
section PUBD0
variable {l : Launch} {G : GG} {d : Nat} {σ : Hp} {Q : Nat → Prop} {X : TX} {T : TB}
theorem s_X8_thatMay0 (hX : TBr Q σ X T) (hW : WFT T) {tk who : Nat} (htk : tk < 2 ^ 31) (hwho : who < 2) {w : Int32} (hw : w < 0) {K : Option Nat → Hp → Prop} (hK : K none σ) : C_X8_thatMay l G (d + 3) (xT X) (nI tk) (nI who) w σ K := by
  have h224 := allL_224 hW
  have h0 := hX.1.2
  have hz : ∀ r i c, i + r = (allL T).length → r + 1 ≤ c → c < 2 ^ 32 → Z_X8_thatMay_17 l G (d + 2) K (r + 1) (nI tk) (nI who) (nI c) (xL' X) (nI (allL T).length) (nI i) σ := by
    intro r
    induction r with
    | zero =>
      intro i c hi hc h
      simp only [Z_X8_thatMay_17, F_X8_thatMay_17]
      rw [nt_le (by omega) (by omega)]
      exact ⟨fun _ => hK, fun hc => absurd (by omega) hc⟩
    | succ r ih =>
      intro i c hi hc h
      obtain ⟨e, he⟩ : ∃ e, (allL T)[i]? = some e := ⟨_, List.getElem?_eq_getElem (by omega)⟩
      rw [show r + 1 + 1 = (r + 1) + 1 from rfl, Z_X8_thatMay_17]
      simp only [F_X8_thatMay_17, F_X8_thatMay_52, show nI i + 1 = nI (i + 1) from nt_add i 1]
      rw [nt_le (by omega) (by omega)]
      refine ⟨fun hc => by omega, fun _ => hX.gN hW he (hX.my hW he htk hwho ⟨fun h1 => ih (i + 1) c (by omega) (by omega) h, fun h1 => ⟨fun h2 => ?_, fun h2 => absurd h2 (nI_nz (by omega) h)⟩⟩)⟩
      obtain ⟨c', rfl⟩ : ∃ c', c = c' + 1 := ⟨c - 1, by omega⟩
      rw [nt_m1]
      exact ih (i + 1) c' (by omega) (by omega) (by omega)
  obtain ⟨n, hn, rfl⟩ := wb_of32 w
  have h31 : 2 ^ 31 ≤ n := Nat.le_of_not_lt fun hc => nt_neg hc hw
  refine m_X8_thatMay (rv_at h0 ⟨_, rfl⟩) ?_
  simp only [F_X8_thatMay, fI_at (h0), fZ_at (h0), fJ_at (h0), fR_at (h0), fN_at (h0), pF_at (h0), rZ8_0, rP8_0, rZ8_1, rP8_1, rZ8_2, rP8_2, rR8_3, rN8_3, rP8_3, rR8_4, rN8_4, rP8_4, rI8_5, rP8_5, rI8_6, rP8_6, rZ8_7, rP8_7, rR8_8, rN8_8, rP8_8, hX.aL]
  exact ⟨_, hz (allL T).length 0 n (by omega) (by omega) hn⟩
end PUBD0
section PUBD
variable {l : Launch} {G : GG} {d : Nat} {Z : ST} {N : Nat} {Mo : Nat → Prop} {P : Nat → Nat} {τ : Hp} {C : Nat → CE} {Q : Nat → Prop} {X : TX} {T : TB}
theorem k_isOver (h : CIq Z N Mo P τ C Q X) (hT : zT Z = some T) (hX : TBr Q (ch 75 P C τ) X T) (hW : WFT T) {K : Bool → Hp → Prop} (hK : K (mvs T (allL T) (tkn (allL T) (zW Z).1) ((zW Z).1.length % 2)).isEmpty (ch 75 P C τ)) : C_X11_isOver l G (d + 4) (P 0) (ch 75 P C τ) K := by
  have htk := tkn_lt (allL_VL hW) (zW Z).1
  refine m_X11_isOver (rv_0 h) ?_
  simp only [F_X11_isOver_37, F_X11_isOver_32, F_X11_isOver, g_cur h, g_outl h, g_laid h, g_past h, g_play h, g_rows h, g_tk h, hT, lst, Option.map_some, Option.map_none, Option.some.injEq, exists_eq_left', forall_eq', reduceCtorEq, false_implies, true_implies, forall_const, true_and, and_true]
  refine n_next (d := d + 2) h (s_X8_thatMay (d := d) (w := 0) hX hW (by omega) (Nat.mod_lt _ (by decide)) (by decide) ?_)
  cases hf : mAt (fun e => myE T e (tkn (allL T) (zW Z).1) ((zW Z).1.length % 2)) (allL T) 0 0 with
  | none =>
    have h1 : mvs T (allL T) (tkn (allL T) (zW Z).1) ((zW Z).1.length % 2) = [] := (mAt_0 _ _).mp hf
    rw [h1] at hK
    simp only [g_cur h, g_outl h, g_laid h, g_past h, g_play h, g_rows h, g_tk h, hT, lst, Option.map_some, Option.map_none, Option.some.injEq, exists_eq_left', forall_eq', reduceCtorEq, false_implies, true_implies, forall_const, true_and, and_true]
    exact hK
  | some f =>
    have h1 := mvs_ne hf
    simp only [g_cur h, g_outl h, g_laid h, g_past h, g_play h, g_rows h, g_tk h, hT, lst, Option.map_some, Option.map_none, Option.some.injEq, exists_eq_left', forall_eq', reduceCtorEq, false_implies, true_implies, forall_const, true_and, and_true]
    cases hm : mvs T (allL T) (tkn (allL T) (zW Z).1) ((zW Z).1.length % 2) with
    | nil => exact absurd hm h1
    | cons y ys => rw [hm] at hK; exact hK
theorem p_X11_layAt (hZ : VZ Z) (hC : CI Z N Mo P τ C) {v : Int32} {K : Int32 → Hp → Prop} (hK : ∀ C', CI (zt Z (q_layAt Z v).1) N Mo P τ C' → K (q_layAt Z v).2 (ch 75 P C' τ)) : C_X11_layAt l G (d + 30) (P 0) v (ch 75 P C τ) K := by
  obtain ⟨Q, X, h⟩ := hC
  refine m_X11_layAt (rv_0 h) ?_
  simp only [F_X11_layAt_33, F_X11_layAt, g_cur h]
  simp only [q_layAt, onT] at hK
  cases hT : zT Z with
  | none =>
    simp only [hT] at hK
    simp only [g_cur h, g_outl h, g_laid h, g_past h, g_play h, g_rows h, g_tk h, hT, lst, Option.map_some, Option.map_none, Option.some.injEq, exists_eq_left', forall_eq', reduceCtorEq, false_implies, true_implies, forall_const, true_and, and_true]
    exact s_X11_refuse (d := d + 28) (t := 1) h (by decide) hK
  | some T =>
    simp only [hT] at hK
    obtain ⟨hW, hV, hG, htk, hwho, hsd⟩ := hZ.so hT
    obtain ⟨hS, hO, hr⟩ := h.so hT hW
    have hX := hS.hX C
    have htk2 := tkn_lt2 hW (zW Z).1
    have h31 : T.2.1.length < 2 ^ 31 := Nat.lt_of_le_of_lt hW.1.1 (by decide)
    have h32 : T.2.2.1.length < 2 ^ 31 := Nat.lt_of_le_of_lt hW.2.1.1 (by decide)
    simp only [ztk] at htk
    simp only [zwh] at hwho
    simp only [g_cur h, g_outl h, g_laid h, g_past h, g_play h, g_rows h, g_tk h, hT, lst, Option.map_some, Option.map_none, Option.some.injEq, exists_eq_left', forall_eq', reduceCtorEq, false_implies, true_implies, forall_const, true_and, and_true]
    refine n_next (d := d + 28) h ?_
    by_cases hv : v < 0
    · rw [if_pos hv] at hK
      refine s_X8_thatMay0 (d := d + 26) hX hW (by omega) hwho hv ?_
      simp only [g_cur h, g_outl h, g_laid h, g_past h, g_play h, g_rows h, g_tk h, hT, lst, Option.map_some, Option.map_none, Option.some.injEq, exists_eq_left', forall_eq', reduceCtorEq, false_implies, true_implies, forall_const, true_and, and_true]
      exact s_X11_refuse (d := d + 28) (t := 1) h (by decide) hK
    · rw [if_neg hv] at hK
      obtain ⟨a, ha, rfl⟩ := nt_of hv
      rw [nI_clamp ha] at hK
      refine s_X8_thatMay (d := d + 26) hX hW (by omega) hwho ha ?_
      simp only [ztk, zwh] at hK
      cases hm : mAt (fun e => myE T e (tkn (allL T) (zW Z).1) ((zW Z).1.length % 2)) (allL T) 0 a with
      | none =>
        simp only [hm] at hK
        simp only [g_cur h, g_outl h, g_laid h, g_past h, g_play h, g_rows h, g_tk h, hT, lst, Option.map_some, Option.map_none, Option.some.injEq, exists_eq_left', forall_eq', reduceCtorEq, false_implies, true_implies, forall_const, true_and, and_true]
        exact s_X11_refuse (d := d + 28) (t := 1) h (by decide) hK
      | some n =>
        simp only [hm] at hK
        obtain ⟨e, he⟩ : ∃ e, (allL T)[n]? = some e := (mAt_spec _ _ _ _ hm).imp fun e he => he.1
        obtain ⟨g, g1, g2, g3⟩ := hX.lay he
        simp only [g_cur h, g_outl h, g_laid h, g_past h, g_play h, g_rows h, g_tk h, hT, lst, Option.map_some, Option.map_none, Option.some.injEq, exists_eq_left', forall_eq', reduceCtorEq, false_implies, true_implies, forall_const, true_and, and_true]
        simp only [fI_at g3, rI2_0, rP2_0, rR2_1, rN2_1, rP2_1, rR2_2, rN2_2, rP2_2, rI2_3, rP2_3, rI2_4, rP2_4, rI2_5, rP2_5, rI2_6, rP2_6, rI2_7, rP2_7, rR2_8, rN2_8, rP2_8]
        exact s_X11_accept (d := d + 28) h fun C'' h1 => hK _ ⟨Q, X, h1⟩
theorem p_X11_over (hZ : VZ Z) (hC : CI Z N Mo P τ C) {K : Int32 → Hp → Prop} (hK : ∀ C', CI (zt Z (q_over Z).1) N Mo P τ C' → K (q_over Z).2 (ch 75 P C' τ)) : C_X11_over l G (d + 30) (P 0) (ch 75 P C τ) K := by
  obtain ⟨Q, X, h⟩ := hC
  refine m_X11_over (rv_0 h) ?_
  simp only [F_X11_over_26, F_X11_over, g_cur h]
  simp only [q_over, onT, zvl] at hK
  cases hT : zT Z with
  | none =>
    simp only [hT] at hK
    simp only [g_cur h, g_outl h, g_laid h, g_past h, g_play h, g_rows h, g_tk h, hT, lst, Option.map_some, Option.map_none, Option.some.injEq, exists_eq_left', forall_eq', reduceCtorEq, false_implies, true_implies, forall_const, true_and, and_true]
    exact s_X11_refuse (d := d + 28) (t := 1) h (by decide) hK
  | some T =>
    simp only [hT] at hK
    obtain ⟨hW, hV, hG, htk, hwho, hsd⟩ := hZ.so hT
    obtain ⟨hS, hO, hr⟩ := h.so hT hW
    have hX := hS.hX C
    have htk2 := tkn_lt2 hW (zW Z).1
    simp only [ztk] at htk
    simp only [zwh] at hwho
    simp only [g_cur h, g_outl h, g_laid h, g_past h, g_play h, g_rows h, g_tk h, hT, lst, Option.map_some, Option.map_none, Option.some.injEq, exists_eq_left', forall_eq', reduceCtorEq, false_implies, true_implies, forall_const, true_and, and_true]
    refine k_isOver (d := d + 25) h hT hX hW ?_
    refine ⟨fun e => s_X11_accept (d := d + 28) h fun C'' h1 => ?_, fun e => s_X11_accept (d := d + 28) h fun C'' h1 => ?_⟩
    · have := hK C'' ⟨Q, X, h1⟩
      simp only [ztk, zwh, e] at this
      exact this
    · have := hK C'' ⟨Q, X, h1⟩
      simp only [ztk, zwh, e] at this
      exact this
theorem p_X11_ways (hZ : VZ Z) (hC : CI Z N Mo P τ C) {K : Int64 → Hp → Prop} (hK : ∀ C', CI (zt Z (q_ways Z).1) N Mo P τ C' → K (q_ways Z).2 (ch 75 P C' τ)) : C_X11_ways l G (d + 30) (P 0) (ch 75 P C τ) K := by
  obtain ⟨Q, X, h⟩ := hC
  refine m_X11_ways (rv_0 h) ?_
  simp only [F_X11_ways, g_cur h]
  simp only [q_ways, zvl] at hK
  cases hT : zT Z with
  | none =>
    simp only [hT] at hK
    simp only [g_cur h, g_outl h, g_laid h, g_past h, g_play h, g_rows h, g_tk h, hT, lst, Option.map_some, Option.map_none, Option.some.injEq, exists_eq_left', forall_eq', reduceCtorEq, false_implies, true_implies, forall_const, true_and, and_true]
    refine s_X11_refuse (d := d + 28) (t := 1) h (by decide) fun C' h1 => ?_
    rw [show ((-1 : Int32)).toInt64 = (-1 : Int64) from by decide]
    exact hK C' h1
  | some T =>
    simp only [hT] at hK
    obtain ⟨hW, hV, hG, htk, hwho, hsd⟩ := hZ.so hT
    have htk2 := tkn_lt2 hW (zW Z).1
    simp only [zwh] at hwho
    simp only [g_cur h, g_outl h, g_laid h, g_past h, g_play h, g_rows h, g_tk h, hT, lst, Option.map_some, Option.map_none, Option.some.injEq, exists_eq_left', forall_eq', reduceCtorEq, false_implies, true_implies, forall_const, true_and, and_true]
    refine s_X11_accept (d := d + 28) (v := 0) h fun C' h1 => ?_
    have hT1 : zT (zt Z 0) = some T := hT
    obtain ⟨hS, hO, hr⟩ := h1.so hT1 hW
    simp only [g_outl h1, g_laid h1, g_tk h1, hT1, lst]
    refine n_next (d := d + 28) h1 (c_rowsOfLays (d := d + 10) hS hO htk2 hwho fun C'' a1 a2 => ?_)
    exact hK C'' ⟨Q, X, h1.ou hT1 a1 a2⟩
theorem p_X11_heap (hZ : VZ Z) (hC : CI Z N Mo P τ C) {v : Int32} {K : Int32 → Hp → Prop} (hK : ∀ C', CI (zt Z (q_heap Z v).1) N Mo P τ C' → K (q_heap Z v).2 (ch 75 P C' τ)) : C_X11_heap l G (d + 30) (P 0) v (ch 75 P C τ) K := by
  obtain ⟨Q, X, h⟩ := hC
  refine m_X11_heap (rv_0 h) ?_
  simp only [F_X11_heap, g_cur h]
  simp only [q_heap, onT] at hK
  cases hT : zT Z with
  | none =>
    simp only [hT] at hK
    simp only [g_cur h, g_outl h, g_laid h, g_past h, g_play h, g_rows h, g_tk h, hT, lst, Option.map_some, Option.map_none, Option.some.injEq, exists_eq_left', forall_eq', reduceCtorEq, false_implies, true_implies, forall_const, true_and, and_true]
    exact s_X11_refuse (d := d + 28) (t := 1) h (by decide) hK
  | some T =>
    simp only [hT] at hK
    obtain ⟨hW, hV, hG, htk, hwho, hsd⟩ := hZ.so hT
    obtain ⟨hS, hO, hr⟩ := h.so hT hW
    have hX := hS.hX C
    have htk2 := tkn_lt2 hW (zW Z).1
    have h31 : T.2.1.length < 2 ^ 31 := Nat.lt_of_le_of_lt hW.1.1 (by decide)
    have h32 : T.2.2.1.length < 2 ^ 31 := Nat.lt_of_le_of_lt hW.2.1.1 (by decide)
    simp only [ztk] at htk
    simp only [zwh] at hwho
    simp only [g_cur h, g_outl h, g_laid h, g_past h, g_play h, g_rows h, g_tk h, hT, lst, Option.map_some, Option.map_none, Option.some.injEq, exists_eq_left', forall_eq', reduceCtorEq, false_implies, true_implies, forall_const, true_and, and_true]
    refine ⟨fun hv => ?_, fun hv => ?_⟩
    · rw [if_pos hv] at hK
      simp only [F_X11_heap_35, g_cur h, g_outl h, g_laid h, g_past h, g_play h, g_rows h, g_tk h, hT, lst, Option.map_some, Option.map_none, Option.some.injEq, exists_eq_left', forall_eq', reduceCtorEq, false_implies, true_implies, forall_const, true_and, and_true]
      refine s_X8_isHeap (d := d + 24) hX hW ⟨fun e => ⟨fun h2 => absurd hv h2, fun _ => ?_⟩, fun e => ?_⟩
      · rw [if_pos e] at hK
        simp only [g_cur h, g_outl h, g_laid h, g_past h, g_play h, g_rows h, g_tk h, hT, lst, Option.map_some, Option.map_none, Option.some.injEq, exists_eq_left', forall_eq', reduceCtorEq, false_implies, true_implies, forall_const, true_and, and_true]
        refine c_grundyOfAll (d := d + 10) hS hO htk2 fun C' a1 a2 => ?_
        exact s_X11_accept (d := d + 28) (h.ou hT a1 a2) fun C'' h1 => hK _ ⟨Q, X, h1⟩
      · rw [if_neg (by rw [e]; decide)] at hK
        exact s_X11_refuse (d := d + 28) (t := 5) h (by decide) hK
    · rw [if_neg hv] at hK
      refine s_X8_boardAt (d := d + 24) hX hW ?_
      cases hi : ix v T.2.1.length with
      | none =>
        simp only [hi] at hK
        simp only [g_cur h, g_outl h, g_laid h, g_past h, g_play h, g_rows h, g_tk h, hT, lst, Option.map_some, Option.map_none, Option.some.injEq, exists_eq_left', forall_eq', reduceCtorEq, false_implies, true_implies, forall_const, true_and, and_true]
        exact s_X11_refuse (d := d + 28) (t := 1) h (by decide) hK
      | some k =>
        obtain ⟨rfl, hlt⟩ := ix_some h31 hi
        obtain ⟨b, hb⟩ : ∃ b, T.2.1[k]? = some b := ⟨_, List.getElem?_eq_getElem hlt⟩
        simp only [hi, hb] at hK
        simp only [F_X11_heap_35, g_cur h, g_outl h, g_laid h, g_past h, g_play h, g_rows h, g_tk h, hT, lst, Option.map_some, Option.map_none, Option.some.injEq, exists_eq_left', forall_eq', reduceCtorEq, false_implies, true_implies, forall_const, true_and, and_true]
        refine s_X8_isHeap (d := d + 24) hX hW ⟨fun e => ⟨fun _ => ?_, fun h2 => absurd h2 hv⟩, fun e => ?_⟩
        · rw [if_pos e, ← gr_and hW hb] at hK
          simp only [g_cur h, g_outl h, g_laid h, g_past h, g_play h, g_rows h, g_tk h, hT, lst, Option.map_some, Option.map_none, Option.some.injEq, exists_eq_left', forall_eq', reduceCtorEq, false_implies, true_implies, forall_const, true_and, and_true]
          refine s_X8_boardAt (d := d + 24) hX hW ?_
          simp only [hi, g_cur h, g_outl h, g_laid h, g_past h, g_play h, g_rows h, g_tk h, hT, lst, Option.map_some, Option.map_none, Option.some.injEq, exists_eq_left', forall_eq', reduceCtorEq, false_implies, true_implies, forall_const, true_and, and_true]
          refine c_grundyOf (d := d + 11) hS hO hb htk2 fun C' a1 a2 => ?_
          exact s_X11_accept (d := d + 28) (h.ou hT a1 a2) fun C'' h1 => hK _ ⟨Q, X, h1⟩
        · rw [if_neg (by rw [e]; decide)] at hK
          exact s_X11_refuse (d := d + 28) (t := 5) h (by decide) hK
theorem p_X11_half (hZ : VZ Z) (hC : CI Z N Mo P τ C) {v : Int32} {K : Int32 → Hp → Prop} (hK : ∀ C', CI (zt Z (q_half Z v).1) N Mo P τ C' → K (q_half Z v).2 (ch 75 P C' τ)) : C_X11_half l G (d + 30) (P 0) v (ch 75 P C τ) K := by
  obtain ⟨Q, X, h⟩ := hC
  refine m_X11_half (rv_0 h) ?_
  simp only [F_X11_half_54, F_X11_half_19, F_X11_half, g_cur h]
  simp only [q_half, onT] at hK
  cases hT : zT Z with
  | none =>
    simp only [hT] at hK
    simp only [g_cur h, g_outl h, g_laid h, g_past h, g_play h, g_rows h, g_tk h, hT, lst, Option.map_some, Option.map_none, Option.some.injEq, exists_eq_left', forall_eq', reduceCtorEq, false_implies, true_implies, forall_const, true_and, and_true]
    exact s_X11_refuse (d := d + 28) (t := 1) h (by decide) hK
  | some T =>
    simp only [hT] at hK
    obtain ⟨hW, hV, hG, htk, hwho, hsd⟩ := hZ.so hT
    obtain ⟨hS, hO, hr⟩ := h.so hT hW
    have hX := hS.hX C
    have htk2 := tkn_lt2 hW (zW Z).1
    have h31 : T.2.1.length < 2 ^ 31 := Nat.lt_of_le_of_lt hW.1.1 (by decide)
    have h32 : T.2.2.1.length < 2 ^ 31 := Nat.lt_of_le_of_lt hW.2.1.1 (by decide)
    simp only [ztk] at htk
    simp only [zwh] at hwho
    simp only [g_cur h, g_outl h, g_laid h, g_past h, g_play h, g_rows h, g_tk h, hT, lst, Option.map_some, Option.map_none, Option.some.injEq, exists_eq_left', forall_eq', reduceCtorEq, false_implies, true_implies, forall_const, true_and, and_true]
    refine s_X8_boardAt (d := d + 24) hX hW ?_
    cases hi : ix v T.2.1.length with
    | none =>
      simp only [hi] at hK
      simp only [g_cur h, g_outl h, g_laid h, g_past h, g_play h, g_rows h, g_tk h, hT, lst, Option.map_some, Option.map_none, Option.some.injEq, exists_eq_left', forall_eq', reduceCtorEq, false_implies, true_implies, forall_const, true_and, and_true]
      exact s_X11_refuse (d := d + 28) (t := 1) h (by decide) hK
    | some k =>
      obtain ⟨rfl, hlt⟩ := ix_some h31 hi
      obtain ⟨b, hb⟩ : ∃ b, T.2.1[k]? = some b := ⟨_, List.getElem?_eq_getElem hlt⟩
      simp only [hi, hb] at hK
      simp only [g_cur h, g_outl h, g_laid h, g_past h, g_play h, g_rows h, g_tk h, hT, lst, Option.map_some, Option.map_none, Option.some.injEq, exists_eq_left', forall_eq', reduceCtorEq, false_implies, true_implies, forall_const, true_and, and_true]
      refine s_X8_isSameTurned (d := d + 26) hX hW hb htk (tkn_j _) ?_
      refine ⟨fun e => s_X11_accept (d := d + 28) h fun C'' h1 => ?_, fun e => s_X11_accept (d := d + 28) h fun C'' h1 => ?_⟩
      · have := hK C'' ⟨Q, X, h1⟩
        simp only [ztk, zwh, e] at this
        exact this
      · have := hK C'' ⟨Q, X, h1⟩
        simp only [ztk, zwh, e] at this
        exact this
theorem p_X11_open (hZ : VZ Z) (hC : CI Z N Mo P τ C) {v : Int32} {K : Int32 → Hp → Prop} (hK : ∀ C', CI (zt Z (q_open Z v).1) N Mo P τ C' → K (q_open Z v).2 (ch 75 P C' τ)) : C_X11_open l G (d + 30) (P 0) v (ch 75 P C τ) K := by
  obtain ⟨Q, X, h⟩ := hC
  refine m_X11_open (rv_0 h) ?_
  simp only [F_X11_open_22, F_X11_open, g_cur h]
  simp only [q_open, onT] at hK
  cases hT : zT Z with
  | none =>
    simp only [hT] at hK
    simp only [g_cur h, g_outl h, g_laid h, g_past h, g_play h, g_rows h, g_tk h, hT, lst, Option.map_some, Option.map_none, Option.some.injEq, exists_eq_left', forall_eq', reduceCtorEq, false_implies, true_implies, forall_const, true_and, and_true]
    exact s_X11_refuse (d := d + 28) (t := 1) h (by decide) hK
  | some T =>
    simp only [hT] at hK
    obtain ⟨hW, hV, hG, htk, hwho, hsd⟩ := hZ.so hT
    obtain ⟨hS, hO, hr⟩ := h.so hT hW
    have hX := hS.hX C
    have htk2 := tkn_lt2 hW (zW Z).1
    have h31 : T.2.1.length < 2 ^ 31 := Nat.lt_of_le_of_lt hW.1.1 (by decide)
    have h32 : T.2.2.1.length < 2 ^ 31 := Nat.lt_of_le_of_lt hW.2.1.1 (by decide)
    simp only [ztk] at htk
    simp only [zwh] at hwho
    simp only [g_cur h, g_outl h, g_laid h, g_past h, g_play h, g_rows h, g_tk h, hT, lst, Option.map_some, Option.map_none, Option.some.injEq, exists_eq_left', forall_eq', reduceCtorEq, false_implies, true_implies, forall_const, true_and, and_true]
    simp only [fI_at hX.1.2, rZ8_0, rP8_0, rZ8_1, rP8_1, rZ8_2, rP8_2, rR8_3, rN8_3, rP8_3, rR8_4, rN8_4, rP8_4, rI8_5, rP8_5, rI8_6, rP8_6, rZ8_7, rP8_7, rR8_8, rN8_8, rP8_8]
    have h14 := hW.1.2.1
    cases hi : ix v (nsq T.2.1) with
    | none =>
      simp only [hi] at hK
      have hn := ix_none hi
      exact ⟨fun _ => s_X11_refuse (d := d + 28) (t := 1) h (by decide) hK, fun h1 => ⟨fun h2 => absurd ⟨h1, h2⟩ hn, fun _ => s_X11_refuse (d := d + 28) (t := 1) h (by decide) hK⟩⟩
    | some q =>
      obtain ⟨rfl, hlt⟩ := ix_some (show nsq T.2.1 < 2 ^ 31 by omega) hi
      simp only [hi] at hK
      refine ⟨fun h1 => absurd h1 (nt_neg (by omega)), fun _ => ⟨fun _ => ?_, fun h2 => absurd ((nt_lt (by omega) (by omega)).mpr hlt) h2⟩⟩
      exact s_X8_countOpen (d := d + 27) hX hW (by omega) (by omega) (s_X11_accept (d := d + 28) h fun C'' h1 => hK _ ⟨Q, X, h1⟩)
theorem p_X11_layOf (hZ : VZ Z) (hC : CI Z N Mo P τ C) {p k x y t : Int32} {K : Int32 → Hp → Prop} (hK : ∀ C', CI (zt Z (q_layOf Z p k x y t).1) N Mo P τ C' → K (q_layOf Z p k x y t).2 (ch 75 P C' τ)) : C_X11_layOf l G (d + 30) (P 0) p k x y t (ch 75 P C τ) K := by
  obtain ⟨Q, X, h⟩ := hC
  refine m_X11_layOf (rv_0 h) ?_
  simp only [F_X11_layOf_29, F_X11_layOf_46, F_X11_layOf, g_cur h]
  simp only [q_layOf, onT] at hK
  cases hT : zT Z with
  | none =>
    simp only [hT] at hK
    simp only [g_cur h, g_outl h, g_laid h, g_past h, g_play h, g_rows h, g_tk h, hT, lst, Option.map_some, Option.map_none, Option.some.injEq, exists_eq_left', forall_eq', reduceCtorEq, false_implies, true_implies, forall_const, true_and, and_true]
    exact s_X11_refuse (d := d + 28) (t := 1) h (by decide) hK
  | some T =>
    simp only [hT] at hK
    obtain ⟨hW, hV, hG, htk, hwho, hsd⟩ := hZ.so hT
    obtain ⟨hS, hO, hr⟩ := h.so hT hW
    have hX := hS.hX C
    have htk2 := tkn_lt2 hW (zW Z).1
    have h31 : T.2.1.length < 2 ^ 31 := Nat.lt_of_le_of_lt hW.1.1 (by decide)
    have h32 : T.2.2.1.length < 2 ^ 31 := Nat.lt_of_le_of_lt hW.2.1.1 (by decide)
    simp only [ztk] at htk
    simp only [zwh] at hwho
    simp only [g_cur h, g_outl h, g_laid h, g_past h, g_play h, g_rows h, g_tk h, hT, lst, Option.map_some, Option.map_none, Option.some.injEq, exists_eq_left', forall_eq', reduceCtorEq, false_implies, true_implies, forall_const, true_and, and_true]
    refine s_X8_pieceAt (d := d + 24) hX hW ?_
    cases hp : ix p T.2.2.1.length with
    | none =>
      simp only [hp, Option.isNone_none, Bool.or_true, if_true] at hK
      simp only [g_cur h, g_outl h, g_laid h, g_past h, g_play h, g_rows h, g_tk h, hT, lst, Option.map_some, Option.map_none, Option.some.injEq, exists_eq_left', forall_eq', reduceCtorEq, false_implies, true_implies, forall_const, true_and, and_true]
      exact s_X11_refuse (d := d + 28) (t := 1) h (by decide) hK
    | some j =>
      simp only [g_cur h, g_outl h, g_laid h, g_past h, g_play h, g_rows h, g_tk h, hT, lst, Option.map_some, Option.map_none, Option.some.injEq, exists_eq_left', forall_eq', reduceCtorEq, false_implies, true_implies, forall_const, true_and, and_true]
      refine s_X8_boardAt (d := d + 24) hX hW ?_
      cases hk : ix k T.2.1.length with
      | none =>
        simp only [hk, Option.isNone_none, Bool.true_or, if_true] at hK
        simp only [g_cur h, g_outl h, g_laid h, g_past h, g_play h, g_rows h, g_tk h, hT, lst, Option.map_some, Option.map_none, Option.some.injEq, exists_eq_left', forall_eq', reduceCtorEq, false_implies, true_implies, forall_const, true_and, and_true]
        exact s_X11_refuse (d := d + 28) (t := 1) h (by decide) hK
      | some i =>
        simp only [hk, hp, Option.isNone_some, Bool.or_self, Bool.false_eq_true, if_false] at hK
        simp only [g_cur h, g_outl h, g_laid h, g_past h, g_play h, g_rows h, g_tk h, hT, lst, Option.map_some, Option.map_none, Option.some.injEq, exists_eq_left', forall_eq', reduceCtorEq, false_implies, true_implies, forall_const, true_and, and_true]
        by_cases ht : t < 0 ∨ 3 < t
        · rw [if_pos ht] at hK
          exact ⟨fun _ => s_X11_refuse (d := d + 28) (t := 2) h (by decide) hK, fun h1 => ⟨fun h2 => absurd ht fun h3 => h3.elim h1 fun h4 => Int32.not_le.mpr h4 h2, fun _ => s_X11_refuse (d := d + 28) (t := 2) h (by decide) hK⟩⟩
        · rw [if_neg ht] at hK
          refine ⟨fun h1 => absurd (Or.inl h1) ht, fun _ => ⟨fun _ => ?_, fun h2 => absurd (Or.inr (Int32.not_le.mp h2)) ht⟩⟩
          exact s_X8_layAtPlace (d := d + 27) hX hW (s_X11_numberOf (d := d + 28) hX (fun n hn => (mAt_spec _ _ _ _ hn).imp fun e he => he.1) (s_X11_accept (d := d + 28) h fun C'' h1 => hK _ ⟨Q, X, h1⟩))
theorem p_X11_size (hZ : VZ Z) (hC : CI Z N Mo P τ C) {n k : Int32} {K : Int32 → Hp → Prop} (hK : ∀ C', CI (zt Z (q_size n k).1) N Mo P τ C' → K (q_size n k).2 (ch 75 P C' τ)) : C_X11_size l G (d + 30) (P 0) n k (ch 75 P C τ) K := by
  obtain ⟨Q, X, h⟩ := hC
  refine m_X11_size (rv_0 h) ?_
  simp only [F_X11_size_14, F_X11_size]
  simp only [q_size] at hK
  refine s_X7_isLength (d := d + 28) ?_
  cases hn : inR n 0 200 with
  | false =>
    simp only [hn, Bool.false_and, Bool.false_eq_true, if_false] at hK
    simp only [reduceCtorEq, false_implies, true_implies, forall_const, true_and, and_true, eq_self]
    exact s_X11_refuse (d := d + 28) (t := 2) h (by decide) hK
  | true =>
    simp only [reduceCtorEq, false_implies, true_implies, forall_const, true_and, and_true, eq_self]
    refine s_X7_isWidth (d := d + 28) ?_
    cases hk : inR k 1 9 with
    | false =>
      simp only [hn, hk, Bool.and_false, Bool.false_eq_true, if_false] at hK
      simp only [reduceCtorEq, false_implies, true_implies, forall_const, true_and, and_true, eq_self]
      exact s_X11_refuse (d := d + 28) (t := 2) h (by decide) hK
    | true =>
      simp only [hn, hk, Bool.and_self, if_true] at hK
      obtain ⟨n', rfl, n1, n2⟩ := inR_some (by decide) (by decide) hn
      obtain ⟨k', rfl, k1, k2⟩ := inR_some (by decide) (by decide) hk
      rw [nI_clamp (show n' < 2 ^ 31 by omega), nI_clamp (show k' < 2 ^ 31 by omega)] at hK
      simp only [reduceCtorEq, false_implies, true_implies, forall_const, true_and, and_true, eq_self, g_rows h]
      refine s_X7_sizeOf (d := d + 25) h.1 h.2.2.2.1.2.2.2.2.2 k1 k2 n2 fun C' a1 a2 => ?_
      exact s_X11_accept (d := d + 28) (h.rw a1 a2) fun C'' h1 => hK _ ⟨Q, X, h1⟩
theorem p_X11_rows (hZ : VZ Z) (hC : CI Z N Mo P τ C) {n n2 n3 k : Int32} {K : Int32 → Hp → Prop} (hK : ∀ C', CI (zt Z (q_rows n n2 n3 k).1) N Mo P τ C' → K (q_rows n n2 n3 k).2 (ch 75 P C' τ)) : C_X11_rows l G (d + 30) (P 0) n n2 n3 k (ch 75 P C τ) K := by
  obtain ⟨Q, X, h⟩ := hC
  refine m_X11_rows (rv_0 h) ?_
  simp only [F_X11_rows_29, F_X11_rows_80, F_X11_rows]
  simp only [q_rows] at hK
  refine s_X7_isLength (d := d + 28) ?_
  cases hn : inR n 0 200 with
  | false =>
    simp only [hn, Bool.false_and, Bool.false_eq_true, if_false] at hK
    simp only [reduceCtorEq, false_implies, true_implies, forall_const, true_and, and_true, eq_self]
    exact s_X11_refuse (d := d + 28) (t := 2) h (by decide) hK
  | true =>
    simp only [reduceCtorEq, false_implies, true_implies, forall_const, true_and, and_true, eq_self]
    refine s_X7_isLength (d := d + 28) ?_
    cases hn2 : inR n2 0 200 with
    | false =>
      simp only [hn2, Bool.false_and, Bool.and_false, Bool.false_eq_true, if_false] at hK
      simp only [reduceCtorEq, false_implies, true_implies, forall_const, true_and, and_true, eq_self]
      exact s_X11_refuse (d := d + 28) (t := 2) h (by decide) hK
    | true =>
      simp only [reduceCtorEq, false_implies, true_implies, forall_const, true_and, and_true, eq_self]
      refine s_X7_isLength (d := d + 28) ?_
      cases hn3 : inR n3 0 200 with
      | false =>
        simp only [hn3, Bool.false_and, Bool.and_false, Bool.false_eq_true, if_false] at hK
        simp only [reduceCtorEq, false_implies, true_implies, forall_const, true_and, and_true, eq_self]
        exact s_X11_refuse (d := d + 28) (t := 2) h (by decide) hK
      | true =>
        simp only [reduceCtorEq, false_implies, true_implies, forall_const, true_and, and_true, eq_self]
        refine s_X7_isWidth (d := d + 28) ?_
        cases hk : inR k 1 9 with
        | false =>
          simp only [hk, Bool.and_false, Bool.false_eq_true, if_false] at hK
          simp only [reduceCtorEq, false_implies, true_implies, forall_const, true_and, and_true, eq_self]
          exact s_X11_refuse (d := d + 28) (t := 2) h (by decide) hK
        | true =>
          simp only [hn, hn2, hn3, hk, Bool.and_self, if_true] at hK
          obtain ⟨n', rfl, n1, m1⟩ := inR_some (by decide) (by decide) hn
          obtain ⟨n2', rfl, n2, m2⟩ := inR_some (by decide) (by decide) hn2
          obtain ⟨n3', rfl, n3, m3⟩ := inR_some (by decide) (by decide) hn3
          obtain ⟨k', rfl, k1, k2⟩ := inR_some (by decide) (by decide) hk
          rw [nI_clamp (show n' < 2 ^ 31 by omega), nI_clamp (show k' < 2 ^ 31 by omega), nI_clamp (show n2' < 2 ^ 31 by omega), nI_clamp (show n3' < 2 ^ 31 by omega)] at hK
          simp only [reduceCtorEq, false_implies, true_implies, forall_const, true_and, and_true, eq_self, g_rows h]
          refine s_X7_sizeOf (d := d + 25) h.1 h.2.2.2.1.2.2.2.2.2 k1 k2 m1 fun C' a1 a2 => ?_
          have h := h.rw a1 a2
          simp only [g_rows h]
          refine s_X7_sizeOf (d := d + 25) h.1 h.2.2.2.1.2.2.2.2.2 k1 k2 m2 fun C' a1 a2 => ?_
          have h := h.rw a1 a2
          simp only [g_rows h]
          refine s_X7_sizeOf (d := d + 25) h.1 h.2.2.2.1.2.2.2.2.2 k1 k2 m3 fun C' a1 a2 => ?_
          have h := h.rw a1 a2
          have hx : sz k' n' ^^^ sz k' n2' ^^^ sz k' n3' < 32 := xor_lt32 (xor_lt32 (sz_lt _ _) (sz_lt _ _)) (sz_lt _ _)
          rw [nt_xor, nt_xor, nt_0 (Nat.lt_trans hx (by decide))]
          refine ⟨fun e => s_X11_accept (d := d + 28) h fun C'' h1 => ?_, fun e => s_X11_accept (d := d + 28) h fun C'' h1 => ?_⟩
          · have := hK C'' ⟨Q, X, h1⟩
            rw [decide_eq_false (fun hc => hc e)] at this
            exact this
          · have := hK C'' ⟨Q, X, h1⟩
            rw [decide_eq_true (show sz k' n' ^^^ sz k' n2' ^^^ sz k' n3' ≠ 0 from e)] at this
            exact this
theorem p_X11_rowLay (hZ : VZ Z) (hC : CI Z N Mo P τ C) {n k v : Int32} {K : Int32 → Hp → Prop} (hK : ∀ C', CI (zt Z (q_rowLay n k v).1) N Mo P τ C' → K (q_rowLay n k v).2 (ch 75 P C' τ)) : C_X11_rowLay l G (d + 30) (P 0) n k v (ch 75 P C τ) K := by
  obtain ⟨Q, X, h⟩ := hC
  refine m_X11_rowLay (rv_0 h) ?_
  simp only [F_X11_rowLay_24, F_X11_rowLay]
  simp only [q_rowLay] at hK
  refine s_X7_isLength (d := d + 28) ?_
  cases hn : inR n 0 200 with
  | false =>
    simp only [hn, Bool.false_and, Bool.false_eq_true, if_false] at hK
    simp only [reduceCtorEq, false_implies, true_implies, forall_const, true_and, and_true, eq_self]
    exact s_X11_refuse (d := d + 28) (t := 2) h (by decide) hK
  | true =>
    simp only [reduceCtorEq, false_implies, true_implies, forall_const, true_and, and_true, eq_self]
    refine s_X7_isWidth (d := d + 28) ?_
    cases hk : inR k 1 9 with
    | false =>
      simp only [hk, Bool.false_and, Bool.and_false, Bool.false_eq_true, if_false] at hK
      simp only [reduceCtorEq, false_implies, true_implies, forall_const, true_and, and_true, eq_self]
      exact s_X11_refuse (d := d + 28) (t := 2) h (by decide) hK
    | true =>
      simp only [reduceCtorEq, false_implies, true_implies, forall_const, true_and, and_true, eq_self]
      cases hv : inR v 0 99 with
      | false =>
        simp only [hv, Bool.and_false, Bool.false_eq_true, if_false] at hK
        have hv' : ¬ (¬ v < 0 ∧ ¬ 99 < v) := fun hc => by rw [inR, decide_eq_true (show ¬ v < nI 0 ∧ ¬ nI 99 < v from hc)] at hv; cases hv
        exact ⟨fun _ => s_X11_refuse (d := d + 28) (t := 2) h (by decide) hK, fun h1 => ⟨fun h2 => absurd ⟨h1, fun h3 => Int32.not_le.mpr h3 h2⟩ hv', fun _ => s_X11_refuse (d := d + 28) (t := 2) h (by decide) hK⟩⟩
      | true =>
        simp only [hn, hk, hv, Bool.and_self, if_true] at hK
        obtain ⟨n', rfl, n1, n2⟩ := inR_some (by decide) (by decide) hn
        obtain ⟨k', rfl, k1, k2⟩ := inR_some (by decide) (by decide) hk
        obtain ⟨v', rfl, v1, v2⟩ := inR_some (by decide) (by decide) hv
        rw [nI_clamp (show n' < 2 ^ 31 by omega), nI_clamp (show k' < 2 ^ 31 by omega), nI_clamp (show v' < 2 ^ 31 by omega)] at hK
        refine ⟨fun h1 => absurd h1 (nt_neg (by omega)), fun _ => ⟨fun _ => ?_, fun h2 => absurd ((nt_le (a := v') (b := 99) (by omega) (by decide)).mpr v2) h2⟩⟩
        simp only [g_rows h]
        refine s_X7_firstMaking (d := d + 25) h.1 h.2.2.2.1.2.2.2.2.2 k1 k2 n2 v2 fun C' a1 a2 => ?_
        exact s_X11_accept (d := d + 28) (h.rw a1 a2) fun C'' h1 => hK _ ⟨Q, X, h1⟩
theorem p_X11_round (hZ : VZ Z) (hC : CI Z N Mo P τ C) {k : Int32} {st : Bool} {K : Int32 → Hp → Prop} (hK : ∀ C', CI (zt Z (q_round k st).1) N Mo P τ C' → K (q_round k st).2 (ch 75 P C' τ)) : C_X11_round l G (d + 30) (P 0) k st (ch 75 P C τ) K := by
  obtain ⟨Q, X, h⟩ := hC
  refine m_X11_round (rv_0 h) ?_
  simp only [F_X11_round_52, F_X11_round]
  simp only [q_round] at hK
  refine s_X7_isWidth (d := d + 28) ?_
  cases hk : inR k 1 9 with
  | false =>
    simp only [hk, Bool.false_eq_true, if_false] at hK
    simp only [reduceCtorEq, false_implies, true_implies, forall_const, true_and, and_true, eq_self]
    exact s_X11_refuse (d := d + 28) (t := 2) h (by decide) hK
  | true =>
    simp only [hk, if_true] at hK
    obtain ⟨k', rfl, k1, k2⟩ := inR_some (by decide) (by decide) hk
    rw [nI_clamp (show k' < 2 ^ 31 by omega)] at hK
    simp only [reduceCtorEq, false_implies, true_implies, forall_const, true_and, and_true, eq_self, g_rows h]
    refine s_X7_periodOf (d := d + 24) h.1 h.2.2.2.1.2.2.2.2.2 k1 k2 fun C' a1 a2 => ?_
    have h := h.rw a1 a2
    cases hp : perP k' with
    | none =>
      simp only [hp, Option.map_none] at hK
      exact ⟨fun hc => absurd rfl hc, fun _ => s_X11_accept (d := d + 28) h fun C'' h1 => hK _ ⟨Q, X, h1⟩⟩
    | some p =>
      obtain ⟨p1, p2, p3⟩ := fst1_some _ _ _ hp
      simp only [hp, Option.map_some] at hK
      refine ⟨fun _ => ⟨fun e => ?_, fun e => ?_⟩, fun hc => absurd hc (nI_nm1 (by omega))⟩
      · simp only [e, Bool.false_eq_true, if_false] at hK
        exact s_X11_accept (d := d + 28) h fun C'' h1 => hK _ ⟨Q, X, h1⟩
      · simp only [e, if_true] at hK
        simp only [g_rows h]
        refine s_X7_startOf (d := d + 25) h.1 h.2.2.2.1.2.2.2.2.2 k1 k2 (by omega) (by omega) fun C' a1 a2 => ?_
        have h := h.rw a1 a2
        exact s_X11_accept (d := d + 28) h fun C'' h1 => hK _ ⟨Q, X, h1⟩
end PUBD
