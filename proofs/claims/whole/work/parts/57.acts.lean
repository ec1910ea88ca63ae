/-! matches, acts, the rest of what is told, in the model -/
theorem GD.lt {L : List LY} {ls : List Nat} (h : GD L ls) : ∀ (k v : Nat), ls[k]? = some v → v < L.length := fun k v hv => by
  obtain ⟨e, he, -⟩ := h k v hv
  exact (List.getElem?_eq_some_iff.mp he).1
theorem last_lt {r : RO} {N : Nat} (h : ∀ (k v : Nat), r.1[k]? = some v → v < N) : ∀ n, lastO r = some n → n < N := fun n hn => by
  rw [lastO, List.getLast?_eq_getElem?] at hn
  exact h _ n hn
theorem VZ.tr {Z : ST} (h : VZ Z) {t : Nat} (ht : t < 7) : VZ (zt Z t) := ⟨h.1, h.2.1, h.2.2.1, h.2.2.2.1, ht, h.2.2.2.2.2⟩
theorem VZ.zt0 {Z : ST} (h : VZ Z) : VZ (zt Z 0) := h.tr (by decide)
theorem up_put {α : Type} (f g : Nat → α) (a n : Nat) : up_ (fb_put f g a n) (a + n) (g n) = fb_put f g a (n + 1) := by
  funext k
  unfold up_ fb_put
  by_cases h : k = a + n
  · subst h
    rw [if_pos rfl, if_pos (by omega), Nat.add_sub_cancel_left]
  · rw [if_neg h]
    by_cases h2 : a ≤ k ∧ k < a + n
    · rw [if_pos h2, if_pos (by omega)]
    · rw [if_neg h2, if_neg (by omega)]
theorem RW.put {r : RO} {f g : Nat → Int32} {a b : Nat} (h14 : r.1.length ≤ 14) (h : RW r g a) : RW r (fb_put f (fun j => g (a + j)) b 16) b := by
  obtain ⟨h1, h2, h3⟩ := h
  refine ⟨?_, fun k v hv => ?_, ?_⟩
  · rw [fb_put_in (by omega) (by omega), Nat.sub_self]; exact h1
  · have := (List.getElem?_eq_some_iff.mp hv).1
    rw [fb_put_in (by omega) (by omega), show b + 1 + k - b = 1 + k by omega, ← Nat.add_assoc]; exact h2 k v hv
  · rw [fb_put_in (by omega) (by omega), show b + 15 - b = 15 by omega]; exact h3
theorem RW.keep {r : RO} {f f' : Nat → Int32} {b : Nat} (h14 : r.1.length ≤ 14) (h : RW r f b) (h2 : ∀ j, b ≤ j → j < b + 16 → f' j = f j) : RW r f' b := by
  obtain ⟨a1, a2, a3⟩ := h
  refine ⟨(h2 _ (by omega) (by omega)).trans a1, fun k v hv => ?_, (h2 _ (by omega) (by omega)).trans a3⟩
  have := (List.getElem?_eq_some_iff.mp hv).1
  exact (h2 _ (by omega) (by omega)).trans (a2 k v hv)
theorem VZ.r14 {Z : ST} (hZ : VZ Z) : (zW Z).1.length ≤ 14 ∧ (∀ u ∈ zU Z, u.1.length ≤ 14) ∧ ∀ u ∈ zI Z, u.1.length ≤ 14 := by
  have h := hZ.2.2.2.2.2.2.2
  cases hT : zT Z with
  | none =>
    rw [hT] at h
    obtain ⟨h1, h2, h3⟩ := h
    rw [h1, h2, h3]
    simp
  | some T =>
    rw [hT] at h
    have hV := allL_VL h.1.1
    exact ⟨h.2.1.1.le14 hV, fun u hu => (h.2.2.1 u hu).1.le14 hV, fun u hu => (h.2.2.2 u hu).1.le14 hV⟩
theorem bt_nI {n i : Nat} (hi : i < 32) : bt (nI n) i = n.testBit i := by
  show (BitVec.ofNat 32 n).getLsbD i = _
  rw [BitVec.getLsbD_ofNat]
  simp [hi]
theorem bt_tb (x : Int32) (i : Nat) : bt x i = x.toBitVec.toNat.testBit i := rfl
/-- a byte of a word -/
theorem byt_s {x : Int32} {s : Nat} (hs : s ≤ 24) : (x >>> (nI s &&& 31)) &&& 255 = nI (x.toBitVec.toNat / 2 ^ s % 256) := by
  apply b_ext
  intro i hi
  rw [b_and, b_255, b_sshr s (by omega) x hi, bt_nI hi, show (256 : Nat) = 2 ^ 8 from rfl, Nat.testBit_mod_two_pow, Nat.testBit_div_two_pow, bt_tb, Nat.add_comm i s]
  by_cases h8 : i < 8
  · rw [if_pos (by omega)]
    simp [h8]
  · simp [h8]
section ACT
variable {l : Launch} {G : GG} {d m : Nat} {A : Nat → Nat} {S : MS} {ρ : Hp} {Z : ST} {T : TB}
theorem z_beats (hA : okA m A) (hZ : VZ Z) (hT : zT Z = some T) {p : Nat} (hp : p ≤ 4) {R : Nat} {K : Int32 → Hp → Prop} (hK : ∀ S', MI Z S' → K (nI R) (mh m A S' ρ)) : ∀ r q a S', q + r = 5 → MI Z S' → btB Z T p r q a = R → Z_X12_beats_22 l G (d + 39) K (r + 1) m (nI p) (nI a) (nI q) (mh m A S' ρ) := by
  intro r
  induction r with
  | zero =>
    intro q a S' hq hM h
    simp only [btB] at h
    subst h
    simp only [Z_X12_beats_22, F_X12_beats_22]
    rw [show (5 : Int32) = nI 5 from rfl, nt_le (by omega) (by omega)]
    exact ⟨fun _ => hK S' hM, fun hc => absurd (by omega) hc⟩
  | succ r ih =>
    intro q a S' hq hM h
    simp only [btB] at h
    rw [show r + 1 + 1 = (r + 1) + 1 from rfl, Z_X12_beats_22]
    simp only [F_X12_beats_22, F_X12_beats_44, show nI q + 1 = nI (q + 1) from nt_add q 1]
    rw [show (5 : Int32) = nI 5 from rfl, nt_le (by omega) (by omega)]
    refine ⟨fun hc => by omega, fun _ => s_X12_winner (d := d + 4) hA hZ hM hT hp (by omega) fun S'' g1 _ => ?_⟩
    have hw : winN T (mtZ Z T p q) < 2 ^ 31 := by unfold winN; split <;> omega
    rw [nt_0 hw]
    refine ⟨fun h5 => ?_, fun h5 => ?_⟩
    · rw [if_neg h5] at h
      rw [show (0 : Int32) = nI 0 from rfl, nt_or, Nat.or_zero]
      exact ih (q + 1) a S'' (by omega) g1 h
    · rw [if_pos h5] at h
      rw [nt_one (by omega), nt_or]
      exact ih (q + 1) _ S'' (by omega) g1 h
theorem p_X12_would (hA : okA m A) (hZ : VZ Z) (hM : MI Z S) {p : Int32} {K : Int32 → Hp → Prop} (hK : ∀ S', MI (zt Z (q_would Z p).1) S' → K (q_would Z p).2 (mh m A S' ρ)) : C_X12_would l G (d + 40) m p (mh m A S ρ) K := by
  refine m_X12_would rv_m ?_
  simp only [F_X12_would]
  refine s_X12_clear ?_
  have h0 := hM.cl
  simp only [q_would, onP, onT] at hK
  cases hT : zT Z with
  | none =>
    simp only [hT] at hK
    refine s_X12_isPlayer_no (h0.no hT) ?_
    simp only [reduceCtorEq, false_implies, true_implies, forall_const, true_and, and_true, eq_self]
    exact s_X12_no (hK _ (h0.tr 1 (by decide)))
  | some T =>
    simp only [hT] at hK
    obtain ⟨g14, gS, gW⟩ := h0.so hT
    obtain ⟨hW, hV, hG, htk, hwho, hs⟩ := hZ.so hT
    have h14 := hG.le14 hV
    have hvl := GD.lt hG
    have h224 := gS.2.1.1
    refine s_X12_isPlayer g14 ?_
    cases hp : inR p 0 4 with
    | false =>
      simp only [hp, Bool.false_eq_true, if_false] at hK
      simp only [reduceCtorEq, false_implies, true_implies, forall_const, true_and, and_true, eq_self]
      exact s_X12_no (hK _ (h0.tr 1 (by decide)))
    | true =>
      obtain ⟨p', rfl, p1, p2⟩ := inR_some (by decide) (by decide) hp
      simp only [hp, if_true, nI_clamp (show p' < 2 ^ 31 by omega)] at hK
      simp only [reduceCtorEq, false_implies, true_implies, forall_const, true_and, and_true, eq_self]
      have g15 := gW.2.2
      rw [Nat.zero_add] at g15
      simp only [mfI_0, mpI_0, mfN_1, mfI_2, mpI_2, mfI_3, mpI_3, mfI_4, mpI_4, mfI_5, mpI_5, mfI_6, mpI_6, mfI_7, mpI_7, mfI_8, mpI_8, mfI_9, mpI_9, mfI_10, mpI_10, mfI_11, mpI_11, mfN_12, mfZ_13, mpZ_13, mfZ_14, mpZ_14, mfN_15, mfN_16, mfN_17, mfN_18, mfN_19, mfN_20, mfI_21, mpI_21, mfI_22, mpI_22, mfN_23, mfN_24, mfN_25, mfN_26, mfN_27, mfN_28, mfN_29, mfI_30, mpI_30, mfN_31, mfN_32, mfN_33, mfN_34, mfN_35, mfN_36, mfN_37, mfI_38, mpI_38, mfN_39, mfI_40, mpI_40, mfI_41, mpI_41, mgI_1 hA, msI_1 hA, mgI_12 hA, msI_12 hA, mgI_15 hA, msI_15 hA, mgI_16 hA, msI_16 hA, mgI_17 hA, msI_17 hA, mgI_18 hA, msI_18 hA, mgI_19 hA, msI_19 hA, mgI_20 hA, msI_20 hA, mgI_23 hA, msI_23 hA, mgI_24 hA, msI_24 hA, mgI_25 hA, msI_25 hA, mgI_26 hA, msI_26 hA, mgI_27 hA, msI_27 hA, mgI_28 hA, msI_28 hA, mgI_29 hA, msI_29 hA, mgI_31 hA, msI_31 hA, mgI_32 hA, msI_32 hA, mgI_33 hA, msI_33 hA, mgI_34 hA, msI_34 hA, mgI_35 hA, msI_35 hA, mgI_36 hA, msI_36 hA, mgI_39 hA, msI_39 hA, mgJ hA, msJ hA, show (15 : Int32).toNatClampNeg = 15 from rfl, g15]
      have gS' : GS T (allL T) (seti (seti (seti S 0 0) 11 0) 40 (nI (zW (zt Z 0)).2)) := gS.i (by decide)
      refine ⟨(vin 15 (by decide) (by decide)), s_X12_standNow hA gS'.2.1 hV gW hG ?_⟩
      refine s_X12_latest (S := seti (seti (seti S 0 0) 11 0) 40 (nI (zW (zt Z 0)).2)) hA gW h14 (fun k v hv => Nat.lt_of_lt_of_le (hvl k v hv) (by omega)) ?_
      refine s_X12_wouldLay (d := d + 9) hA gS' hW hV p2 htk hwho hs rfl (last_lt hvl) fun S' a b c => ?_
      have hx : MI (zt Z 0) (seti (seti (seti S 0 0) 11 0) 40 (nI (zW (zt Z 0)).2)) := h0.g hT ⟨fun j hj => if_neg fun e => hj (by rw [e]; decide), rfl, fun _ _ => rfl⟩ gS'
      exact hK S' (hx.g hT (a.mo (by decide)) b)
theorem p_X12_match (hA : okA m A) (hZ : VZ Z) (hM : MI Z S) {p q : Int32} {K : Int32 → Hp → Prop} (hK : ∀ S', MI (zt Z (q_match Z p q).1) S' → K (q_match Z p q).2 (mh m A S' ρ)) : C_X12_match l G (d + 40) m p q (mh m A S ρ) K := by
  refine m_X12_match rv_m ?_
  simp only [F_X12_match_34, F_X12_match_29, F_X12_match]
  refine s_X12_clear ?_
  have h0 := hM.cl
  simp only [q_match, onP, onT] at hK
  cases hT : zT Z with
  | none =>
    simp only [hT] at hK
    refine s_X12_isPlayer_no (h0.no hT) ?_
    simp only [reduceCtorEq, false_implies, true_implies, forall_const, true_and, and_true, eq_self]
    exact s_X12_no (hK _ (h0.tr 1 (by decide)))
  | some T =>
    simp only [hT] at hK
    obtain ⟨g14, gS, gW⟩ := h0.so hT
    obtain ⟨hW, hV, hG, htk, hwho, hs⟩ := hZ.so hT
    have h14 := hG.le14 hV
    have hvl := GD.lt hG
    have h224 := gS.2.1.1
    refine s_X12_isPlayer g14 ?_
    cases hp : inR p 0 4 with
    | false =>
      simp only [hp, Bool.false_eq_true, if_false] at hK
      simp only [reduceCtorEq, false_implies, true_implies, forall_const, true_and, and_true, eq_self]
      exact s_X12_no (hK _ (h0.tr 1 (by decide)))
    | true =>
      obtain ⟨p', rfl, p1, p2⟩ := inR_some (by decide) (by decide) hp
      simp only [hp, if_true, nI_clamp (show p' < 2 ^ 31 by omega)] at hK
      simp only [reduceCtorEq, false_implies, true_implies, forall_const, true_and, and_true, eq_self]
      refine s_X12_isPlayer g14 ?_
      cases hq : inR q 0 4 with
      | false =>
        simp only [hq, Bool.false_eq_true, if_false] at hK
        simp only [reduceCtorEq, false_implies, true_implies, forall_const, true_and, and_true, eq_self]
        exact s_X12_no (hK _ (h0.tr 1 (by decide)))
      | true =>
        obtain ⟨q', rfl, q1, q2⟩ := inR_some (by decide) (by decide) hq
        simp only [hq, if_true, nI_clamp (show q' < 2 ^ 31 by omega)] at hK
        simp only [reduceCtorEq, false_implies, true_implies, forall_const, true_and, and_true, eq_self]
        exact s_X12_winner (d := d + 4) (Z := zt Z 0) hA (hZ.zt0) h0 hT p2 q2 fun S' a _ => hK S' a
theorem p_X12_matchLong (hA : okA m A) (hZ : VZ Z) (hM : MI Z S) {p q : Int32} {K : Int32 → Hp → Prop} (hK : ∀ S', MI (zt Z (q_matchLong Z p q).1) S' → K (q_matchLong Z p q).2 (mh m A S' ρ)) : C_X12_matchLong l G (d + 40) m p q (mh m A S ρ) K := by
  refine m_X12_matchLong rv_m ?_
  simp only [F_X12_matchLong_20, F_X12_matchLong]
  refine s_X12_clear ?_
  have h0 := hM.cl
  simp only [q_matchLong, onP, onT] at hK
  cases hT : zT Z with
  | none =>
    simp only [hT] at hK
    refine s_X12_isPlayer_no (h0.no hT) ?_
    simp only [reduceCtorEq, false_implies, true_implies, forall_const, true_and, and_true, eq_self]
    exact s_X12_no (hK _ (h0.tr 1 (by decide)))
  | some T =>
    simp only [hT] at hK
    obtain ⟨g14, gS, gW⟩ := h0.so hT
    obtain ⟨hW, hV, hG, htk, hwho, hs⟩ := hZ.so hT
    have h14 := hG.le14 hV
    have hvl := GD.lt hG
    have h224 := gS.2.1.1
    refine s_X12_isPlayer g14 ?_
    cases hp : inR p 0 4 with
    | false =>
      simp only [hp, Bool.false_eq_true, if_false] at hK
      simp only [reduceCtorEq, false_implies, true_implies, forall_const, true_and, and_true, eq_self]
      exact s_X12_no (hK _ (h0.tr 1 (by decide)))
    | true =>
      obtain ⟨p', rfl, p1, p2⟩ := inR_some (by decide) (by decide) hp
      simp only [hp, if_true, nI_clamp (show p' < 2 ^ 31 by omega)] at hK
      simp only [reduceCtorEq, false_implies, true_implies, forall_const, true_and, and_true, eq_self]
      refine s_X12_isPlayer g14 ?_
      cases hq : inR q 0 4 with
      | false =>
        simp only [hq, Bool.false_eq_true, if_false] at hK
        simp only [reduceCtorEq, false_implies, true_implies, forall_const, true_and, and_true, eq_self]
        exact s_X12_no (hK _ (h0.tr 1 (by decide)))
      | true =>
        obtain ⟨q', rfl, q1, q2⟩ := inR_some (by decide) (by decide) hq
        simp only [hq, if_true, nI_clamp (show q' < 2 ^ 31 by omega)] at hK
        simp only [reduceCtorEq, false_implies, true_implies, forall_const, true_and, and_true, eq_self]
        refine s_X12_winner (d := d + 4) (Z := zt Z 0) hA (hZ.zt0) h0 hT p2 q2 fun S' a b => ?_
        simp only [mfI_41, b]
        exact hK S' a
theorem p_X12_beats (hA : okA m A) (hZ : VZ Z) (hM : MI Z S) {p : Int32} {K : Int32 → Hp → Prop} (hK : ∀ S', MI (zt Z (q_beats Z p).1) S' → K (q_beats Z p).2 (mh m A S' ρ)) : C_X12_beats l G (d + 40) m p (mh m A S ρ) K := by
  refine m_X12_beats rv_m ?_
  simp only [F_X12_beats_44, F_X12_beats_22, F_X12_beats]
  refine s_X12_clear ?_
  have h0 := hM.cl
  simp only [q_beats, onP, onT] at hK
  cases hT : zT Z with
  | none =>
    simp only [hT] at hK
    refine s_X12_isPlayer_no (h0.no hT) ?_
    simp only [reduceCtorEq, false_implies, true_implies, forall_const, true_and, and_true, eq_self]
    exact s_X12_no (hK _ (h0.tr 1 (by decide)))
  | some T =>
    simp only [hT] at hK
    obtain ⟨g14, gS, gW⟩ := h0.so hT
    obtain ⟨hW, hV, hG, htk, hwho, hs⟩ := hZ.so hT
    have h14 := hG.le14 hV
    have hvl := GD.lt hG
    have h224 := gS.2.1.1
    refine s_X12_isPlayer g14 ?_
    cases hp : inR p 0 4 with
    | false =>
      simp only [hp, Bool.false_eq_true, if_false] at hK
      simp only [reduceCtorEq, false_implies, true_implies, forall_const, true_and, and_true, eq_self]
      exact s_X12_no (hK _ (h0.tr 1 (by decide)))
    | true =>
      obtain ⟨p', rfl, p1, p2⟩ := inR_some (by decide) (by decide) hp
      simp only [hp, if_true, nI_clamp (show p' < 2 ^ 31 by omega)] at hK
      simp only [reduceCtorEq, false_implies, true_implies, forall_const, true_and, and_true, eq_self]
      exact ⟨_, z_beats (Z := zt Z 0) hA hZ.zt0 hT p2 hK 5 0 0 _ (by omega) h0 rfl⟩
theorem s_X12_copy (hA : okA m A) {kf kt a b n : Nat} (hkf : kf ∈ mks) (hkt : kt ∈ mks) (hf7 : kf ≠ 37) (ht7 : kt ≠ 37) (hne : kf ≠ kt) (ha : a + n ≤ mln kf) (hb : b + n ≤ mln kt) (hs : mln kf < 2 ^ 30 ∧ mln kt < 2 ^ 30) {K : Hp → Prop} (h : K (mh m A (seta S kt (fb_put (S.2.2.1 kt) (fun j => S.2.2.1 kf (a + j)) b n)) ρ)) : C_X12_copy l G (d + 1) (A kf) (nI a) (A kt) (nI b) (nI n) (mh m A S ρ) K := by
  refine m_X12_copy ?_
  simp only [F_X12_copy]
  have hz : ∀ r i, i + r = n → Z_X12_copy_3 l G d K (r + 1) (A kf) (nI a) (A kt) (nI b) (nI n) (nI i) (mh m A (seta S kt (fb_put (S.2.2.1 kt) (fun j => S.2.2.1 kf (a + j)) b i)) ρ) := by
    intro r
    induction r with
    | zero =>
      intro i hi
      obtain rfl : i = n := by omega
      simp only [Z_X12_copy_3, F_X12_copy_3]
      rw [nt_le (by omega) (by omega)]
      exact ⟨fun _ => h, fun hc => absurd (Nat.le_refl _) hc⟩
    | succ r ih =>
      intro i hi
      have hr := ih (i + 1) (by omega)
      rw [← up_put] at hr
      rw [show r + 1 + 1 = (r + 1) + 1 from rfl, Z_X12_copy_3]
      simp only [F_X12_copy_3, nt_add, show nI i + 1 = nI (i + 1) from nt_add i 1, mgI hA hkf hf7, msI hA hkt ht7, nI_clamp (show a + i < 2 ^ 31 by omega), nI_clamp (show b + i < 2 ^ 31 by omega), ms_a, if_neg hne, ↓reduceIte]
      rw [nt_le (by omega) (by omega)]
      refine ⟨fun hc => by omega, fun _ => ⟨(nt_in (by omega)).mpr (by omega), (nt_in (by omega)).mpr (by omega), ?_⟩⟩
      have e : ∀ f g, seta (seta S kt f) kt g = seta S kt g := fun f g => by
        have e2 : up_ (up_ S.2.2.1 kt f) kt g = up_ S.2.2.1 kt g := by
          funext j
          by_cases h : j = kt
          · simp [up_, h]
          · simp [up_, h]
        show (S.1, S.2.1, up_ (up_ S.2.2.1 kt f) kt g, S.2.2.2) = (S.1, S.2.1, up_ S.2.2.1 kt g, S.2.2.2)
        rw [e2]
      rw [e]
      exact hr
  have h0 := hz n 0 (by omega)
  rw [fb_put_0] at h0
  have e0 : seta S kt (S.2.2.1 kt) = S := by
    unfold seta
    have : up_ S.2.2.1 kt (S.2.2.1 kt) = S.2.2.1 := by
      funext j
      unfold up_
      split
      · rename_i h; rw [h]
      · rfl
    rw [this]
  rw [e0] at h0
  exact ⟨_, h0⟩
theorem MI.am {S' : MS} (h : MI Z S) (hS : Sm [21, 22] [] [17, 19, 20] S S') {w : RO} {u i : List RO} (h1 : S'.1 21 = nI u.length ∧ S'.1 22 = nI i.length) (h2 : ∀ k v, u[k]? = some v → RW v (S'.2.2.1 19) (16 * (u.length - 1 - k))) (h3 : ∀ k v, i[k]? = some v → RW v (S'.2.2.1 20) (16 * k)) (h4 : ∀ T, zT Z = some T → RW w (S'.2.2.1 17) 0) : MI (za Z w u i) S' := by
  obtain ⟨⟨a1, a2⟩, ⟨b1, b2, b3⟩, ⟨c1, c2⟩, e1, e2, f1, f2⟩ := h
  obtain ⟨g1, g2, g3, g4⟩ := hS
  exact ⟨⟨(g1 2 (by decide)).trans a1, fun j hj => by rw [g3 1 (by decide)]; exact a2 j hj⟩, ⟨(g1 9 (by decide)).trans b1, fun h4 => (g1 10 (by decide)).trans (b2 h4), (g1 11 (by decide)).trans b3⟩, h1, h2, h3, by rw [g2 14 (by simp)]; exact f1, fun T hT => ⟨(f2 T hT).1.cg (g1 30 (by decide)) (fun j a b c1 c2 c3 c4 c5 => g3 j (by simp; omega)) g4, h4 T hT⟩⟩
theorem s_X12_note (hA : okA m A) (hZ : VZ Z) (hM : MI Z S) (hT : zT Z = some T) {K : Hp → Prop} (hK : ∀ S', Sm [21] [] [19] S S' → MI (za Z (zW Z) (keepU Z) (zI Z)) S' → K (mh m A S' ρ)) : C_X12_note l G (d + 2) m (mh m A S ρ) K := by
  obtain ⟨g14, gS, gW⟩ := hM.so hT
  obtain ⟨r14, u14, -⟩ := hZ.r14
  have h16 := hZ.2.2.2.2.2.1
  have c1 := hM.2.2.1.1
  have hU := hM.2.2.2.1
  have hIm := hM.2.2.2.2.1
  have hRW : ∀ T', zT Z = some T' → RW (zW Z) (S.2.2.1 17) 0 := fun _ _ => gW
  have h49 : ∀ (S1 : MS) (us : List RO), us.length < 16 → Sm [21] [] [19] S S1 → S1.1 21 = nI us.length → keepU Z = (zW Z) :: us → (∀ u ∈ us, u.1.length ≤ 14) → (∀ k v, us[k]? = some v → RW v (S1.2.2.1 19) (16 * (us.length - 1 - k))) → F_X12_note_49 l G (d + 1) m (mh m A S1 ρ) K := by
    intro S1 us h1 h2 h3 h4 h6 h5
    have h17 : S1.2.2.1 17 = S.2.2.1 17 := h2.2.2.1 17 (by decide)
    simp only [F_X12_note_49, mfI_0, mpI_0, mfN_1, mfI_2, mpI_2, mfI_3, mpI_3, mfI_4, mpI_4, mfI_5, mpI_5, mfI_6, mpI_6, mfI_7, mpI_7, mfI_8, mpI_8, mfI_9, mpI_9, mfI_10, mpI_10, mfI_11, mpI_11, mfN_12, mfZ_13, mpZ_13, mfZ_14, mpZ_14, mfN_15, mfN_16, mfN_17, mfN_18, mfN_19, mfN_20, mfI_21, mpI_21, mfI_22, mpI_22, mfN_23, mfN_24, mfN_25, mfN_26, mfN_27, mfN_28, mfN_29, mfI_30, mpI_30, mfN_31, mfN_32, mfN_33, mfN_34, mfN_35, mfN_36, mfN_37, mfI_38, mpI_38, mfN_39, mfI_40, mpI_40, mfI_41, mpI_41, h3]
    rw [show (16 : Int32) * nI us.length = nI (16 * us.length) from nt_mul 16 _]
    refine s_X12_copy (kf := 17) (kt := 19) (a := 0) (b := 16 * us.length) (n := 16) hA (by decide) (by decide) (by decide) (by decide) (by decide) (by decide) (show 16 * us.length + 16 ≤ 256 by omega) (by decide) ?_
    simp only [mfI_0, mpI_0, mfN_1, mfI_2, mpI_2, mfI_3, mpI_3, mfI_4, mpI_4, mfI_5, mpI_5, mfI_6, mpI_6, mfI_7, mpI_7, mfI_8, mpI_8, mfI_9, mpI_9, mfI_10, mpI_10, mfI_11, mpI_11, mfN_12, mfZ_13, mpZ_13, mfZ_14, mpZ_14, mfN_15, mfN_16, mfN_17, mfN_18, mfN_19, mfN_20, mfI_21, mpI_21, mfI_22, mpI_22, mfN_23, mfN_24, mfN_25, mfN_26, mfN_27, mfN_28, mfN_29, mfI_30, mpI_30, mfN_31, mfN_32, mfN_33, mfN_34, mfN_35, mfN_36, mfN_37, mfI_38, mpI_38, mfN_39, mfI_40, mpI_40, mfI_41, mpI_41, ms_i, ms_i2, ms_b1, ms_b, ms_b2, ms_a1, ms_a2, ms_a, ms_a3, ms_j1, ms_j2, ms_j3, ms_j, ↓reduceIte, Nat.reduceEqDiff, h3, show nI us.length + 1 = nI (us.length + 1) from nt_add _ 1]
    refine hK _ ((h2.a (by decide)).i (by decide)) (hM.am (((h2.mo (by simp) (by simp) (by simp)).a (by decide)).i (by decide)) ⟨by rw [h4]; rfl, ?_⟩ (fun k v hv => ?_) (fun k v hv => ?_) fun T' hT' => ?_)
    · simp only [ms_i, ms_i2, ms_b1, ms_b, ms_b2, ms_a1, ms_a2, ms_a, ms_a3, ms_j1, ms_j2, ms_j3, ms_j, ↓reduceIte, Nat.reduceEqDiff]
      exact (h2.1 22 (by decide)).trans hM.2.2.1.2
    · rw [h4] at hv ⊢
      simp only [ms_i, ms_i2, ms_b1, ms_b, ms_b2, ms_a1, ms_a2, ms_a, ms_a3, ms_j1, ms_j2, ms_j3, ms_j, ↓reduceIte, Nat.reduceEqDiff, List.length_cons, h17]
      cases k with
      | zero =>
        simp only [List.getElem?_cons_zero, Option.some.injEq] at hv
        subst hv
        rw [show 16 * (us.length + 1 - 1 - 0) = 16 * us.length by omega]
        exact gW.put r14
      | succ k =>
        rw [List.getElem?_cons_succ] at hv
        have hk := (List.getElem?_eq_some_iff.mp hv).1
        rw [show us.length + 1 - 1 - (k + 1) = us.length - 1 - k by omega]
        refine (h5 k v hv).keep (h6 v (List.mem_of_getElem? hv)) fun j j1 j2 => fb_put_out (Or.inl (by omega))
    · simp only [ms_i, ms_i2, ms_b1, ms_b, ms_b2, ms_a1, ms_a2, ms_a, ms_a3, ms_j1, ms_j2, ms_j3, ms_j, ↓reduceIte, Nat.reduceEqDiff]
      rw [h2.2.2.1 20 (by decide)]
      exact hIm k v hv
    · simp only [ms_i, ms_i2, ms_b1, ms_b, ms_b2, ms_a1, ms_a2, ms_a, ms_a3, ms_j1, ms_j2, ms_j3, ms_j, ↓reduceIte, Nat.reduceEqDiff, h17]
      exact gW
  refine m_X12_note rv_m ?_
  simp only [F_X12_note, mfI_0, mpI_0, mfN_1, mfI_2, mpI_2, mfI_3, mpI_3, mfI_4, mpI_4, mfI_5, mpI_5, mfI_6, mpI_6, mfI_7, mpI_7, mfI_8, mpI_8, mfI_9, mpI_9, mfI_10, mpI_10, mfI_11, mpI_11, mfN_12, mfZ_13, mpZ_13, mfZ_14, mpZ_14, mfN_15, mfN_16, mfN_17, mfN_18, mfN_19, mfN_20, mfI_21, mpI_21, mfI_22, mpI_22, mfN_23, mfN_24, mfN_25, mfN_26, mfN_27, mfN_28, mfN_29, mfI_30, mpI_30, mfN_31, mfN_32, mfN_33, mfN_34, mfN_35, mfN_36, mfN_37, mfI_38, mpI_38, mfN_39, mfI_40, mpI_40, mfI_41, mpI_41, c1]
  rw [show (16 : Int32) = nI 16 from rfl, nt_eq (by omega) (by decide)]
  refine ⟨fun h1 => ?_, fun h1 => ?_⟩
  · refine h49 S (zU Z) (by omega) Sm.rf c1 ?_ u14 hU
    rw [keepU, List.take_of_length_le (by rw [List.length_cons]; omega)]
  · have hz : ∀ r k S1, k + r = 240 → Sm [21] [] [19] S S1 → S1.1 21 = nI 16 → (∀ j, j < k → S1.2.2.1 19 j = S.2.2.1 19 (j + 16)) → (∀ j, k ≤ j → S1.2.2.1 19 j = S.2.2.1 19 j) → Z_X12_note_11 l G (d + 1) K (r + 1) m (nI k) (mh m A S1 ρ) := by
      intro r
      induction r with
      | zero =>
        intro k S1 hk h2 h3 h4 h5
        simp only [Z_X12_note_11, F_X12_note_11, mfI_0, mpI_0, mfN_1, mfI_2, mpI_2, mfI_3, mpI_3, mfI_4, mpI_4, mfI_5, mpI_5, mfI_6, mpI_6, mfI_7, mpI_7, mfI_8, mpI_8, mfI_9, mpI_9, mfI_10, mpI_10, mfI_11, mpI_11, mfN_12, mfZ_13, mpZ_13, mfZ_14, mpZ_14, mfN_15, mfN_16, mfN_17, mfN_18, mfN_19, mfN_20, mfI_21, mpI_21, mfI_22, mpI_22, mfN_23, mfN_24, mfN_25, mfN_26, mfN_27, mfN_28, mfN_29, mfI_30, mpI_30, mfN_31, mfN_32, mfN_33, mfN_34, mfN_35, mfN_36, mfN_37, mfI_38, mpI_38, mfN_39, mfI_40, mpI_40, mfI_41, mpI_41, h3]
        rw [show (240 : Int32) = nI 240 from rfl, nt_le (by decide) (by omega), show nI 16 - 1 = nI 15 by decide]
        refine ⟨fun _ => h49 (seti S1 21 (nI 15)) ((zU Z).take 15) (by rw [List.length_take]; omega) (h2.i (by decide)) (by rw [List.length_take, h1]; rfl) ?_ (fun u hu => u14 u (List.mem_of_mem_take hu)) (fun i v hv => ?_), fun hc => absurd (by omega) hc⟩
        · rw [keepU, List.take_succ_cons]
        · have hi := (List.getElem?_eq_some_iff.mp hv).1
          rw [List.length_take] at hi
          rw [List.getElem?_take_of_lt (by omega)] at hv
          have hu := hU i v hv
          rw [h1] at hu
          rw [List.length_take, h1, show min 15 16 - 1 - i = 14 - i by omega]
          have hv14 := u14 v (List.mem_of_getElem? hv)
          obtain ⟨a1, a2, a3⟩ := hu
          simp only [ms_i, ms_i2, ms_b1, ms_b, ms_b2, ms_a1, ms_a2, ms_a, ms_a3, ms_j1, ms_j2, ms_j3, ms_j, ↓reduceIte, Nat.reduceEqDiff]
          refine ⟨?_, fun q w hw => ?_, ?_⟩
          · exact (h4 _ (by omega)).trans (Eq.trans (congrArg _ (by omega)) a1)
          · have := (List.getElem?_eq_some_iff.mp hw).1
            exact (h4 _ (by omega)).trans (Eq.trans (congrArg _ (by omega)) (a2 q w hw))
          · exact (h4 _ (by omega)).trans (Eq.trans (congrArg _ (by omega)) a3)
      | succ r ih =>
        intro k S1 hk h2 h3 h4 h5
        rw [show r + 1 + 1 = (r + 1) + 1 from rfl, Z_X12_note_11]
        simp only [F_X12_note_11, mfI_0, mpI_0, mfN_1, mfI_2, mpI_2, mfI_3, mpI_3, mfI_4, mpI_4, mfI_5, mpI_5, mfI_6, mpI_6, mfI_7, mpI_7, mfI_8, mpI_8, mfI_9, mpI_9, mfI_10, mpI_10, mfI_11, mpI_11, mfN_12, mfZ_13, mpZ_13, mfZ_14, mpZ_14, mfN_15, mfN_16, mfN_17, mfN_18, mfN_19, mfN_20, mfI_21, mpI_21, mfI_22, mpI_22, mfN_23, mfN_24, mfN_25, mfN_26, mfN_27, mfN_28, mfN_29, mfI_30, mpI_30, mfN_31, mfN_32, mfN_33, mfN_34, mfN_35, mfN_36, mfN_37, mfI_38, mpI_38, mfN_39, mfI_40, mpI_40, mfI_41, mpI_41, mgI_1 hA, msI_1 hA, mgI_12 hA, msI_12 hA, mgI_15 hA, msI_15 hA, mgI_16 hA, msI_16 hA, mgI_17 hA, msI_17 hA, mgI_18 hA, msI_18 hA, mgI_19 hA, msI_19 hA, mgI_20 hA, msI_20 hA, mgI_23 hA, msI_23 hA, mgI_24 hA, msI_24 hA, mgI_25 hA, msI_25 hA, mgI_26 hA, msI_26 hA, mgI_27 hA, msI_27 hA, mgI_28 hA, msI_28 hA, mgI_29 hA, msI_29 hA, mgI_31 hA, msI_31 hA, mgI_32 hA, msI_32 hA, mgI_33 hA, msI_33 hA, mgI_34 hA, msI_34 hA, mgI_35 hA, msI_35 hA, mgI_36 hA, msI_36 hA, mgI_39 hA, msI_39 hA, mgJ hA, msJ hA, show nI k + 16 = nI (k + 16) from nt_add k 16, show nI k + 1 = nI (k + 1) from nt_add k 1, nI_clamp (show k + 16 < 2 ^ 31 by omega), nI_clamp (show k < 2 ^ 31 by omega)]
        rw [show (240 : Int32) = nI 240 from rfl, nt_le (by decide) (by omega)]
        refine ⟨fun hc => by omega, fun _ => ⟨(nt_in (by omega)).mpr (by omega), (nt_in (by omega)).mpr (by omega), ih (k + 1) _ (by omega) (h2.a (by decide)) h3 (fun j hj => ?_) fun j hj => ?_⟩⟩
        · simp only [ms_i, ms_i2, ms_b1, ms_b, ms_b2, ms_a1, ms_a2, ms_a, ms_a3, ms_j1, ms_j2, ms_j3, ms_j, ↓reduceIte, Nat.reduceEqDiff]
          by_cases e : j = k
          · subst e; rw [up_eq, h5 _ (by omega)]
          · rw [up_ne e]; exact h4 j (by omega)
        · simp only [ms_i, ms_i2, ms_b1, ms_b, ms_b2, ms_a1, ms_a2, ms_a, ms_a3, ms_j1, ms_j2, ms_j3, ms_j, ↓reduceIte, Nat.reduceEqDiff]
          rw [up_ne (by omega)]; exact h5 j (by omega)
    exact ⟨_, hz 240 0 S (by omega) Sm.rf (by rw [c1, h1]) (fun j hj => by omega) fun j _ => rfl⟩
theorem s_X12_putOn (hA : okA m A) (hM : MI Z S) (hT : zT Z = some T) {n : Nat} (h13 : (zW Z).1.length ≤ 13) {K : Hp → Prop} (hK : ∀ S', MI (za Z ((zW Z).1 ++ [n], (zW Z).2) (zU Z) (zI Z)) S' → K (mh m A S' ρ)) : C_X12_putOn l G (d + 1) m (nI n) (mh m A S ρ) K := by
  obtain ⟨g14, gS, gW⟩ := hM.so hT
  have hU := hM.2.2.2.1
  have hIm := hM.2.2.2.2.1
  obtain ⟨a1, a2, a3⟩ := gW
  refine m_X12_putOn rv_m ?_
  simp only [F_X12_putOn, mfI_0, mpI_0, mfN_1, mfI_2, mpI_2, mfI_3, mpI_3, mfI_4, mpI_4, mfI_5, mpI_5, mfI_6, mpI_6, mfI_7, mpI_7, mfI_8, mpI_8, mfI_9, mpI_9, mfI_10, mpI_10, mfI_11, mpI_11, mfN_12, mfZ_13, mpZ_13, mfZ_14, mpZ_14, mfN_15, mfN_16, mfN_17, mfN_18, mfN_19, mfN_20, mfI_21, mpI_21, mfI_22, mpI_22, mfN_23, mfN_24, mfN_25, mfN_26, mfN_27, mfN_28, mfN_29, mfI_30, mpI_30, mfN_31, mfN_32, mfN_33, mfN_34, mfN_35, mfN_36, mfN_37, mfI_38, mpI_38, mfN_39, mfI_40, mpI_40, mfI_41, mpI_41, mgI_1 hA, msI_1 hA, mgI_12 hA, msI_12 hA, mgI_15 hA, msI_15 hA, mgI_16 hA, msI_16 hA, mgI_17 hA, msI_17 hA, mgI_18 hA, msI_18 hA, mgI_19 hA, msI_19 hA, mgI_20 hA, msI_20 hA, mgI_23 hA, msI_23 hA, mgI_24 hA, msI_24 hA, mgI_25 hA, msI_25 hA, mgI_26 hA, msI_26 hA, mgI_27 hA, msI_27 hA, mgI_28 hA, msI_28 hA, mgI_29 hA, msI_29 hA, mgI_31 hA, msI_31 hA, mgI_32 hA, msI_32 hA, mgI_33 hA, msI_33 hA, mgI_34 hA, msI_34 hA, mgI_35 hA, msI_35 hA, mgI_36 hA, msI_36 hA, mgI_39 hA, msI_39 hA, mgJ hA, msJ hA, show (0 : Int32).toNatClampNeg = 0 from rfl, a1, show (1 : Int32) + nI (zW Z).1.length = nI (1 + (zW Z).1.length) from nt_add 1 _, nI_clamp (show 1 + (zW Z).1.length < 2 ^ 31 by omega), ms_i, ms_i2, ms_b1, ms_b, ms_b2, ms_a1, ms_a2, ms_a, ms_a3, ms_j1, ms_j2, ms_j3, ms_j, ↓reduceIte, Nat.reduceEqDiff]
  have e1 : up_ (S.2.2.1 17) (1 + (zW Z).1.length) (nI n) 0 = nI (zW Z).1.length := (up_ne (by omega)).trans a1
  rw [e1, show nI (zW Z).1.length + 1 = nI ((zW Z).1.length + 1) from nt_add _ 1]
  refine ⟨(vin 0 (by decide) (by decide)), (nt_in (by omega)).mpr (by omega), (vin 0 (by decide) (by decide)), (vin 0 (by decide) (by decide)), hK _ (hM.am ((Sm.rf.a (by decide)).a (by decide)) hM.2.2.1 hU hIm fun T' hT' => ?_)⟩
  simp only [ms_i, ms_i2, ms_b1, ms_b, ms_b2, ms_a1, ms_a2, ms_a, ms_a3, ms_j1, ms_j2, ms_j3, ms_j, ↓reduceIte, Nat.reduceEqDiff]
  refine ⟨?_, fun k v hv => ?_, ?_⟩
  · rw [up_eq, List.length_append]; rfl
  · rw [up_ne (by omega)]
    by_cases hk : k < (zW Z).1.length
    · rw [List.getElem?_append_left hk] at hv
      rw [up_ne (by omega)]
      exact a2 k v hv
    · have := (List.getElem?_eq_some_iff.mp hv).1
      rw [List.length_append, List.length_cons, List.length_nil] at this
      obtain rfl : k = (zW Z).1.length := by omega
      simp only [List.getElem?_concat_length, Option.some.injEq] at hv
      subst hv
      rw [Nat.zero_add, up_eq]
  · rw [up_ne (by omega), up_ne (by omega)]
    exact a3
theorem MI.trn {Z' : ST} {S' : MS} (h : MI (zt Z 0) S') (h2 : zt Z 0 = Z') : MI Z' S' := h2 ▸ h
theorem may_13 {L : List LY} {T : TB} {ls : List Nat} {e : LY} (hV : VL T L) (hG : GD L ls) {i who : Nat} (he : L[i]? = some e) (hm : myE T e (tkn L ls) who = true) : ls.length ≤ 13 ∧ GD L (ls ++ [i]) := by
  have h1 := hG.snoc he (frE_0 (myE_fr hm))
  have h2 := h1.le14 hV
  rw [List.length_append, List.length_cons, List.length_nil] at h2
  exact ⟨by omega, h1⟩
theorem p_X12_puts (hA : okA m A) (hZ : VZ Z) (hM : MI Z S) {v : Int32} {K : Bool → Hp → Prop} (hK : ∀ S', MI (n_puts Z v).2 S' → K (n_puts Z v).1 (mh m A S' ρ)) : C_X12_puts l G (d + 40) m v (mh m A S ρ) K := by
  refine m_X12_puts rv_m ?_
  simp only [F_X12_puts]
  refine s_X12_clear ?_
  have h0 := hM.cl
  simp only [n_puts] at hK
  cases hT : zT Z with
  | none =>
    simp only [hT] at hK
    refine s_X12_isLay_no (h0.no hT) ?_
    simp only [reduceCtorEq, false_implies, true_implies, forall_const, true_and, and_true, eq_self]
    exact s_X12_isNot (hK _ (h0.tr 1 (by decide)))
  | some T =>
    simp only [hT] at hK
    obtain ⟨g14, gS, gW⟩ := h0.so hT
    obtain ⟨hW, hV, hG, htk, hwho, -⟩ := hZ.so hT
    refine s_X12_isLay g14 gS.2.1 ?_
    rw [ix_dec]
    cases hi : ix v (allL T).length with
    | none =>
      simp only [hi] at hK
      simp only [Option.isSome_none, reduceCtorEq, false_implies, true_implies, forall_const, true_and, and_true, eq_self]
      exact s_X12_isNot (hK _ (h0.tr 1 (by decide)))
    | some i =>
      obtain ⟨rfl, hil⟩ := ix_some (allL_len gS) hi
      obtain ⟨e, he⟩ : ∃ e, (allL T)[i]? = some e := ⟨_, List.getElem?_eq_getElem hil⟩
      obtain ⟨⟨p, hp⟩, -⟩ := hV i e he
      simp only [hi, he] at hK
      simp only [Option.isSome_some, reduceCtorEq, false_implies, true_implies, forall_const, true_and, and_true, eq_self]
      refine s_X12_standNow hA gS.2.1 hV gW hG ?_
      refine s_X12_mayBe hA gS.1 hW gS.2.1 he hp htk hwho ⟨fun h => ?_, fun h => ?_⟩
      · have h1 : myE T e (ztk Z T) (zwh Z) = true := h
        rw [if_pos h1] at hK
        refine s_X12_note (d := d + 37) (Z := zt Z 0) hA hZ.zt0 h0 hT fun S1 _ h2 => ?_
        exact s_X12_putOn (d := d + 38) hA h2 hT (may_13 hV hG he h1).1 fun S2 h3 => hK S2 h3
      · have h1 : myE T e (ztk Z T) (zwh Z) = false := h
        rw [if_neg (by rw [h1]; decide)] at hK
        exact s_X12_isNot (hK _ (h0.tr 5 (by decide)))
theorem p_X12_takes (hA : okA m A) (hZ : VZ Z) (hM : MI Z S) {K : Int32 → Hp → Prop} (hK : ∀ S', MI (n_takes Z).2 S' → K (n_takes Z).1 (mh m A S' ρ)) : C_X12_takes l G (d + 40) m (mh m A S ρ) K := by
  refine m_X12_takes rv_m ?_
  simp only [F_X12_takes]
  refine s_X12_clear ?_
  have h0 := hM.cl
  simp only [n_takes] at hK
  cases hT : zT Z with
  | none =>
    simp only [hT] at hK
    simp only [mfZ_14, h0.no hT, reduceCtorEq, false_implies, true_implies, forall_const, true_and, and_true, eq_self]
    exact s_X12_no (hK _ (h0.tr 1 (by decide)))
  | some T =>
    simp only [hT] at hK
    obtain ⟨g14, gS, gW⟩ := h0.so hT
    obtain ⟨hW, hV, hG, htk, hwho, -⟩ := hZ.so hT
    have h14 := hG.le14 hV
    have hvl := hG.lt
    have h224 := gS.2.1.1
    have hl : (zW (zt Z 0)).1.length ≤ 14 := h14
    simp only [mfI_0, mpI_0, mfN_1, mfI_2, mpI_2, mfI_3, mpI_3, mfI_4, mpI_4, mfI_5, mpI_5, mfI_6, mpI_6, mfI_7, mpI_7, mfI_8, mpI_8, mfI_9, mpI_9, mfI_10, mpI_10, mfI_11, mpI_11, mfN_12, mfZ_13, mpZ_13, mfZ_14, mpZ_14, mfN_15, mfN_16, mfN_17, mfN_18, mfN_19, mfN_20, mfI_21, mpI_21, mfI_22, mpI_22, mfN_23, mfN_24, mfN_25, mfN_26, mfN_27, mfN_28, mfN_29, mfI_30, mpI_30, mfN_31, mfN_32, mfN_33, mfN_34, mfN_35, mfN_36, mfN_37, mfI_38, mpI_38, mfN_39, mfI_40, mpI_40, mfI_41, mpI_41, mgI_1 hA, msI_1 hA, mgI_12 hA, msI_12 hA, mgI_15 hA, msI_15 hA, mgI_16 hA, msI_16 hA, mgI_17 hA, msI_17 hA, mgI_18 hA, msI_18 hA, mgI_19 hA, msI_19 hA, mgI_20 hA, msI_20 hA, mgI_23 hA, msI_23 hA, mgI_24 hA, msI_24 hA, mgI_25 hA, msI_25 hA, mgI_26 hA, msI_26 hA, mgI_27 hA, msI_27 hA, mgI_28 hA, msI_28 hA, mgI_29 hA, msI_29 hA, mgI_31 hA, msI_31 hA, mgI_32 hA, msI_32 hA, mgI_33 hA, msI_33 hA, mgI_34 hA, msI_34 hA, mgI_35 hA, msI_35 hA, mgI_36 hA, msI_36 hA, mgI_39 hA, msI_39 hA, mgJ hA, msJ hA, g14, reduceCtorEq, false_implies, true_implies, forall_const, true_and, and_true, eq_self, show (0 : Int32).toNatClampNeg = 0 from rfl, gW.1]
    rw [nt_0 (by omega)]
    refine ⟨(vin 0 (by decide) (by decide)), fun h1 => ?_, fun h1 => ?_⟩
    · have h1' : (zW Z).1.length ≠ 0 := h1
      obtain ⟨x, hx⟩ : ∃ x, (zW Z).1.getLast? = some x := by
        rw [List.getLast?_eq_getElem?]
        exact ⟨_, List.getElem?_eq_getElem (by omega)⟩
      simp only [hx] at hK
      refine s_X12_note (d := d + 37) (Z := zt Z 0) hA hZ.zt0 h0 hT fun S1 h2 h3 => ?_
      have g3 := (h3.so hT).2.2
      refine s_X12_latest hA g3 h14 (fun k v hv => Nat.lt_of_lt_of_le (hvl k v hv) (by omega)) ?_
      have e1 : S1.2.2.1 17 0 = nI (zW Z).1.length := g3.1
      simp only [mfI_0, mpI_0, mfN_1, mfI_2, mpI_2, mfI_3, mpI_3, mfI_4, mpI_4, mfI_5, mpI_5, mfI_6, mpI_6, mfI_7, mpI_7, mfI_8, mpI_8, mfI_9, mpI_9, mfI_10, mpI_10, mfI_11, mpI_11, mfN_12, mfZ_13, mpZ_13, mfZ_14, mpZ_14, mfN_15, mfN_16, mfN_17, mfN_18, mfN_19, mfN_20, mfI_21, mpI_21, mfI_22, mpI_22, mfN_23, mfN_24, mfN_25, mfN_26, mfN_27, mfN_28, mfN_29, mfI_30, mpI_30, mfN_31, mfN_32, mfN_33, mfN_34, mfN_35, mfN_36, mfN_37, mfI_38, mpI_38, mfN_39, mfI_40, mpI_40, mfI_41, mpI_41, mgI_1 hA, msI_1 hA, mgI_12 hA, msI_12 hA, mgI_15 hA, msI_15 hA, mgI_16 hA, msI_16 hA, mgI_17 hA, msI_17 hA, mgI_18 hA, msI_18 hA, mgI_19 hA, msI_19 hA, mgI_20 hA, msI_20 hA, mgI_23 hA, msI_23 hA, mgI_24 hA, msI_24 hA, mgI_25 hA, msI_25 hA, mgI_26 hA, msI_26 hA, mgI_27 hA, msI_27 hA, mgI_28 hA, msI_28 hA, mgI_29 hA, msI_29 hA, mgI_31 hA, msI_31 hA, mgI_32 hA, msI_32 hA, mgI_33 hA, msI_33 hA, mgI_34 hA, msI_34 hA, mgI_35 hA, msI_35 hA, mgI_36 hA, msI_36 hA, mgI_39 hA, msI_39 hA, mgJ hA, msJ hA, show (0 : Int32).toNatClampNeg = 0 from rfl, e1, ms_i, ms_i2, ms_b1, ms_b, ms_b2, ms_a1, ms_a2, ms_a, ms_a3, ms_j1, ms_j2, ms_j3, ms_j, ↓reduceIte, Nat.reduceEqDiff, up_eq]
      rw [show (nI (zW Z).1.length - 1 : Int32) = nI ((zW Z).1.length - 1) from nt_sub (b := 1) (by omega) (by omega), show (1 : Int32) + nI ((zW Z).1.length - 1) = nI (1 + ((zW Z).1.length - 1)) from nt_add 1 _, nI_clamp (by omega)]
      refine ⟨(vin 0 (by decide) (by decide)), (vin 0 (by decide) (by decide)), (vin 0 (by decide) (by decide)), (nt_in (by omega)).mpr (by omega), ?_⟩
      have e2 : optF (lastO (zW (zt Z 0))) = nI x := by
        show optF ((zW Z).1.getLast?) = nI x
        rw [hx]; rfl
      have e3 : optF (lastO (zW (za (zt Z 0) (zW (zt Z 0)) (keepU (zt Z 0)) (zI (zt Z 0))))) = nI x := e2
      rw [e3]
      refine hK _ (h3.am ((Sm.rf.a (by decide)).a (by decide)) h3.2.2.1 h3.2.2.2.1 h3.2.2.2.2.1 fun T' hT' => ?_)
      simp only [ms_i, ms_i2, ms_b1, ms_b, ms_b2, ms_a1, ms_a2, ms_a, ms_a3, ms_j1, ms_j2, ms_j3, ms_j, ↓reduceIte, Nat.reduceEqDiff]
      refine ⟨?_, fun k v hv => ?_, ?_⟩
      · rw [up_ne (by omega), up_eq]
        show nI ((zW Z).1.length - 1) = nI (zW Z).1.dropLast.length
        rw [List.length_dropLast]
      · have hk : k < (zW Z).1.dropLast.length := (List.getElem?_eq_some_iff.mp hv).1
        rw [List.length_dropLast] at hk
        rw [up_ne (by omega), up_ne (by omega)]
        refine g3.2.1 k v ?_
        have hv' : (zW Z).1.dropLast[k]? = some v := hv
        rw [List.dropLast_eq_take, List.getElem?_take_of_lt (by omega)] at hv'
        exact hv'
      · rw [up_ne (by omega), up_ne (by omega)]
        exact g3.2.2
    · have h1' : (zW Z).1 = [] := List.length_eq_zero_iff.mp h1
      simp only [h1', List.getLast?_nil] at hK
      exact s_X12_no (hK _ (h0.tr 6 (by decide)))
theorem p_X12_plays (hA : okA m A) (hZ : VZ Z) (hM : MI Z S) {v : Int32} {K : Int32 → Hp → Prop} (hK : ∀ S', MI (n_plays Z v).2 S' → K (n_plays Z v).1 (mh m A S' ρ)) : C_X12_plays l G (d + 40) m v (mh m A S ρ) K := by
  refine m_X12_plays rv_m ?_
  simp only [F_X12_plays]
  refine s_X12_clear ?_
  have h0 := hM.cl
  simp only [n_plays] at hK
  cases hT : zT Z with
  | none =>
    simp only [hT] at hK
    refine s_X12_isPlayer_no (h0.no hT) ?_
    simp only [reduceCtorEq, false_implies, true_implies, forall_const, true_and, and_true, eq_self]
    exact s_X12_no (hK _ (h0.tr 1 (by decide)))
  | some T =>
    simp only [hT] at hK
    obtain ⟨g14, gS, gW⟩ := h0.so hT
    obtain ⟨hW, hV, hG, htk, hwho, hs⟩ := hZ.so hT
    have h14 := hG.le14 hV
    have hvl := GD.lt hG
    have h224 := gS.2.1.1
    refine s_X12_isPlayer g14 ?_
    cases hp : inR v 0 4 with
    | false =>
      simp only [hp, Bool.false_eq_true, if_false] at hK
      simp only [reduceCtorEq, false_implies, true_implies, forall_const, true_and, and_true, eq_self]
      exact s_X12_no (hK _ (h0.tr 1 (by decide)))
    | true =>
      obtain ⟨p', rfl, p1, p2⟩ := inR_some (by decide) (by decide) hp
      simp only [hp, if_true, nI_clamp (show p' < 2 ^ 31 by omega)] at hK
      simp only [reduceCtorEq, false_implies, true_implies, forall_const, true_and, and_true, eq_self]
      refine s_X12_standNow hA gS.2.1 hV gW hG (s_X12_isOver hA gS.1 hW gS.2.1 hV htk hwho ?_)
      cases hm : mvs T (allL T) (ztk Z T) (zwh Z) with
      | nil =>
        have hm' : mvs T (allL T) (tkn (allL T) (zW Z).1) ((zW Z).1.length % 2) = [] := hm
        simp only [hm', List.isEmpty_nil, reduceCtorEq, false_implies, true_implies, forall_const, true_and, and_true, eq_self]
        have hc : chZ Z T p' = (none, (zW Z).2) := chs_none hm
        simp only [hc] at hK
        exact s_X12_no (hK _ (h0.tr 6 (by decide)))
      | cons e0 es0 =>
        have hm' : mvs T (allL T) (tkn (allL T) (zW Z).1) ((zW Z).1.length % 2) = e0 :: es0 := hm
        simp only [hm', List.isEmpty_cons, reduceCtorEq, false_implies, true_implies, forall_const, true_and, and_true, eq_self]
        refine s_X12_note (d := d + 37) (Z := zt Z 0) hA hZ.zt0 h0 hT fun S1 _ h3 => ?_
        obtain ⟨-, g2, g3⟩ := h3.so hT
        have g15 : S1.2.2.1 17 15 = nI (zW Z).2 := g3.2.2
        simp only [mfI_0, mpI_0, mfN_1, mfI_2, mpI_2, mfI_3, mpI_3, mfI_4, mpI_4, mfI_5, mpI_5, mfI_6, mpI_6, mfI_7, mpI_7, mfI_8, mpI_8, mfI_9, mpI_9, mfI_10, mpI_10, mfI_11, mpI_11, mfN_12, mfZ_13, mpZ_13, mfZ_14, mpZ_14, mfN_15, mfN_16, mfN_17, mfN_18, mfN_19, mfN_20, mfI_21, mpI_21, mfI_22, mpI_22, mfN_23, mfN_24, mfN_25, mfN_26, mfN_27, mfN_28, mfN_29, mfI_30, mpI_30, mfN_31, mfN_32, mfN_33, mfN_34, mfN_35, mfN_36, mfN_37, mfI_38, mpI_38, mfN_39, mfI_40, mpI_40, mfI_41, mpI_41, mgI_1 hA, msI_1 hA, mgI_12 hA, msI_12 hA, mgI_15 hA, msI_15 hA, mgI_16 hA, msI_16 hA, mgI_17 hA, msI_17 hA, mgI_18 hA, msI_18 hA, mgI_19 hA, msI_19 hA, mgI_20 hA, msI_20 hA, mgI_23 hA, msI_23 hA, mgI_24 hA, msI_24 hA, mgI_25 hA, msI_25 hA, mgI_26 hA, msI_26 hA, mgI_27 hA, msI_27 hA, mgI_28 hA, msI_28 hA, mgI_29 hA, msI_29 hA, mgI_31 hA, msI_31 hA, mgI_32 hA, msI_32 hA, mgI_33 hA, msI_33 hA, mgI_34 hA, msI_34 hA, mgI_35 hA, msI_35 hA, mgI_36 hA, msI_36 hA, mgI_39 hA, msI_39 hA, mgJ hA, msJ hA, show (15 : Int32).toNatClampNeg = 15 from rfl, g15]
        have gS' : GS T (allL T) (seti S1 40 (nI (zW Z).2)) := g2.i (by decide)
        refine ⟨(vin 15 (by decide) (by decide)), s_X12_standNow hA gS'.2.1 hV (r := zW Z) g3 hG ?_⟩
        refine s_X12_latest (S := seti S1 40 (nI (zW Z).2)) hA (r := zW Z) g3 h14 (fun k v hv => Nat.lt_of_lt_of_le (hvl k v hv) (by omega)) ?_
        refine s_X12_wouldLay (d := d + 9) hA gS' hW hV p2 htk hwho hs rfl (last_lt hvl) fun S2 a b c => ?_
        obtain ⟨x, ex, c1, c2, c3⟩ := chs_ok (T := T) (L := allL T) (p := p') (tk := ztk Z T) (who := zwh Z) (last := lastO (zW Z)) (s := (zW Z).2) (by rw [hm]; exact List.cons_ne_nil _ _)
        cases hc : chZ Z T p' with
        | mk o s' =>
          have hc' : chs T (allL T) p' (ztk Z T) (zwh Z) (lastO (zW Z)) (zW Z).2 = (o, s') := hc
          rw [hc'] at c1
          simp only at c1
          subst c1
          have c' : S2.1 40 = nI s' := by rw [c]; exact congrArg (fun z => nI z.2) hc'
          have hx : (chs T (allL T) p' (ztk Z T) (zwh Z) (lastO (zW Z)) (zW Z).2).1 = some x := congrArg (fun z => z.1) hc'
          simp only [hc] at hK
          rw [hx]
          simp only [mfI_0, mpI_0, mfN_1, mfI_2, mpI_2, mfI_3, mpI_3, mfI_4, mpI_4, mfI_5, mpI_5, mfI_6, mpI_6, mfI_7, mpI_7, mfI_8, mpI_8, mfI_9, mpI_9, mfI_10, mpI_10, mfI_11, mpI_11, mfN_12, mfZ_13, mpZ_13, mfZ_14, mpZ_14, mfN_15, mfN_16, mfN_17, mfN_18, mfN_19, mfN_20, mfI_21, mpI_21, mfI_22, mpI_22, mfN_23, mfN_24, mfN_25, mfN_26, mfN_27, mfN_28, mfN_29, mfI_30, mpI_30, mfN_31, mfN_32, mfN_33, mfN_34, mfN_35, mfN_36, mfN_37, mfI_38, mpI_38, mfN_39, mfI_40, mpI_40, mfI_41, mpI_41, mgI_1 hA, msI_1 hA, mgI_12 hA, msI_12 hA, mgI_15 hA, msI_15 hA, mgI_16 hA, msI_16 hA, mgI_17 hA, msI_17 hA, mgI_18 hA, msI_18 hA, mgI_19 hA, msI_19 hA, mgI_20 hA, msI_20 hA, mgI_23 hA, msI_23 hA, mgI_24 hA, msI_24 hA, mgI_25 hA, msI_25 hA, mgI_26 hA, msI_26 hA, mgI_27 hA, msI_27 hA, mgI_28 hA, msI_28 hA, mgI_29 hA, msI_29 hA, mgI_31 hA, msI_31 hA, mgI_32 hA, msI_32 hA, mgI_33 hA, msI_33 hA, mgI_34 hA, msI_34 hA, mgI_35 hA, msI_35 hA, mgI_36 hA, msI_36 hA, mgI_39 hA, msI_39 hA, mgJ hA, msJ hA, show (15 : Int32).toNatClampNeg = 15 from rfl, c']
          have h4 : MI (za (zt Z 0) (zW Z) (keepU Z) (zI Z)) S2 := (h3.g hT (S' := seti S1 40 (nI (zW Z).2)) ⟨fun j hj => if_neg fun e => hj (by rw [e]; decide), rfl, fun _ _ => rfl⟩ gS').g hT (a.mo (by decide)) b
          have g4 := (h4.so hT).2.2
          have h5 : MI (za (zt Z 0) ((zW Z).1, s') (keepU Z) (zI Z)) (seta S2 17 (up_ (S2.2.2.1 17) 15 (nI s'))) := h4.am (Sm.rf.a (by decide)) h4.2.2.1 h4.2.2.2.1 h4.2.2.2.2.1 fun T' hT' => by
            simp only [ms_i, ms_i2, ms_b1, ms_b, ms_b2, ms_a1, ms_a2, ms_a, ms_a3, ms_j1, ms_j2, ms_j3, ms_j, ↓reduceIte, Nat.reduceEqDiff]
            refine ⟨(up_ne (by omega)).trans g4.1, fun k v hv => ?_, by rw [Nat.zero_add, up_eq]⟩
            have hk := (List.getElem?_eq_some_iff.mp hv).1
            have hk' : k < (zW Z).1.length := hk
            exact (up_ne (by omega)).trans (g4.2.1 k v hv)
          exact ⟨(vin 15 (by decide) (by decide)), s_X12_putOn (d := d + 38) hA h5 hT (may_13 hV hG c2 c3).1 fun S3 h6 => hK S3 h6⟩
end ACT
