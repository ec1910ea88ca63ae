/-! halfRound, acrossOf, isHeap, squaresOf, isHalf, isAnswered in the model -/
def hrN (f al sq : Nat) : Nat → Nat → Nat → Nat
  | 0, _, a => a
  | n + 1, c, a => hrN f al sq n (c + 1) (if sq.testBit (f + c) then a ||| 2 ^ (f + al - 1 - c) else a)
def hr (b : BD) (sq : Nat) : Nat := hrN b.2.2.1 (b.1 * b.2.1) sq (b.1 * b.2.1) 0 0
def hrE (T : TB) (k sq : Nat) : Nat := match T.2.1[k]? with
  | some b => hr b sq
  | none => 0
theorem hrN_lt {f al sq : Nat} (hf : f + al ≤ 14) : ∀ n c a, c + n ≤ al → a < 2 ^ 14 → hrN f al sq n c a < 2 ^ 14
  | 0, c, a => fun _ h => h
  | n + 1, c, a => fun h1 h => by
    simp only [hrN]
    refine hrN_lt hf n (c + 1) _ (by omega) ?_
    split
    · exact lt_two h (by omega)
    · exact h
def acE (T : TB) (e o : LY) : Bool := decide (o.1 = e.1) && (decide (o.2.1 = e.2.1) && decide (eS o = hrE T e.2.1 (eS e)))
/-- the lay across -/
def acr (T : TB) (L : List LY) (e : LY) : Option Nat := mAt (acE T e) L 0 0
def hpT (T : TB) : Bool := !T.1.2.1 && T.2.2.1.all fun p => decide (p.2.2.2.2.1 = 0)
def sqB (b : BD) : Nat := (2 ^ (b.1 * b.2.1) - 1) * 2 ^ b.2.2.1
def hfB (T : TB) (b : BD) (tk : Nat) : Bool := decide (hr b ((tk ||| T.2.2.2) &&& sqB b) = (tk ||| T.2.2.2) &&& sqB b) && decide (hr b (T.2.2.2 &&& sqB b) = T.2.2.2 &&& sqB b)
def ansE (T : TB) (L : List LY) (e : LY) : Bool := match acr T L e with
  | none => false
  | some o => decide (sqN L o &&& eS e = 0) && (!T.1.2.2 || decide (e.2.2.2.2.2.2 &&& sqN L o = 0))
def ansS (T : TB) (L : List LY) (tk who : Nat) : Bool := (mvs T L tk who).all (ansE T L)
section ACR
variable {l : Launch} {G : GG} {d m : Nat} {A : Nat → Nat} {S : MS} {ρ : Hp} {T : TB} {L : List LY}
theorem s_X12_halfRound (hA : okA m A) (hR : TR T (S.2.2.1 15)) (hW : WFT T) {k : Nat} {b : BD} (hk : T.2.1[k]? = some b) {sq : Nat} (hsq : sq < 2 ^ 31) {K : Int32 → Hp → Prop} (h : K (nI (hr b sq)) (mh m A S ρ)) : C_X12_halfRound l G (d + 2) m (nI k) (nI sq) (mh m A S ρ) K := by
  obtain ⟨k3, w1, w2, w3, w4⟩ := WFB.bd hW hk
  obtain ⟨q1, q2⟩ := WFB.sq hW hk
  obtain ⟨g0, g1, g2⟩ := hR.2.2.2.1 k b hk
  have e0 : (13 + nI k : Int32) = nI (13 + k) := nt_add 13 k
  have e7 : (7 + nI k : Int32) = nI (7 + k) := nt_add 7 k
  have e10 : (10 + nI k : Int32) = nI (10 + k) := nt_add 10 k
  have i0 : vp_in (nI (13 + k)) 100 := (nt_in (by omega)).mpr (by omega)
  refine m_X12_halfRound rv_m ?_
  simp only [F_X12_halfRound, mfI_0, mpI_0, mfN_1, mfI_2, mpI_2, mfI_3, mpI_3, mfI_4, mpI_4, mfI_5, mpI_5, mfI_6, mpI_6, mfI_7, mpI_7, mfI_8, mpI_8, mfI_9, mpI_9, mfI_10, mpI_10, mfI_11, mpI_11, mfN_12, mfZ_13, mpZ_13, mfZ_14, mpZ_14, mfN_15, mfN_16, mfN_17, mfN_18, mfN_19, mfN_20, mfI_21, mpI_21, mfI_22, mpI_22, mfN_23, mfN_24, mfN_25, mfN_26, mfN_27, mfN_28, mfN_29, mfI_30, mpI_30, mfN_31, mfN_32, mfN_33, mfN_34, mfN_35, mfN_36, mfN_37, mfI_38, mpI_38, mfN_39, mfI_40, mpI_40, mfI_41, mpI_41, mgI_1 hA, msI_1 hA, mgI_12 hA, msI_12 hA, mgI_15 hA, msI_15 hA, mgI_16 hA, msI_16 hA, mgI_17 hA, msI_17 hA, mgI_18 hA, msI_18 hA, mgI_19 hA, msI_19 hA, mgI_20 hA, msI_20 hA, mgI_23 hA, msI_23 hA, mgI_24 hA, msI_24 hA, mgI_25 hA, msI_25 hA, mgI_26 hA, msI_26 hA, mgI_27 hA, msI_27 hA, mgI_28 hA, msI_28 hA, mgI_29 hA, msI_29 hA, mgI_31 hA, msI_31 hA, mgI_32 hA, msI_32 hA, mgI_33 hA, msI_33 hA, mgI_34 hA, msI_34 hA, mgI_35 hA, msI_35 hA, mgI_36 hA, msI_36 hA, mgI_39 hA, msI_39 hA, mgJ hA, msJ hA, e7, e10, nI_clamp (show 7 + k < 2 ^ 31 by omega), nI_clamp (show 10 + k < 2 ^ 31 by omega), g0, g1, nt_mul]
  have hz : ∀ r c a, c + r = b.1 * b.2.1 → K (nI (hrN b.2.2.1 (b.1 * b.2.1) sq r c a)) (mh m A S ρ) → ∃ n', Z_X12_halfRound_26 l G (d + 1) K n' m (nI k) (nI sq) (nI (b.1 * b.2.1)) (nI a) (nI c) (mh m A S ρ) := by
    intro r
    induction r with
    | zero =>
      intro c a hc h
      refine ⟨1, ?_⟩
      simp only [Z_X12_halfRound_26, F_X12_halfRound_26]
      rw [nt_le (by omega) (by omega)]
      exact ⟨fun _ => h, fun hc => absurd (by omega) hc⟩
    | succ r ih =>
      intro c a hc h
      simp only [hrN] at h
      obtain ⟨n', hz⟩ := ih (c + 1) _ (by omega) h
      refine ⟨n' + 1, ?_⟩
      simp only [Z_X12_halfRound_26, F_X12_halfRound_26, F_X12_halfRound_75, mfI_0, mpI_0, mfN_1, mfI_2, mpI_2, mfI_3, mpI_3, mfI_4, mpI_4, mfI_5, mpI_5, mfI_6, mpI_6, mfI_7, mpI_7, mfI_8, mpI_8, mfI_9, mpI_9, mfI_10, mpI_10, mfI_11, mpI_11, mfN_12, mfZ_13, mpZ_13, mfZ_14, mpZ_14, mfN_15, mfN_16, mfN_17, mfN_18, mfN_19, mfN_20, mfI_21, mpI_21, mfI_22, mpI_22, mfN_23, mfN_24, mfN_25, mfN_26, mfN_27, mfN_28, mfN_29, mfI_30, mpI_30, mfN_31, mfN_32, mfN_33, mfN_34, mfN_35, mfN_36, mfN_37, mfI_38, mpI_38, mfN_39, mfI_40, mpI_40, mfI_41, mpI_41, mgI_1 hA, msI_1 hA, mgI_12 hA, msI_12 hA, mgI_15 hA, msI_15 hA, mgI_16 hA, msI_16 hA, mgI_17 hA, msI_17 hA, mgI_18 hA, msI_18 hA, mgI_19 hA, msI_19 hA, mgI_20 hA, msI_20 hA, mgI_23 hA, msI_23 hA, mgI_24 hA, msI_24 hA, mgI_25 hA, msI_25 hA, mgI_26 hA, msI_26 hA, mgI_27 hA, msI_27 hA, mgI_28 hA, msI_28 hA, mgI_29 hA, msI_29 hA, mgI_31 hA, msI_31 hA, mgI_32 hA, msI_32 hA, mgI_33 hA, msI_33 hA, mgI_34 hA, msI_34 hA, mgI_35 hA, msI_35 hA, mgI_36 hA, msI_36 hA, mgI_39 hA, msI_39 hA, mgJ hA, msJ hA, e0, nI_clamp (show 13 + k < 2 ^ 31 by omega), g2, nt_add, show nI c + 1 = nI (c + 1) from nt_add c 1]
      rw [nt_le (by omega) (by omega)]
      refine ⟨fun hc => by omega, fun _ => ⟨i0, ?_⟩⟩
      refine s_X12_hasBit hsq (by omega) ?_
      simp only [mfI_0, mpI_0, mfN_1, mfI_2, mpI_2, mfI_3, mpI_3, mfI_4, mpI_4, mfI_5, mpI_5, mfI_6, mpI_6, mfI_7, mpI_7, mfI_8, mpI_8, mfI_9, mpI_9, mfI_10, mpI_10, mfI_11, mpI_11, mfN_12, mfZ_13, mpZ_13, mfZ_14, mpZ_14, mfN_15, mfN_16, mfN_17, mfN_18, mfN_19, mfN_20, mfI_21, mpI_21, mfI_22, mpI_22, mfN_23, mfN_24, mfN_25, mfN_26, mfN_27, mfN_28, mfN_29, mfI_30, mpI_30, mfN_31, mfN_32, mfN_33, mfN_34, mfN_35, mfN_36, mfN_37, mfI_38, mpI_38, mfN_39, mfI_40, mpI_40, mfI_41, mpI_41, mgI_1 hA, msI_1 hA, mgI_12 hA, msI_12 hA, mgI_15 hA, msI_15 hA, mgI_16 hA, msI_16 hA, mgI_17 hA, msI_17 hA, mgI_18 hA, msI_18 hA, mgI_19 hA, msI_19 hA, mgI_20 hA, msI_20 hA, mgI_23 hA, msI_23 hA, mgI_24 hA, msI_24 hA, mgI_25 hA, msI_25 hA, mgI_26 hA, msI_26 hA, mgI_27 hA, msI_27 hA, mgI_28 hA, msI_28 hA, mgI_29 hA, msI_29 hA, mgI_31 hA, msI_31 hA, mgI_32 hA, msI_32 hA, mgI_33 hA, msI_33 hA, mgI_34 hA, msI_34 hA, mgI_35 hA, msI_35 hA, mgI_36 hA, msI_36 hA, mgI_39 hA, msI_39 hA, mgJ hA, msJ hA, e0, nI_clamp (show 13 + k < 2 ^ 31 by omega), g2, nt_add]
      refine ⟨fun h1 => ?_, fun h1 => ⟨i0, ?_⟩⟩
      · rw [h1] at hz
        rw [show (0 : Int32) = nI 0 from rfl, nt_or, Nat.or_zero]
        exact hz
      · rw [h1, if_pos rfl] at hz
        rw [show (nI (b.2.2.1 + b.1 * b.2.1) - 1 : Int32) = nI (b.2.2.1 + b.1 * b.2.1 - 1) from nt_sub (b := 1) (by omega) (by omega), nt_sub (by omega) (by omega), nt_one (by omega), nt_or]
        exact hz
  exact ⟨(nt_in (by omega)).mpr (by omega), (nt_in (by omega)).mpr (by omega), hz _ 0 0 (by omega) h⟩
theorem hrE_lt (hW : WFT T) {k sq : Nat} : hrE T k sq < 2 ^ 14 := by
  unfold hrE
  cases hb : T.2.1[k]? with
  | none => exact (by decide : (0 : Nat) < 2 ^ 14)
  | some b =>
    obtain ⟨q1, q2⟩ := WFB.sq hW hb
    exact hrN_lt (by omega) _ 0 0 (by omega) (by decide)
theorem nI_nm2 {n : Nat} (h : n < 2 ^ 31) : ¬ nI n = -2 := by
  intro e
  have := congrArg Int32.toInt e
  rw [nI_toInt h] at this
  have h3 : (-2 : Int32).toInt = -2 := by decide
  omega
theorem s_X12_acrossOf (hA : okA m A) (hR : TR T (S.2.2.1 15)) (hW : WFT T) (hL : LR L S) (hV : VL T L) {i : Nat} {e : LY} (he : L[i]? = some e) {K : Int32 → Hp → Prop} (h : K (optF (acr T L e)) (mh m A S ρ)) : C_X12_acrossOf l G (d + 3) m (nI i) (mh m A S ρ) K := by
  have hi := (List.getElem?_eq_some_iff.mp he).1
  have h224 := hL.1
  obtain ⟨g0, g1, -, -, -, g5, -⟩ := hL.2.2 i e he
  obtain ⟨⟨p, hp⟩, ⟨b, hb⟩, v1, v2, -⟩ := hV i e he
  have hk := (WFP.bd hW hp).1
  have hk2 := (WFB.bd hW hb).1
  have hin : vp_in (nI i) 224 := (nt_in (by omega)).mpr (by omega)
  have hcl : (nI i).toNatClampNeg = i := nI_clamp (by omega)
  have hlt := hrE_lt hW (k := e.2.1) (sq := eS e)
  have hz : ∀ r k, k + r = L.length → K (optF (mAt (acE T e) (L.drop k) k 0)) (mh m A S ρ) → ∃ n', Z_X12_acrossOf_19 l G (d + 2) K n' m (nI i) (nI (hrE T e.2.1 (eS e))) (nI k) (mh m A S ρ) := by
    intro r
    induction r with
    | zero =>
      intro k hk h
      refine ⟨1, ?_⟩
      simp only [Z_X12_acrossOf_19, F_X12_acrossOf_19, mfI_0, mpI_0, mfN_1, mfI_2, mpI_2, mfI_3, mpI_3, mfI_4, mpI_4, mfI_5, mpI_5, mfI_6, mpI_6, mfI_7, mpI_7, mfI_8, mpI_8, mfI_9, mpI_9, mfI_10, mpI_10, mfI_11, mpI_11, mfN_12, mfZ_13, mpZ_13, mfZ_14, mpZ_14, mfN_15, mfN_16, mfN_17, mfN_18, mfN_19, mfN_20, mfI_21, mpI_21, mfI_22, mpI_22, mfN_23, mfN_24, mfN_25, mfN_26, mfN_27, mfN_28, mfN_29, mfI_30, mpI_30, mfN_31, mfN_32, mfN_33, mfN_34, mfN_35, mfN_36, mfN_37, mfI_38, mpI_38, mfN_39, mfI_40, mpI_40, mfI_41, mpI_41, hL.2.1]
      rw [nt_le (by omega) (by omega)]
      rw [List.drop_eq_nil_of_le (by omega)] at h
      exact ⟨fun _ => h, fun hc => absurd (by omega) hc⟩
    | succ r ih =>
      intro k hk h
      obtain ⟨o, ho⟩ : ∃ o, L[k]? = some o := ⟨_, List.getElem?_eq_getElem (by omega)⟩
      obtain ⟨o0, o1, -, -, -, o5, -⟩ := hL.2.2 k o ho
      obtain ⟨⟨p2, hp2⟩, ⟨b2, hb2⟩, u1, u2, -⟩ := hV k o ho
      have hk3 := (WFP.bd hW hp2).1
      have hk4 := (WFB.bd hW hb2).1
      rw [drop_at ho] at h
      simp only [mAt, if_true] at h
      have hin2 : vp_in (nI k) 224 := (nt_in (by omega)).mpr (by omega)
      have hno : acE T e o = false → ∃ n', Z_X12_acrossOf_19 l G (d + 2) K n' m (nI i) (nI (hrE T e.2.1 (eS e))) (nI (k + 1)) (mh m A S ρ) := fun hf => ih (k + 1) (by omega) (by rwa [if_neg (by rw [hf]; decide)] at h)
      have hgo : ∀ n', (acE T e o = false → Z_X12_acrossOf_19 l G (d + 2) K n' m (nI i) (nI (hrE T e.2.1 (eS e))) (nI (k + 1)) (mh m A S ρ)) → Z_X12_acrossOf_19 l G (d + 2) K (n' + 1) m (nI i) (nI (hrE T e.2.1 (eS e))) (nI k) (mh m A S ρ) := by
        intro n' hn
        simp only [acE] at hn
        simp only [Z_X12_acrossOf_19, F_X12_acrossOf_19, F_X12_acrossOf_69, mfI_0, mpI_0, mfN_1, mfI_2, mpI_2, mfI_3, mpI_3, mfI_4, mpI_4, mfI_5, mpI_5, mfI_6, mpI_6, mfI_7, mpI_7, mfI_8, mpI_8, mfI_9, mpI_9, mfI_10, mpI_10, mfI_11, mpI_11, mfN_12, mfZ_13, mpZ_13, mfZ_14, mpZ_14, mfN_15, mfN_16, mfN_17, mfN_18, mfN_19, mfN_20, mfI_21, mpI_21, mfI_22, mpI_22, mfN_23, mfN_24, mfN_25, mfN_26, mfN_27, mfN_28, mfN_29, mfI_30, mpI_30, mfN_31, mfN_32, mfN_33, mfN_34, mfN_35, mfN_36, mfN_37, mfI_38, mpI_38, mfN_39, mfI_40, mpI_40, mfI_41, mpI_41, mgI_1 hA, msI_1 hA, mgI_12 hA, msI_12 hA, mgI_15 hA, msI_15 hA, mgI_16 hA, msI_16 hA, mgI_17 hA, msI_17 hA, mgI_18 hA, msI_18 hA, mgI_19 hA, msI_19 hA, mgI_20 hA, msI_20 hA, mgI_23 hA, msI_23 hA, mgI_24 hA, msI_24 hA, mgI_25 hA, msI_25 hA, mgI_26 hA, msI_26 hA, mgI_27 hA, msI_27 hA, mgI_28 hA, msI_28 hA, mgI_29 hA, msI_29 hA, mgI_31 hA, msI_31 hA, mgI_32 hA, msI_32 hA, mgI_33 hA, msI_33 hA, mgI_34 hA, msI_34 hA, mgI_35 hA, msI_35 hA, mgI_36 hA, msI_36 hA, mgI_39 hA, msI_39 hA, mgJ hA, msJ hA, hL.2.1, nI_clamp (show k < 2 ^ 31 by omega), hcl, o0, o1, o5, g0, g1, show nI k + 1 = nI (k + 1) from nt_add k 1]
        rw [nt_le (by omega) (by omega), nt_eq (by omega) (by omega), nt_eq (by omega) (by omega), nt_eq (by omega) (by omega)]
        refine ⟨fun hc => by omega, fun _ => ⟨hin2, hin, fun h1 => hn (by simp [h1]), fun h1 => ⟨hin2, hin, fun h2 => hn (by simp [h2]), fun h2 => ⟨hin2, fun h3 => hn (by simp [h3]), fun h3 => ?_⟩⟩⟩⟩
        rw [if_pos (show acE T e o = true by simp only [acE, h1, h2, h3, decide_true, Bool.and_self])] at h
        exact h
      cases hf : acE T e o with
      | true => exact ⟨0 + 1, hgo 0 fun hc => by rw [hf] at hc; exact absurd hc (by decide)⟩
      | false =>
        obtain ⟨n', hn⟩ := hno hf
        exact ⟨n' + 1, hgo n' fun _ => hn⟩
  refine m_X12_acrossOf rv_m ?_
  simp only [F_X12_acrossOf, mfI_0, mpI_0, mfN_1, mfI_2, mpI_2, mfI_3, mpI_3, mfI_4, mpI_4, mfI_5, mpI_5, mfI_6, mpI_6, mfI_7, mpI_7, mfI_8, mpI_8, mfI_9, mpI_9, mfI_10, mpI_10, mfI_11, mpI_11, mfN_12, mfZ_13, mpZ_13, mfZ_14, mpZ_14, mfN_15, mfN_16, mfN_17, mfN_18, mfN_19, mfN_20, mfI_21, mpI_21, mfI_22, mpI_22, mfN_23, mfN_24, mfN_25, mfN_26, mfN_27, mfN_28, mfN_29, mfI_30, mpI_30, mfN_31, mfN_32, mfN_33, mfN_34, mfN_35, mfN_36, mfN_37, mfI_38, mpI_38, mfN_39, mfI_40, mpI_40, mfI_41, mpI_41, mgI_1 hA, msI_1 hA, mgI_12 hA, msI_12 hA, mgI_15 hA, msI_15 hA, mgI_16 hA, msI_16 hA, mgI_17 hA, msI_17 hA, mgI_18 hA, msI_18 hA, mgI_19 hA, msI_19 hA, mgI_20 hA, msI_20 hA, mgI_23 hA, msI_23 hA, mgI_24 hA, msI_24 hA, mgI_25 hA, msI_25 hA, mgI_26 hA, msI_26 hA, mgI_27 hA, msI_27 hA, mgI_28 hA, msI_28 hA, mgI_29 hA, msI_29 hA, mgI_31 hA, msI_31 hA, mgI_32 hA, msI_32 hA, mgI_33 hA, msI_33 hA, mgI_34 hA, msI_34 hA, mgI_35 hA, msI_35 hA, mgI_36 hA, msI_36 hA, mgI_39 hA, msI_39 hA, mgJ hA, msJ hA, hcl, g1, g5]
  refine ⟨hin, hin, ?_⟩
  refine s_X12_halfRound (d := d) hA hR hW hb (by omega) ?_
  have := hz L.length 0 (by omega) h
  rw [show hrE T e.2.1 (eS e) = hr b (eS e) by simp only [hrE, hb]] at this
  exact this
theorem s_X12_isHeap (hA : okA m A) (hR : TR T (S.2.2.1 15)) (hW : WFT T) {K : Bool → Hp → Prop} (h : K (hpT T) (mh m A S ρ)) : C_X12_isHeap l G (d + 1) m (mh m A S ρ) K := by
  have h4 := hW.2.1.1
  have g4 := hR.2.1.2.1
  have hz : ∀ r k (a : Bool), k + r = T.2.2.1.length → K (a && (T.2.2.1.drop k).all fun p => decide (p.2.2.2.2.1 = 0)) (mh m A S ρ) → ∃ n', Z_X12_isHeap_17 l G d K n' m a (nI k) (mh m A S ρ) := by
    intro r
    induction r with
    | zero =>
      intro k a hk h
      refine ⟨1, ?_⟩
      simp only [Z_X12_isHeap_17, F_X12_isHeap_17, mfI_0, mpI_0, mfN_1, mfI_2, mpI_2, mfI_3, mpI_3, mfI_4, mpI_4, mfI_5, mpI_5, mfI_6, mpI_6, mfI_7, mpI_7, mfI_8, mpI_8, mfI_9, mpI_9, mfI_10, mpI_10, mfI_11, mpI_11, mfN_12, mfZ_13, mpZ_13, mfZ_14, mpZ_14, mfN_15, mfN_16, mfN_17, mfN_18, mfN_19, mfN_20, mfI_21, mpI_21, mfI_22, mpI_22, mfN_23, mfN_24, mfN_25, mfN_26, mfN_27, mfN_28, mfN_29, mfI_30, mpI_30, mfN_31, mfN_32, mfN_33, mfN_34, mfN_35, mfN_36, mfN_37, mfI_38, mpI_38, mfN_39, mfI_40, mpI_40, mfI_41, mpI_41, mgI_1 hA, msI_1 hA, mgI_12 hA, msI_12 hA, mgI_15 hA, msI_15 hA, mgI_16 hA, msI_16 hA, mgI_17 hA, msI_17 hA, mgI_18 hA, msI_18 hA, mgI_19 hA, msI_19 hA, mgI_20 hA, msI_20 hA, mgI_23 hA, msI_23 hA, mgI_24 hA, msI_24 hA, mgI_25 hA, msI_25 hA, mgI_26 hA, msI_26 hA, mgI_27 hA, msI_27 hA, mgI_28 hA, msI_28 hA, mgI_29 hA, msI_29 hA, mgI_31 hA, msI_31 hA, mgI_32 hA, msI_32 hA, mgI_33 hA, msI_33 hA, mgI_34 hA, msI_34 hA, mgI_35 hA, msI_35 hA, mgI_36 hA, msI_36 hA, mgI_39 hA, msI_39 hA, mgJ hA, msJ hA, show (4 : Int32).toNatClampNeg = 4 from rfl, g4]
      rw [nt_le (by omega) (by omega)]
      rw [List.drop_eq_nil_of_le (by omega), List.all_nil, Bool.and_true] at h
      exact ⟨(vin 4 (by decide) (by decide)), fun _ => h, fun hc => absurd (by omega) hc⟩
    | succ r ih =>
      intro k a hk h
      obtain ⟨p, hp⟩ : ∃ p, T.2.2.1[k]? = some p := ⟨_, List.getElem?_eq_getElem (by omega)⟩
      obtain ⟨-, -, -, -, -, -, w2⟩ := WFP.bd hW hp
      obtain ⟨-, -, -, -, g33⟩ := hR.2.2.2.2.1 k p hp
      have hd : T.2.2.1.drop k = p :: T.2.2.1.drop (k + 1) := by
        obtain ⟨hk, e1⟩ := List.getElem?_eq_some_iff.mp hp
        rw [← List.getElem_cons_drop hk, e1]
      rw [hd, List.all_cons] at h
      obtain ⟨n', hn⟩ := ih (k + 1) (a && decide (p.2.2.2.2.1 = 0)) (by omega) (by rwa [Bool.and_assoc])
      refine ⟨n' + 1, ?_⟩
      simp only [Z_X12_isHeap_17, F_X12_isHeap_17, F_X12_isHeap_47, F_X12_isHeap_48, mfI_0, mpI_0, mfN_1, mfI_2, mpI_2, mfI_3, mpI_3, mfI_4, mpI_4, mfI_5, mpI_5, mfI_6, mpI_6, mfI_7, mpI_7, mfI_8, mpI_8, mfI_9, mpI_9, mfI_10, mpI_10, mfI_11, mpI_11, mfN_12, mfZ_13, mpZ_13, mfZ_14, mpZ_14, mfN_15, mfN_16, mfN_17, mfN_18, mfN_19, mfN_20, mfI_21, mpI_21, mfI_22, mpI_22, mfN_23, mfN_24, mfN_25, mfN_26, mfN_27, mfN_28, mfN_29, mfI_30, mpI_30, mfN_31, mfN_32, mfN_33, mfN_34, mfN_35, mfN_36, mfN_37, mfI_38, mpI_38, mfN_39, mfI_40, mpI_40, mfI_41, mpI_41, mgI_1 hA, msI_1 hA, mgI_12 hA, msI_12 hA, mgI_15 hA, msI_15 hA, mgI_16 hA, msI_16 hA, mgI_17 hA, msI_17 hA, mgI_18 hA, msI_18 hA, mgI_19 hA, msI_19 hA, mgI_20 hA, msI_20 hA, mgI_23 hA, msI_23 hA, mgI_24 hA, msI_24 hA, mgI_25 hA, msI_25 hA, mgI_26 hA, msI_26 hA, mgI_27 hA, msI_27 hA, mgI_28 hA, msI_28 hA, mgI_29 hA, msI_29 hA, mgI_31 hA, msI_31 hA, mgI_32 hA, msI_32 hA, mgI_33 hA, msI_33 hA, mgI_34 hA, msI_34 hA, mgI_35 hA, msI_35 hA, mgI_36 hA, msI_36 hA, mgI_39 hA, msI_39 hA, mgJ hA, msJ hA, show (4 : Int32).toNatClampNeg = 4 from rfl, g4, show (33 : Int32) + nI k = nI (33 + k) from nt_add 33 k, nI_clamp (show 33 + k < 2 ^ 31 by omega), g33, show nI k + 1 = nI (k + 1) from nt_add k 1]
      rw [nt_le (by omega) (by omega), nt_0 (show p.2.2.2.2.1 < 2 ^ 31 by omega)]
      refine ⟨(vin 4 (by decide) (by decide)), fun hc => by omega, fun _ => ⟨fun h1 => ?_, fun h1 => ⟨(nt_in (by omega)).mpr (by omega), fun h2 => ?_, fun h2 => ?_⟩⟩⟩
      · rw [h1, Bool.false_and] at hn; exact hn
      · rw [h1, decide_eq_false h2] at hn; exact hn
      · rw [h1, decide_eq_true h2] at hn; exact hn
  refine m_X12_isHeap rv_m ?_
  simp only [F_X12_isHeap, F_X12_isHeap_14, mfI_0, mpI_0, mfN_1, mfI_2, mpI_2, mfI_3, mpI_3, mfI_4, mpI_4, mfI_5, mpI_5, mfI_6, mpI_6, mfI_7, mpI_7, mfI_8, mpI_8, mfI_9, mpI_9, mfI_10, mpI_10, mfI_11, mpI_11, mfN_12, mfZ_13, mpZ_13, mfZ_14, mpZ_14, mfN_15, mfN_16, mfN_17, mfN_18, mfN_19, mfN_20, mfI_21, mpI_21, mfI_22, mpI_22, mfN_23, mfN_24, mfN_25, mfN_26, mfN_27, mfN_28, mfN_29, mfI_30, mpI_30, mfN_31, mfN_32, mfN_33, mfN_34, mfN_35, mfN_36, mfN_37, mfI_38, mpI_38, mfN_39, mfI_40, mpI_40, mfI_41, mpI_41, mgI_1 hA, msI_1 hA, mgI_12 hA, msI_12 hA, mgI_15 hA, msI_15 hA, mgI_16 hA, msI_16 hA, mgI_17 hA, msI_17 hA, mgI_18 hA, msI_18 hA, mgI_19 hA, msI_19 hA, mgI_20 hA, msI_20 hA, mgI_23 hA, msI_23 hA, mgI_24 hA, msI_24 hA, mgI_25 hA, msI_25 hA, mgI_26 hA, msI_26 hA, mgI_27 hA, msI_27 hA, mgI_28 hA, msI_28 hA, mgI_29 hA, msI_29 hA, mgI_31 hA, msI_31 hA, mgI_32 hA, msI_32 hA, mgI_33 hA, msI_33 hA, mgI_34 hA, msI_34 hA, mgI_35 hA, msI_35 hA, mgI_36 hA, msI_36 hA, mgI_39 hA, msI_39 hA, mgJ hA, msJ hA, show (1 : Int32).toNatClampNeg = 1 from rfl, hR.1.2.1]
  unfold hpT at h
  refine ⟨(vin 1 (by decide) (by decide)), fun h1 => hz T.2.2.1.length 0 false (by omega) (kif h ?_), fun h1 => hz T.2.2.1.length 0 true (by omega) (kif h ?_)⟩
  · cases e : T.1.2.1 with
    | true => rfl
    | false => rw [e] at h1; exact absurd rfl h1
  · cases e : T.1.2.1 with
    | true => rw [e] at h1; exact absurd h1 (by decide)
    | false => rfl
theorem s_X12_squaresOf (hA : okA m A) (hR : TR T (S.2.2.1 15)) (hW : WFT T) {k : Nat} {b : BD} (hk : T.2.1[k]? = some b) {K : Int32 → Hp → Prop} (h : K (nI (sqB b)) (mh m A S ρ)) : C_X12_squaresOf l G (d + 1) m (nI k) (mh m A S ρ) K := by
  obtain ⟨k3, w1, w2, w3, w4⟩ := WFB.bd hW hk
  obtain ⟨q1, q2⟩ := WFB.sq hW hk
  obtain ⟨g0, g1, g2⟩ := hR.2.2.2.1 k b hk
  have e0 : (13 + nI k : Int32) = nI (13 + k) := nt_add 13 k
  have e7 : (7 + nI k : Int32) = nI (7 + k) := nt_add 7 k
  have e10 : (10 + nI k : Int32) = nI (10 + k) := nt_add 10 k
  have hp : 2 ^ (b.1 * b.2.1) ≤ 2 ^ 14 := Nat.pow_le_pow_right (by decide) (by omega)
  have hp0 : 0 < 2 ^ (b.1 * b.2.1) := Nat.two_pow_pos _
  refine m_X12_squaresOf rv_m ?_
  simp only [F_X12_squaresOf, mfI_0, mpI_0, mfN_1, mfI_2, mpI_2, mfI_3, mpI_3, mfI_4, mpI_4, mfI_5, mpI_5, mfI_6, mpI_6, mfI_7, mpI_7, mfI_8, mpI_8, mfI_9, mpI_9, mfI_10, mpI_10, mfI_11, mpI_11, mfN_12, mfZ_13, mpZ_13, mfZ_14, mpZ_14, mfN_15, mfN_16, mfN_17, mfN_18, mfN_19, mfN_20, mfI_21, mpI_21, mfI_22, mpI_22, mfN_23, mfN_24, mfN_25, mfN_26, mfN_27, mfN_28, mfN_29, mfI_30, mpI_30, mfN_31, mfN_32, mfN_33, mfN_34, mfN_35, mfN_36, mfN_37, mfI_38, mpI_38, mfN_39, mfI_40, mpI_40, mfI_41, mpI_41, mgI_1 hA, msI_1 hA, mgI_12 hA, msI_12 hA, mgI_15 hA, msI_15 hA, mgI_16 hA, msI_16 hA, mgI_17 hA, msI_17 hA, mgI_18 hA, msI_18 hA, mgI_19 hA, msI_19 hA, mgI_20 hA, msI_20 hA, mgI_23 hA, msI_23 hA, mgI_24 hA, msI_24 hA, mgI_25 hA, msI_25 hA, mgI_26 hA, msI_26 hA, mgI_27 hA, msI_27 hA, mgI_28 hA, msI_28 hA, mgI_29 hA, msI_29 hA, mgI_31 hA, msI_31 hA, mgI_32 hA, msI_32 hA, mgI_33 hA, msI_33 hA, mgI_34 hA, msI_34 hA, mgI_35 hA, msI_35 hA, mgI_36 hA, msI_36 hA, mgI_39 hA, msI_39 hA, mgJ hA, msJ hA, e0, e7, e10, nI_clamp (show 7 + k < 2 ^ 31 by omega), nI_clamp (show 10 + k < 2 ^ 31 by omega), nI_clamp (show 13 + k < 2 ^ 31 by omega), g0, g1, g2, nt_mul]
  rw [nt_one (by omega), show (nI (2 ^ (b.1 * b.2.1)) - 1 : Int32) = nI (2 ^ (b.1 * b.2.1) - 1) from nt_sub (b := 1) (by omega) (by omega), nt_sh5 (by omega), nt_shl _ (by omega)]
  exact ⟨(nt_in (by omega)).mpr (by omega), (nt_in (by omega)).mpr (by omega), (nt_in (by omega)).mpr (by omega), h⟩
theorem s_X12_isHalf (hA : okA m A) (hR : TR T (S.2.2.1 15)) (hW : WFT T) {k : Nat} {b : BD} (hk : T.2.1[k]? = some b) {tk : Nat} (htk : tk < 16384) {K : Bool → Hp → Prop} (h : K (hfB T b tk) (mh m A S ρ)) : C_X12_isHalf l G (d + 3) m (nI k) (nI tk) (mh m A S ρ) K := by
  have hj : T.2.2.2 < 2 ^ 14 := Nat.lt_of_lt_of_le hW.2.2 (Nat.pow_le_pow_right (by decide) hW.1.2.1)
  have h1 : (tk ||| T.2.2.2) &&& sqB b < 2 ^ 14 := Nat.lt_of_le_of_lt Nat.and_le_left (Nat.or_lt_two_pow (n := 14) htk hj)
  have h2 : T.2.2.2 &&& sqB b < 2 ^ 14 := Nat.lt_of_le_of_lt Nat.and_le_left hj
  obtain ⟨q1, q2⟩ := WFB.sq hW hk
  have l1 : ∀ sq, hr b sq < 2 ^ 14 := fun sq => hrN_lt (by omega) _ 0 0 (by omega) (by decide)
  have l2 := l1 ((tk ||| T.2.2.2) &&& sqB b)
  have l3 := l1 (T.2.2.2 &&& sqB b)
  refine m_X12_isHalf rv_m ?_
  simp only [F_X12_isHalf, F_X12_isHalf_57, F_X12_isHalf_58, mfI_0, mpI_0, mfN_1, mfI_2, mpI_2, mfI_3, mpI_3, mfI_4, mpI_4, mfI_5, mpI_5, mfI_6, mpI_6, mfI_7, mpI_7, mfI_8, mpI_8, mfI_9, mpI_9, mfI_10, mpI_10, mfI_11, mpI_11, mfN_12, mfZ_13, mpZ_13, mfZ_14, mpZ_14, mfN_15, mfN_16, mfN_17, mfN_18, mfN_19, mfN_20, mfI_21, mpI_21, mfI_22, mpI_22, mfN_23, mfN_24, mfN_25, mfN_26, mfN_27, mfN_28, mfN_29, mfI_30, mpI_30, mfN_31, mfN_32, mfN_33, mfN_34, mfN_35, mfN_36, mfN_37, mfI_38, mpI_38, mfN_39, mfI_40, mpI_40, mfI_41, mpI_41, mgI_1 hA, msI_1 hA, mgI_12 hA, msI_12 hA, mgI_15 hA, msI_15 hA, mgI_16 hA, msI_16 hA, mgI_17 hA, msI_17 hA, mgI_18 hA, msI_18 hA, mgI_19 hA, msI_19 hA, mgI_20 hA, msI_20 hA, mgI_23 hA, msI_23 hA, mgI_24 hA, msI_24 hA, mgI_25 hA, msI_25 hA, mgI_26 hA, msI_26 hA, mgI_27 hA, msI_27 hA, mgI_28 hA, msI_28 hA, mgI_29 hA, msI_29 hA, mgI_31 hA, msI_31 hA, mgI_32 hA, msI_32 hA, mgI_33 hA, msI_33 hA, mgI_34 hA, msI_34 hA, mgI_35 hA, msI_35 hA, mgI_36 hA, msI_36 hA, mgI_39 hA, msI_39 hA, mgJ hA, msJ hA, show (16 : Int32).toNatClampNeg = 16 from rfl, hR.2.2.1.2]
  refine ⟨(vin 16 (by decide) (by decide)), s_X12_squaresOf (d := d + 1) hA hR hW hk ?_⟩
  simp only [mfI_0, mpI_0, mfN_1, mfI_2, mpI_2, mfI_3, mpI_3, mfI_4, mpI_4, mfI_5, mpI_5, mfI_6, mpI_6, mfI_7, mpI_7, mfI_8, mpI_8, mfI_9, mpI_9, mfI_10, mpI_10, mfI_11, mpI_11, mfN_12, mfZ_13, mpZ_13, mfZ_14, mpZ_14, mfN_15, mfN_16, mfN_17, mfN_18, mfN_19, mfN_20, mfI_21, mpI_21, mfI_22, mpI_22, mfN_23, mfN_24, mfN_25, mfN_26, mfN_27, mfN_28, mfN_29, mfI_30, mpI_30, mfN_31, mfN_32, mfN_33, mfN_34, mfN_35, mfN_36, mfN_37, mfI_38, mpI_38, mfN_39, mfI_40, mpI_40, mfI_41, mpI_41, mgI_1 hA, msI_1 hA, mgI_12 hA, msI_12 hA, mgI_15 hA, msI_15 hA, mgI_16 hA, msI_16 hA, mgI_17 hA, msI_17 hA, mgI_18 hA, msI_18 hA, mgI_19 hA, msI_19 hA, mgI_20 hA, msI_20 hA, mgI_23 hA, msI_23 hA, mgI_24 hA, msI_24 hA, mgI_25 hA, msI_25 hA, mgI_26 hA, msI_26 hA, mgI_27 hA, msI_27 hA, mgI_28 hA, msI_28 hA, mgI_29 hA, msI_29 hA, mgI_31 hA, msI_31 hA, mgI_32 hA, msI_32 hA, mgI_33 hA, msI_33 hA, mgI_34 hA, msI_34 hA, mgI_35 hA, msI_35 hA, mgI_36 hA, msI_36 hA, mgI_39 hA, msI_39 hA, mgJ hA, msJ hA, show (16 : Int32).toNatClampNeg = 16 from rfl, hR.2.2.1.2]
  refine ⟨(vin 16 (by decide) (by decide)), s_X12_squaresOf (d := d + 1) hA hR hW hk ?_⟩
  rw [nt_or, nt_and, nt_and]
  refine s_X12_halfRound (d := d) hA hR hW hk (by omega) ?_
  rw [nt_eq (by omega) (by omega)]
  unfold hfB at h
  refine ⟨fun h3 => kif h (by simp [h3]), fun h3 => s_X12_halfRound (d := d) hA hR hW hk (by omega) ?_⟩
  rw [nt_eq (by omega) (by omega)]
  exact ⟨fun h4 => kif h (by simp [h4]), fun h4 => kif h (by simp [h3, h4])⟩
theorem acr_lt {e : LY} {o : Nat} (h : acr T L e = some o) : ∃ eo, L[o]? = some eo := by
  have := mAt_lt L 0 0 o h
  exact ⟨_, List.getElem?_eq_getElem (by omega)⟩
theorem s_X12_isAnswered (hA : okA m A) (hR : TR T (S.2.2.1 15)) (hW : WFT T) (hL : LR L S) (hV : VL T L) {tk who : Nat} (htk : tk < 16384) (hwho : who < 2) {K : Bool → Hp → Prop} (h : K (ansS T L tk who) (mh m A S ρ)) : C_X12_isAnswered l G (d + 4) m (nI (sd tk who)) (mh m A S ρ) K := by
  have h224 := hL.1
  have hz : ∀ r k, k + r = L.length → K (((L.drop k).filter fun e => myE T e tk who).all (ansE T L)) (mh m A S ρ) → Z_X12_isAnswered_2 l G (d + 3) K (r + 1) m (nI (sd tk who)) (nI k) (mh m A S ρ) := by
    intro r
    induction r with
    | zero =>
      intro k hk h
      simp only [Z_X12_isAnswered_2, F_X12_isAnswered_2, mfI_0, mpI_0, mfN_1, mfI_2, mpI_2, mfI_3, mpI_3, mfI_4, mpI_4, mfI_5, mpI_5, mfI_6, mpI_6, mfI_7, mpI_7, mfI_8, mpI_8, mfI_9, mpI_9, mfI_10, mpI_10, mfI_11, mpI_11, mfN_12, mfZ_13, mpZ_13, mfZ_14, mpZ_14, mfN_15, mfN_16, mfN_17, mfN_18, mfN_19, mfN_20, mfI_21, mpI_21, mfI_22, mpI_22, mfN_23, mfN_24, mfN_25, mfN_26, mfN_27, mfN_28, mfN_29, mfI_30, mpI_30, mfN_31, mfN_32, mfN_33, mfN_34, mfN_35, mfN_36, mfN_37, mfI_38, mpI_38, mfN_39, mfI_40, mpI_40, mfI_41, mpI_41, hL.2.1]
      rw [nt_le (by omega) (by omega)]
      rw [List.drop_eq_nil_of_le (by omega)] at h
      exact ⟨fun _ => h, fun hc => absurd (by omega) hc⟩
    | succ r ih =>
      intro k hk h
      obtain ⟨e, he⟩ : ∃ e, L[k]? = some e := ⟨_, List.getElem?_eq_getElem (by omega)⟩
      obtain ⟨⟨p, hp⟩, -, v1, v2, v3⟩ := hV k e he
      obtain ⟨-, -, -, -, -, g5, g6⟩ := hL.2.2 k e he
      rw [drop_at he, List.filter_cons] at h
      have e1 : nI k + 1 = nI (k + 1) := nt_add k 1
      have hin2 : vp_in (nI k) 224 := (nt_in (by omega)).mpr (by omega)
      rw [show r + 1 + 1 = (r + 1) + 1 from rfl, Z_X12_isAnswered_2]
      simp only [F_X12_isAnswered_2, F_X12_isAnswered_74, F_X12_isAnswered_76, mfI_0, mpI_0, mfN_1, mfI_2, mpI_2, mfI_3, mpI_3, mfI_4, mpI_4, mfI_5, mpI_5, mfI_6, mpI_6, mfI_7, mpI_7, mfI_8, mpI_8, mfI_9, mpI_9, mfI_10, mpI_10, mfI_11, mpI_11, mfN_12, mfZ_13, mpZ_13, mfZ_14, mpZ_14, mfN_15, mfN_16, mfN_17, mfN_18, mfN_19, mfN_20, mfI_21, mpI_21, mfI_22, mpI_22, mfN_23, mfN_24, mfN_25, mfN_26, mfN_27, mfN_28, mfN_29, mfI_30, mpI_30, mfN_31, mfN_32, mfN_33, mfN_34, mfN_35, mfN_36, mfN_37, mfI_38, mpI_38, mfN_39, mfI_40, mpI_40, mfI_41, mpI_41, mgI_1 hA, msI_1 hA, mgI_12 hA, msI_12 hA, mgI_15 hA, msI_15 hA, mgI_16 hA, msI_16 hA, mgI_17 hA, msI_17 hA, mgI_18 hA, msI_18 hA, mgI_19 hA, msI_19 hA, mgI_20 hA, msI_20 hA, mgI_23 hA, msI_23 hA, mgI_24 hA, msI_24 hA, mgI_25 hA, msI_25 hA, mgI_26 hA, msI_26 hA, mgI_27 hA, msI_27 hA, mgI_28 hA, msI_28 hA, mgI_29 hA, msI_29 hA, mgI_31 hA, msI_31 hA, mgI_32 hA, msI_32 hA, mgI_33 hA, msI_33 hA, mgI_34 hA, msI_34 hA, mgI_35 hA, msI_35 hA, mgI_36 hA, msI_36 hA, mgI_39 hA, msI_39 hA, mgJ hA, msJ hA, hL.2.1, e1, nI_clamp (show k < 2 ^ 31 by omega), g5, g6, show (2 : Int32).toNatClampNeg = 2 from rfl, hR.1.2.2]
      rw [nt_le (by omega) (by omega)]
      refine ⟨fun hc => by omega, fun _ => s_X12_mayBe (d := d) hA hR hW hL he hp htk hwho ⟨fun hm => ?_, fun hm => ?_⟩⟩
      · rw [if_pos hm, List.all_cons] at h
        refine s_X12_acrossOf (d := d) hA hR hW hL hV he ?_
        cases ha : acr T L e with
        | none =>
          have h0 : ansE T L e = false := by simp [ansE, ha]
          exact ⟨fun _ => kif h (by rw [h0, Bool.false_and]), fun hc => absurd (by decide) hc⟩
        | some o =>
          obtain ⟨eo, ho⟩ := acr_lt ha
          have hol := (List.getElem?_eq_some_iff.mp ho).1
          obtain ⟨-, -, -, -, -, o5, -⟩ := hL.2.2 o eo ho
          obtain ⟨-, -, u1, u2, -⟩ := hV o eo ho
          have hE : ansE T L e = (decide (eS eo &&& eS e = 0) && (!T.1.2.2 || decide (e.2.2.2.2.2.2 &&& eS eo = 0))) := by simp only [ansE, ha, sqN_at ho]
          have hin3 : vp_in (nI o) 224 := (nt_in (by omega)).mpr (by omega)
          simp only [mfI_0, mpI_0, mfN_1, mfI_2, mpI_2, mfI_3, mpI_3, mfI_4, mpI_4, mfI_5, mpI_5, mfI_6, mpI_6, mfI_7, mpI_7, mfI_8, mpI_8, mfI_9, mpI_9, mfI_10, mpI_10, mfI_11, mpI_11, mfN_12, mfZ_13, mpZ_13, mfZ_14, mpZ_14, mfN_15, mfN_16, mfN_17, mfN_18, mfN_19, mfN_20, mfI_21, mpI_21, mfI_22, mpI_22, mfN_23, mfN_24, mfN_25, mfN_26, mfN_27, mfN_28, mfN_29, mfI_30, mpI_30, mfN_31, mfN_32, mfN_33, mfN_34, mfN_35, mfN_36, mfN_37, mfI_38, mpI_38, mfN_39, mfI_40, mpI_40, mfI_41, mpI_41, mgI_1 hA, msI_1 hA, mgI_12 hA, msI_12 hA, mgI_15 hA, msI_15 hA, mgI_16 hA, msI_16 hA, mgI_17 hA, msI_17 hA, mgI_18 hA, msI_18 hA, mgI_19 hA, msI_19 hA, mgI_20 hA, msI_20 hA, mgI_23 hA, msI_23 hA, mgI_24 hA, msI_24 hA, mgI_25 hA, msI_25 hA, mgI_26 hA, msI_26 hA, mgI_27 hA, msI_27 hA, mgI_28 hA, msI_28 hA, mgI_29 hA, msI_29 hA, mgI_31 hA, msI_31 hA, mgI_32 hA, msI_32 hA, mgI_33 hA, msI_33 hA, mgI_34 hA, msI_34 hA, mgI_35 hA, msI_35 hA, mgI_36 hA, msI_36 hA, mgI_39 hA, msI_39 hA, mgJ hA, msJ hA, optF, nI_clamp (show k < 2 ^ 31 by omega), g5, g6, show (2 : Int32).toNatClampNeg = 2 from rfl, hR.1.2.2, nI_clamp (show o < 2 ^ 31 by omega), o5]
          rw [nt_and0 (by omega), nt_and0 (by omega)]
          refine ⟨fun hc => absurd hc (nt_neg (by omega)), fun _ => ⟨hin3, hin2, fun h1 => kif h (by rw [hE]; simp [h1]), fun h1 => ⟨(vin 2 (by decide) (by decide)), fun h2 => ?_, fun h2 => ⟨hin2, hin3, fun h3 => ?_, fun h3 => kif h ?_⟩⟩⟩⟩
          · have h2' : T.1.2.2 = false := by
              cases e2 : T.1.2.2 with
              | true => rw [e2] at h2; exact absurd rfl h2
              | false => rfl
            rw [hE, h2'] at h
            exact ih (k + 1) (by omega) (kif h (by simp [h1]))
          · rw [hE] at h
            exact ih (k + 1) (by omega) (kif h (by simp [h1, h3]))
          · have h2' : T.1.2.2 = true := by
              cases e2 : T.1.2.2 with
              | true => rfl
              | false => rw [e2] at h2; exact absurd h2 (by decide)
            rw [hE]; simp [h2', h3]
      · rw [if_neg (by rw [hm]; decide)] at h
        exact ih (k + 1) (by omega) h
  refine m_X12_isAnswered rv_m ?_
  simp only [F_X12_isAnswered]
  exact ⟨L.length + 1, hz L.length 0 (by omega) (by simpa [ansS, mvs] using h)⟩
end ACR
