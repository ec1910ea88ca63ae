/-! BUILDING a table: makeLays as a whole -/
section MKM
variable {l : Launch} {G : GG} {d mc ms : Nat} {W : Nat → Prop} {σ0 σ : Hp} {X : TX} {dB dP la fo q : Nat} {T : TB} {xl : Nat → Nat} {g : Nat → Option Nat}
/-- the lays lie in their array, across told or not -/
def LAY (T : TB) (X : TX) (σ : Hp) (q : Nat) (g : Nat → Option Nat) (xl : Nat → Nat) (tu : Nat → Option Nat) : Prop := σ q = some (rA 3 (allL T).length g) ∧ (∀ i, i < (allL T).length → g i = some (xl i)) ∧ ∀ (i : Nat) e, (allL T)[i]? = some e → σ (xl i) = some (LYc T i (xp X e.1) (xb X e.2.1) e (tu i))
theorem s_X8_turnedHalfRound (h0 : TBb G W σ X dB dP true q T) (hW : WFT T) {tu : Nat → Option Nat} (hl : LAY T X σ q g xl tu) {c : Nat} {e : LY} (he : (allL T)[c]? = some e) {K : Option Nat → Hp → Prop} (hK : K ((acr T (allL T) e).map xl) σ) : C_X8_turnedHalfRound l G (d + 4) (xT X) (xl c) σ K := by
  have h224 := allL_224 hW
  obtain ⟨l1, l2, l3⟩ := hl
  have hV := allL_VL hW
  obtain ⟨⟨p, hp⟩, ⟨b, hb⟩, v3, v4, v5⟩ := hV c e he
  have hc := l3 c e he
  have hBB := hW.BB hb
  refine m_X8_turnedHalfRound (rv_at h0.1.2 ⟨_, rfl⟩) ?_
  simp only [F_X8_turnedHalfRound, fI_at (hc), fZ_at (hc), fJ_at (hc), fR_at (hc), fN_at (hc), pF_at (hc), rI2_0, rP2_0, rR2_1, rN2_1, rP2_1, rR2_2, rN2_2, rP2_2, rI2_3, rP2_3, rI2_4, rP2_4, rI2_5, rP2_5, rI2_6, rP2_6, rI2_7, rP2_7, rR2_8, rN2_8, rP2_8]
  refine s_X0_turnedHalfRound (d := d + 1) hBB (h0.2.2.2.2.1 _ b hb).2 (show eS e < 2 ^ 31 by unfold eS; omega) ?_
  have hlt := hrN_lt (f := b.2.2.1) (al := b.1 * b.2.1) (sq := eS e) hBB.2.2.2.2 (b.1 * b.2.1) 0 0 (by omega) (by decide)
  have hhr : hrE T e.2.1 (eS e) = hr b (eS e) := by unfold hrE; rw [hb]
  simp only [fI_at (h0.1.2), fZ_at (h0.1.2), fJ_at (h0.1.2), fR_at (h0.1.2), fN_at (h0.1.2), pF_at (h0.1.2), rZ8_0, rP8_0, rZ8_1, rP8_1, rZ8_2, rP8_2, rR8_3, rN8_3, rP8_3, rR8_4, rN8_4, rP8_4, rI8_5, rP8_5, rI8_6, rP8_6, rZ8_7, rP8_7, rR8_8, rN8_8, rP8_8, aL_r l1]
  have hz : ∀ r i, i + r = (allL T).length → K ((mAt (acE T e) ((allL T).drop i) i 0).map xl) σ → Z_X8_turnedHalfRound_24 l G (d + 3) K (r + 1) (xl c) (nI (hr b (eS e))) q (nI (allL T).length) (nI i) σ := by
    intro r
    induction r with
    | zero =>
      intro i hi hx
      rw [List.drop_eq_nil_of_le (by omega)] at hx
      simp only [Z_X8_turnedHalfRound_24, F_X8_turnedHalfRound_24]
      rw [nt_le (by omega) (by omega)]
      exact ⟨fun _ => hx, fun hc => absurd (by omega) hc⟩
    | succ r ih =>
      intro i hi hx
      obtain ⟨o, ho⟩ : ∃ o, (allL T)[i]? = some o := ⟨_, List.getElem?_eq_getElem (by omega)⟩
      rw [drop_at ho] at hx
      simp only [mAt, if_true] at hx
      have hco := l3 i o ho
      obtain ⟨⟨p', hp'⟩, ⟨b', hb'⟩, w3, w4, w5⟩ := hV i o ho
      rw [show r + 1 + 1 = (r + 1) + 1 from rfl, Z_X8_turnedHalfRound_24]
      simp only [F_X8_turnedHalfRound_24, F_X8_turnedHalfRound_73, show nI i + 1 = nI (i + 1) from nt_add i 1]
      rw [nt_le (by omega) (by omega)]
      have hno : acE T e o = false → Z_X8_turnedHalfRound_24 l G (d + 3) K (r + 1) (xl c) (nI (hr b (eS e))) q (nI (allL T).length) (nI (i + 1)) σ := fun hf => ih (i + 1) (by omega) (by rwa [if_neg (by rw [hf]; decide)] at hx)
      refine ⟨fun hc => by omega, fun _ => ⟨_, _, xl i, l1, (nt_in (by omega)).mpr (by omega), by rw [nI_clamp (show i < 2 ^ 31 by omega)]; exact l2 i (by omega), ?_⟩⟩
      simp only [fI_at (hco), fZ_at (hco), fJ_at (hco), fR_at (hco), fN_at (hco), pF_at (hco), fI_at (hc), fZ_at (hc), fJ_at (hc), fR_at (hc), fN_at (hc), pF_at (hc), rI2_0, rP2_0, rR2_1, rN2_1, rP2_1, rR2_2, rN2_2, rP2_2, rI2_3, rP2_3, rI2_4, rP2_4, rI2_5, rP2_5, rI2_6, rP2_6, rI2_7, rP2_7, rR2_8, rN2_8, rP2_8, Option.some.injEq]
      refine ⟨fun n1 => hno ?_, fun n1 => ⟨fun n2 => hno ?_, fun n2 => ⟨fun n3 => hno ?_, fun n3 => ?_⟩⟩⟩
      · unfold acE; rw [decide_eq_false (show ¬ o.1 = e.1 from fun hc => n1 (by rw [hc])), Bool.false_and]
      · unfold acE; rw [decide_eq_false (show ¬ o.2.1 = e.2.1 from fun hc => n2 (by rw [hc])), Bool.false_and, Bool.and_false]
      · rw [nt_eq (show eS o < 2 ^ 31 by unfold eS; omega) (show hr b (eS e) < 2 ^ 31 by unfold hr; omega)] at n3
        unfold acE; rw [hhr, decide_eq_false n3, Bool.and_false, Bool.and_false]
      · rw [nt_eq (show eS o < 2 ^ 31 by unfold eS; omega) (show hr b (eS e) < 2 ^ 31 by unfold hr; omega)] at n3
        have e1 := h0.pinj hW hp' hp n1
        have e2 := h0.binj hW hb' hb n2
        have ht : acE T e o = true := by unfold acE; rw [hhr, decide_eq_true e1, decide_eq_true e2, decide_eq_true n3]; rfl
        rw [if_pos ht] at hx
        exact hx
  exact ⟨_, hz (allL T).length 0 (by omega) hK⟩
theorem TBb.kg {mk : Bool} {la : Nat} (h : TBb G W σ0 X dB dP mk la T) {S : Nat → Prop} (hk : Kp S σ0 σ) (hn : ∀ {z t}, tg σ0 z t → (t = 8 ∨ t = 13 ∨ t = 100 ∨ t = 0 ∨ t = 5) → ¬ S z) : TBb G W σ X dB dP mk la T := by
  obtain ⟨t1, ⟨t2, t3⟩, ⟨t4, t5⟩, t6, t7⟩ := h.tt
  obtain ⟨⟨a1, a2⟩, ⟨b1, b2, b3⟩, ⟨c1, c2, c3⟩, d1, e1, f1⟩ := h
  refine ⟨⟨a1, hk.at a2 (hn t1 (by decide))⟩, ⟨b1, b2, b3.kp hk (hn t2 (by decide)) (hn t3 (by decide)) fun i hi => ?_⟩, ⟨c1, c2, c3.kp hk (hn t4 (by decide)) (hn t5 (by decide)) fun i hi => ?_⟩, d1, fun k b hb => ⟨(e1 k b hb).1, hk.at (e1 k b hb).2 (hn (t6 k b hb) (by decide))⟩, fun k p hp => ⟨(f1 k p hp).1, hk.at (f1 k p hp).2 (hn (t7 k p hp) (by decide))⟩⟩
  · obtain ⟨b, hb⟩ : ∃ b, T.2.1[i]? = some b := ⟨_, List.getElem?_eq_getElem hi⟩
    exact hn (t6 i b hb) (by decide)
  · obtain ⟨b, hb⟩ : ∃ b, T.2.2.1[i]? = some b := ⟨_, List.getElem?_eq_getElem hi⟩
    exact hn (t7 i b hb) (by decide)
theorem TBb.kt {mk : Bool} {la : Nat} (h : TBb G W σ0 X dB dP mk la T) {S : Nat → Prop} (hk : Kp S σ0 σ) (hS : ∀ z, S z → tg σ0 z 2) : TBb G W σ X dB dP mk la T := h.kg hk fun {z t} hz ht hc => tg_ne hz (hS z hc) (by omega) rfl
theorem TBb.k9 {mk : Bool} {la : Nat} (h : TBb G W σ0 X dB dP mk la T) {S : Nat → Prop} (hk : Kp S σ0 σ) (hS : ∀ z, S z → tg σ0 z 9 ∨ tg σ0 z 10) : TBb G W σ X dB dP mk la T := h.kg hk fun {z t} hz ht hc => (hS z hc).elim (fun h => tg_ne hz h (by omega) rfl) fun h => tg_ne hz h (by omega) rfl
/-- the table's own cell changed -/
theorem TBb.sT {mk mk' : Bool} {la la' : Nat} {T' : TB} (h : TBb G W σ0 X dB dP mk la T) (hk : Kp (fun z => z = xT X) σ0 σ) (h1 : T'.2.1 = T.2.1) (h2 : T'.2.2.1 = T.2.2.1) (hc : σ (xT X) = some (O8 T'.1.1 T'.1.2.1 T'.1.2.2 (some (xB X)) (some (xP X)) (nI (nsq T'.2.1)) (nI T'.2.2.2) mk' (some la'))) : TBb G W σ X dB dP mk' la' T' := by
  obtain ⟨t1, ⟨t2, t3⟩, ⟨t4, t5⟩, t6, t7⟩ := h.tt
  obtain ⟨⟨a1, a2⟩, ⟨b1, b2, b3⟩, ⟨c1, c2, c3⟩, d1, e1, f1⟩ := h
  have hn : ∀ {z t}, tg σ0 z t → t ≠ 8 → ¬ z = xT X := fun {z t} hz ht hc => tg_ne hz t1 ht hc
  refine ⟨⟨a1, hc⟩, ⟨b1, b2, ?_⟩, ⟨c1, c2, ?_⟩, d1, ?_, ?_⟩
  · rw [h1]
    refine b3.kp hk (hn t2 (by decide)) (hn t3 (by decide)) fun i hi => ?_
    obtain ⟨b, hb⟩ : ∃ b, T.2.1[i]? = some b := ⟨_, List.getElem?_eq_getElem hi⟩
    exact hn (t6 i b hb) (by decide)
  · rw [h2]
    refine c3.kp hk (hn t4 (by decide)) (hn t5 (by decide)) fun i hi => ?_
    obtain ⟨b, hb⟩ : ∃ b, T.2.2.1[i]? = some b := ⟨_, List.getElem?_eq_getElem hi⟩
    exact hn (t7 i b hb) (by decide)
  · rw [h1]
    exact fun k b hb => ⟨(e1 k b hb).1, hk.at (e1 k b hb).2 (hn (t6 k b hb) (by decide))⟩
  · rw [h2]
    exact fun k p hp => ⟨(f1 k p hp).1, hk.at (f1 k p hp).2 (hn (t7 k p hp) (by decide))⟩
theorem LAY.inj {tu : Nat → Option Nat} (hW : WFT T) (h : LAY T X σ q g xl tu) {i j : Nat} {e f : LY} (hi : (allL T)[i]? = some e) (hj : (allL T)[j]? = some f) (e1 : xl i = xl j) : i = j := by
  have h224 := allL_224 hW
  have l1 := (List.getElem?_eq_some_iff.mp hi).1
  have l2 := (List.getElem?_eq_some_iff.mp hj).1
  have a := h.2.2 i e hi
  have b := h.2.2 j f hj
  rw [e1, b] at a
  have a' := Option.some.inj a
  simp only [LYc, O2, Sum.inl.injEq, Prod.mk.injEq, true_and, List.cons.injEq] at a'
  exact ((nt_eq (by omega) (by omega)).mp a'.1).symm
theorem z_mk147 (h0 : TBb G W σ0 X dB dP true q T) (hW : WFT T) (hxl : ∀ i, i < (allL T).length → tg σ0 (xl i) 2) {K : Hp → Prop} (hK : ∀ σ', Kp (fun z => ∃ i, i < (allL T).length ∧ z = xl i) σ0 σ' → LAY T X σ' q g xl (fun i => ((allL T)[i]?).bind fun e => (acr T (allL T) e).map xl) → K σ') : ∀ r c σ bc bs, c + r = (allL T).length → Kp (fun z => ∃ i, i < (allL T).length ∧ z = xl i) σ0 σ → LAY T X σ q g xl (fun i => if i < c then ((allL T)[i]?).bind fun e => (acr T (allL T) e).map xl else none) → Z_X8_makeLays_147 l G (d + 4) K (r + 1) (xT X) q (nI (allL T).length) (nI c) σ bc bs := by
  have h224 := allL_224 hW
  have hS : ∀ z, (∃ i, i < (allL T).length ∧ z = xl i) → tg σ0 z 2 := by
    rintro z ⟨i, hi, rfl⟩
    exact hxl i hi
  intro r
  induction r with
  | zero =>
    intro c σ bc bs hc hk hl
    simp only [Z_X8_makeLays_147, F_X8_makeLays_147]
    rw [nt_le (by omega) (by omega)]
    refine ⟨fun _ => hK σ hk ⟨hl.1, hl.2.1, fun i e he => ?_⟩, fun hc => absurd (by omega) hc⟩
    have h1 := hl.2.2 i e he
    have h2 := (List.getElem?_eq_some_iff.mp he).1
    dsimp only at h1 ⊢
    rw [if_pos (by omega)] at h1
    exact h1
  | succ r ih =>
    intro c σ bc bs hc hk hl
    obtain ⟨e, he⟩ : ∃ e, (allL T)[c]? = some e := ⟨_, List.getElem?_eq_getElem (by omega)⟩
    have hce := hl.2.2 c e he
    have hT := h0.kt hk hS
    rw [show r + 1 + 1 = (r + 1) + 1 from rfl, Z_X8_makeLays_147]
    simp only [F_X8_makeLays_147, show nI c + 1 = nI (c + 1) from nt_add c 1]
    rw [nt_le (by omega) (by omega)]
    refine ⟨fun hc => by omega, fun _ => ⟨_, _, xl c, hl.1, (nt_in (by omega)).mpr (by omega), by rw [nI_clamp (show c < 2 ^ 31 by omega)]; exact hl.2.1 c (by omega), ?_⟩⟩
    refine s_X8_turnedHalfRound (d := d) hT hW hl he ?_
    simp only [pF_at hce, rI2_0, rP2_0, rR2_1, rN2_1, rP2_1, rR2_2, rN2_2, rP2_2, rI2_3, rP2_3, rI2_4, rP2_4, rI2_5, rP2_5, rI2_6, rP2_6, rI2_7, rP2_7, rR2_8, rN2_8, rP2_8]
    have hqc : q ≠ xl c := tg_ne ⟨_, hl.1, rfl⟩ ⟨_, hce, rfl⟩ (by show (100 : Nat) ≠ 2; decide)
    refine ih (c + 1) _ bc bs (by omega) (hk.sset fun _ => ⟨c, by omega, rfl⟩) ⟨by rw [hset_ne hqc]; exact hl.1, hl.2.1, fun i f hf => ?_⟩
    by_cases hic : i = c
    · subst hic
      rw [he] at hf
      cases hf
      dsimp only
      rw [hset_eq, if_pos (by omega), he]
      rfl
    · rw [hset_ne fun e2 => hic (hl.inj hW hf he e2), hl.2.2 i f hf]
      dsimp only
      by_cases h5 : i < c
      · rw [if_pos h5, if_pos (by omega)]
      · rw [if_neg h5, if_neg (by omega)]
theorem z_mk36 (h0 : TBb G W σ0 X dB dP true la T) (hE : σ0 (gE G) ≠ none) (hW : WFT T) {pi : Nat} {p : PC} (hp : T.2.2.1[pi]? = some p) {X23 : Nat → Nat → Int32 → Hp → Nat → Nat → Prop} {K : Hp → Prop} : ∀ r k L xl dF σ bc bs, k + r = T.2.1.length → LYI G σ0 σ T X fo dF L xl → L.length + (lbL T pi p r k).length ≤ 224 → 2 * (lbL T pi p r k).length ≤ bc → 9 * (lbL T pi p r k).length + bdS (L.length + (lbL T pi p r k).length) ≤ bs + bdS L.length →
    (∀ σ' xl' dF' bc' bs', LYI G σ0 σ' T X fo dF' (L ++ lbL T pi p r k) xl' → bc = bc' + 2 * (lbL T pi p r k).length → bs + bdS L.length = bs' + 9 * (lbL T pi p r k).length + bdS (L.length + (lbL T pi p r k).length) → X23 (xT X) fo (nI pi + 1) σ' bc' bs') →
    Z_X8_makeLays_36 l G (d + 11) X23 K (r + 1) (xT X) fo (nI pi) (nI k) σ bc bs := by
  have h3 := hW.1.1
  have h4 := hW.2.1.1
  have hpi := (List.getElem?_eq_some_iff.mp hp).1
  intro r
  induction r with
  | zero =>
    intro k L xl dF σ bc bs hk hL h1 h2 h3' hX
    have hT := h0.kp hL.1 fun _ _ hc => hc
    simp only [Z_X8_makeLays_36, F_X8_makeLays_36, fN_at hT.1.2, rZ8_0, rP8_0, rZ8_1, rP8_1, rZ8_2, rP8_2, rR8_3, rN8_3, rP8_3, rR8_4, rN8_4, rP8_4, rI8_5, rP8_5, rI8_6, rP8_6, rZ8_7, rP8_7, rR8_8, rN8_8, rP8_8]
    refine s_size (d := d + 10) (hT.lb hW) ?_
    rw [nt_le (by omega) (by omega)]
    simp only [lbL, List.append_nil, List.length_nil, Nat.mul_zero, Nat.add_zero] at hX
    refine ⟨fun _ => ?_, fun hc => absurd (by omega) hc⟩
    have := hX σ xl dF bc bs hL rfl rfl
    exact this
  | succ r ih =>
    intro k L xl dF σ bc bs hk hL h1 h2 h3' hX
    have hT := h0.kp hL.1 fun _ _ hc => hc
    obtain ⟨b, hb⟩ : ∃ b, T.2.1[k]? = some b := ⟨_, List.getElem?_eq_getElem (by omega)⟩
    simp only [lbL, hb, List.length_append] at h1 h2 h3' hX
    rw [show r + 1 + 1 = (r + 1) + 1 from rfl, Z_X8_makeLays_36]
    simp only [F_X8_makeLays_36, fN_at hT.1.2, rZ8_0, rP8_0, rZ8_1, rP8_1, rZ8_2, rP8_2, rR8_3, rN8_3, rP8_3, rR8_4, rN8_4, rP8_4, rI8_5, rP8_5, rI8_6, rP8_6, rZ8_7, rP8_7, rR8_8, rN8_8, rP8_8, show nI k + 1 = nI (k + 1) from nt_add k 1]
    refine s_size (d := d + 10) (hT.lb hW) ?_
    rw [nt_le (by omega) (by omega)]
    refine ⟨fun hc => by omega, fun _ => ?_⟩
    simp only [fN_at hT.1.2, rZ8_0, rP8_0, rZ8_1, rP8_1, rZ8_2, rP8_2, rR8_3, rN8_3, rP8_3, rR8_4, rN8_4, rP8_4, rI8_5, rP8_5, rI8_6, rP8_6, rZ8_7, rP8_7, rR8_8, rN8_8, rP8_8]
    refine s_get (d := d + 7) (hT.lp hW) hpi ⟨rv_at (hT.2.2.2.2.2 pi p hp).2 ⟨_, rfl⟩, ?_⟩
    simp only [fN_at hT.1.2, rZ8_0, rP8_0, rZ8_1, rP8_1, rZ8_2, rP8_2, rR8_3, rN8_3, rP8_3, rR8_4, rN8_4, rP8_4, rI8_5, rP8_5, rI8_6, rP8_6, rZ8_7, rP8_7, rR8_8, rN8_8, rP8_8]
    refine s_get (d := d + 7) (hT.lb hW) (by omega) ⟨rv_at (hT.2.2.2.2.1 k b hb).2 ⟨_, rfl⟩, ?_⟩
    have hbm := bdS_mono (n := L.length + (lyL T.2.2.2 pi k p b b.2.1 0).length) (lbL T pi p r (k + 1)).length (by omega)
    have hbm2 := bdS_mono (n := L.length) (lyL T.2.2.2 pi k p b b.2.1 0).length (by omega)
    rw [Nat.add_assoc L.length] at hbm
    refine ⟨2 * (lyL T.2.2.2 pi k p b b.2.1 0).length, 9 * (lyL T.2.2.2 pi k p b b.2.1 0).length + (bdS (L.length + (lyL T.2.2.2 pi k p b b.2.1 0).length) - bdS L.length), by omega, by omega, ?_⟩
    refine s_X8_addLays (d := d) h0 hE hW hp hb rfl hL (by omega) (by omega) (by omega) fun σ' xl' dF' g1 => ?_
    refine ih (k + 1) _ xl' dF' σ' _ _ (by omega) g1 (by rw [List.length_append]; omega) (by omega) (by rw [List.length_append, Nat.add_assoc L.length]; omega) fun σ2 xl2 dF2 bc2 bs2 g4 g5 g6 => ?_
    rw [List.length_append, Nat.add_assoc L.length] at g6
    exact hX σ2 xl2 dF2 bc2 bs2 (by rw [← List.append_assoc]; exact g4) (by omega) (by omega)
theorem hs_self {σ : Hp} {a : Nat} {c : CE} (h : σ a = some c) : hset σ a c = σ := by
  funext z
  by_cases e : z = a
  · subst e; rw [hset_eq, h]
  · rw [hset_ne e]
theorem s_X8_makeLays (h : TBb G W σ X dB dP false la T) (hE : σ (gE G) = some (rA 6 0 fun _ => none)) (hfr : ∀ q, σ q = none → W q) (hW : WFT T) (hmc : 460 ≤ mc) (hms : 3000 ≤ ms) {K : Hp → Prop} (hK : ∀ σ' X', xT X' = xT X → Kp (fun z => z = xT X) σ σ' → TBr W σ' X' T → K σ') : C_X8_makeLays l G (d + 12) mc ms (xT X) σ K := by
  have h224 := allL_224 hW
  have h4 := hW.2.1.1
  obtain ⟨t1, ⟨t2, t3⟩, ⟨t4, t5⟩, t6, t7⟩ := h.tt
  have hET : gE G ≠ xT X := tg_ne ⟨_, hE, rfl⟩ t1 (by show (100 : Nat) ≠ 8; decide)
  refine m_X8_makeLays (rv_at h.1.2 ⟨_, rfl⟩) ?_
  simp only [F_X8_makeLays, fI_at (h.1.2), fZ_at (h.1.2), fJ_at (h.1.2), fR_at (h.1.2), fN_at (h.1.2), pF_at (h.1.2), rZ8_0, rP8_0, rZ8_1, rP8_1, rZ8_2, rP8_2, rR8_3, rN8_3, rP8_3, rR8_4, rN8_4, rP8_4, rI8_5, rP8_5, rI8_6, rP8_6, rZ8_7, rP8_7, rR8_8, rN8_8, rP8_8]
  refine ⟨fun _ => ?_, fun hc => by cases hc⟩
  have k01 : Kp (fun z => z = xT X) σ (hset σ (xT X) (O8 T.1.1 T.1.2.1 T.1.2.2 (some (xB X)) (some (xP X)) (nI (nsq T.2.1)) (nI T.2.2.2) true (some la))) := Kp.set fun _ => rfl
  have h1 : TBb G W (hset σ (xT X) (O8 T.1.1 T.1.2.1 T.1.2.2 (some (xB X)) (some (xP X)) (nI (nsq T.2.1)) (nI T.2.2.2) true (some la))) X dB dP true la T := h.sT k01 rfl rfl (hset_eq ..)
  have hE1 : (hset σ (xT X) (O8 T.1.1 T.1.2.1 T.1.2.2 (some (xB X)) (some (xP X)) (nI (nsq T.2.1)) (nI T.2.2.2) true (some la))) (gE G) = some (rA 6 0 fun _ => none) := k01.at hE hET
  generalize (hset σ (xT X) (O8 T.1.1 T.1.2.1 T.1.2.2 (some (xB X)) (some (xP X)) (nI (nsq T.2.1)) (nI T.2.2.2) true (some la))) = σ1 at k01 h1 hE1
  have hE1n : σ1 (gE G) ≠ none := by rw [hE1]; simp
  refine ⟨by omega, by omega, fun fo hfo => ?_⟩
  refine s_Jinit (d := d + 8) (x := none) (hset_eq ..) ?_
  rw [hset2]
  have hfoE : fo ≠ gE G := fun e => by rw [e, hE1] at hfo; cases hfo
  have hL0 : LYI G σ1 (hset σ1 fo (O13 0 (some (gE G)) 0)) T X fo (gE G) [] (fun _ => 0) := by
    refine ⟨Kp.set fun hc => absurd hfo hc, hfo, Or.inl rfl, ⟨0, fun _ => none, hset_eq .., by rw [hset_ne (Ne.symm hfoE)]; exact hE1, ⟨fun _ => rfl, fun _ => rfl⟩, fun i hi => absurd hi (Nat.not_lt_zero i), (fun i y hy => by cases hy), fun i hi => absurd hi (Nat.not_lt_zero i)⟩, fun i e hi => by simp at hi⟩
  have hfin : ∀ σ' xl dF bc bs, LYI G σ1 σ' T X fo dF (allL T) xl → 1 ≤ bc → 224 ≤ bs → C_Jx4a65c_size_8abf5 l G (d + 11) fo σ' fun r37 σ36 => nA_ 3 σ36 r37 bc bs fun N40 q38 σ39 => pF σ39 (xT X) 8 8 (aR (some q38)) fun σ41 => ∃ n, Z_X8_makeLays_99 l G (d + 11) K n (xT X) fo 0 σ41 (bc - 1) (bs - N40) := by
    intro σ' xl dF bc bs hL hb1 hb2
    obtain ⟨k1, k2, k3, k4, k5⟩ := id hL
    have hT' := h1.kp k1 fun _ _ hc => hc
    obtain ⟨u1, ⟨u2, u3⟩, ⟨u4, u5⟩, u6, u7⟩ := hT'.tt
    refine s_size (d := d + 10) (k4.lst (Q := fun _ => True) (by omega) ⟨trivial, trivial⟩) ⟨(allL T).length, rfl, by omega, hb1, by omega, fun q hq => ?_⟩
    have hqT : q ≠ xT X := fun e => by rw [e, hT'.1.2] at hq; cases hq
    have hcell : hset σ' q (rA 3 (allL T).length fun _ => none) (xT X) = _ := hs_new hT'.1.2 hq
    simp only [pF_at hcell, rZ8_0, rP8_0, rZ8_1, rP8_1, rZ8_2, rP8_2, rR8_3, rN8_3, rP8_3, rR8_4, rN8_4, rP8_4, rI8_5, rP8_5, rI8_6, rP8_6, rZ8_7, rP8_7, rR8_8, rN8_8, rP8_8]
    have hka : ∀ c, Kp (fun z => z = xT X) σ' (hset (hset (hset σ' q (rA 3 (allL T).length fun _ => none)) (xT X) (O8 T.1.1 T.1.2.1 T.1.2.2 (some (xB X)) (some (xP X)) (nI (nsq T.2.1)) (nI T.2.2.2) true (some q))) q c) := fun c => ((Kp.set (S := fun z => z = xT X) fun hc => absurd hq hc).sset fun _ => rfl).sset fun hc => absurd hq hc
    have hTa : (hset (hset σ' q (rA 3 (allL T).length fun _ => none)) (xT X) (O8 T.1.1 T.1.2.1 T.1.2.2 (some (xB X)) (some (xP X)) (nI (nsq T.2.1)) (nI T.2.2.2) true (some q))) (xT X) = some (O8 T.1.1 T.1.2.1 T.1.2.2 (some (xB X)) (some (xP X)) (nI (nsq T.2.1)) (nI T.2.2.2) true (some q)) := hset_eq ..
    have hqa : (hset (hset σ' q (rA 3 (allL T).length fun _ => none)) (xT X) (O8 T.1.1 T.1.2.1 T.1.2.2 (some (xB X)) (some (xP X)) (nI (nsq T.2.1)) (nI T.2.2.2) true (some q))) q = some (rA 3 (allL T).length fun _ => none) := by rw [hset_ne hqT, hset_eq]
    generalize (hset (hset σ' q (rA 3 (allL T).length fun _ => none)) (xT X) (O8 T.1.1 T.1.2.1 T.1.2.2 (some (xB X)) (some (xP X)) (nI (nsq T.2.1)) (nI T.2.2.2) true (some q))) = σa at hka hTa hqa
    have hlay : ∀ i, i < (allL T).length → tg σ' (xl i) 2 := fun i hi => by
      obtain ⟨e, he⟩ : ∃ e, (allL T)[i]? = some e := ⟨_, List.getElem?_eq_getElem hi⟩
      exact ⟨_, (k5 i e he).2, rfl⟩
    have hlT : ∀ i, i < (allL T).length → xl i ≠ xT X := fun i hi => tg_ne (hlay i hi) u1 (by decide)
    have hz : ∀ r i bc bs, i + r = (allL T).length → Z_X8_makeLays_99 l G (d + 11) K (r + 1) (xT X) fo (nI i) (hset σa q (rA 3 (allL T).length fun j => if j < i then some (xl j) else none)) bc bs := by
      intro r
      induction r with
      | zero =>
        intro i bc bs hi
        have hT2 : (hset σa q (rA 3 (allL T).length fun j => if j < i then some (xl j) else none)) (xT X) = _ := (hset_ne (Ne.symm hqT)).trans hTa
        have hk2 := hka (rA 3 (allL T).length fun j => if j < i then some (xl j) else none)
        have hq2 : (hset σa q (rA 3 (allL T).length fun j => if j < i then some (xl j) else none)) q = some (rA 3 (allL T).length fun j => if j < i then some (xl j) else none) := hset_eq ..
        generalize (hset σa q (rA 3 (allL T).length fun j => if j < i then some (xl j) else none)) = σn at hT2 hk2 hq2
        simp only [Z_X8_makeLays_99, F_X8_makeLays_99, F_X8_makeLays_136, fN_at hT2, rZ8_0, rP8_0, rZ8_1, rP8_1, rZ8_2, rP8_2, rR8_3, rN8_3, rP8_3, rR8_4, rN8_4, rP8_4, rI8_5, rP8_5, rI8_6, rP8_6, rZ8_7, rP8_7, rR8_8, rN8_8, rP8_8, aL_r hq2]
        rw [nt_le (by omega) (by omega)]
        refine ⟨fun _ => ⟨(allL T).length + 1, ?_⟩, fun hc => absurd (by omega) hc⟩
        have hTn : TBb G W σn X dB dP true q T := hT'.sT hk2 rfl rfl hT2
        have hln : ∀ i e, (allL T)[i]? = some e → σn (xl i) = some (LYc T i (xp X e.1) (xb X e.2.1) e none) := fun i e he => hk2.at (k5 i e he).2 (hlT i (List.getElem?_eq_some_iff.mp he).1)
        refine z_mk147 (d := d + 7) (g := fun j => if j < i then some (xl j) else none) hTn hW (fun j hj => ?_) (fun σ2 g1 g2 => ?_) (allL T).length 0 σn bc bs (by omega) Kp.rf ⟨hq2, fun j hj => if_pos (by omega), fun j e he => ?_⟩
        · obtain ⟨e, he⟩ : ∃ e, (allL T)[j]? = some e := ⟨_, List.getElem?_eq_getElem hj⟩
          exact ⟨_, hln j e he, rfl⟩
        · have hS : ∀ z, (∃ i, i < (allL T).length ∧ z = xl i) → tg σn z 2 := by
            rintro z ⟨i, hi, rfl⟩
            obtain ⟨e, he⟩ : ∃ e, (allL T)[i]? = some e := ⟨_, List.getElem?_eq_getElem hi⟩
            exact ⟨_, hln i e he, rfl⟩
          have hT3 := hTn.kt g1 hS
          have hk3 : Kp (fun z => z = xT X) σ σ2 := by
            refine ((k01.tr2 k1 fun _ _ hc => hc.elim).tr hk2).tr2 g1 ?_
            rintro z hz ⟨i, hi, rfl⟩
            obtain ⟨e, he⟩ : ∃ e, (allL T)[i]? = some e := ⟨_, List.getElem?_eq_getElem hi⟩
            exact absurd (k01.fr (k5 i e he).1) hz
          refine hK σ2 (xT X, xB X, xP X, q, xb X, xp X, xl) rfl hk3 ⟨hT3.1, ?_, ?_, fun k b hb => ⟨(hT3.2.2.2.2.1 k b hb).1, _, (hT3.2.2.2.2.1 k b hb).2⟩, fun k p hp => ⟨(hT3.2.2.2.2.2 k p hp).1, _, (hT3.2.2.2.2.2 k p hp).2⟩, ⟨hfr _ (k01.fr (k1.fr hq)), _, g2.1, g2.2.1⟩, fun j e he => ⟨hfr _ (k01.fr (k5 j e he).1), ?_⟩⟩
          · exact hT3.2.1.2.2.lst (Nat.le_trans hW.1.1 (by decide)) ⟨hT3.2.1.1, hT3.2.1.2.1⟩
          · exact hT3.2.2.1.2.2.lst (Nat.le_trans hW.2.1.1 (by decide)) ⟨hT3.2.2.1.1, hT3.2.2.1.2.1⟩
          · have := g2.2.2 j e he
            dsimp only at this
            rw [he] at this
            exact this
        · dsimp only; rw [if_neg (by omega)]; exact hln j e he
      | succ r ih =>
        intro i bc bs hi
        have hT2 : (hset σa q (rA 3 (allL T).length fun j => if j < i then some (xl j) else none)) (xT X) = _ := (hset_ne (Ne.symm hqT)).trans hTa
        have hk2 := hka (rA 3 (allL T).length fun j => if j < i then some (xl j) else none)
        have hq2 : (hset σa q (rA 3 (allL T).length fun j => if j < i then some (xl j) else none)) q = some (rA 3 (allL T).length fun j => if j < i then some (xl j) else none) := hset_eq ..
        obtain ⟨e, he⟩ : ∃ e, (allL T)[i]? = some e := ⟨_, List.getElem?_eq_getElem (by omega)⟩
        have hlf := (k4.kp hk2 (fun e => tg_ne k4.ta.1 u1 (by decide) e) (fun e => tg_ne k4.ta.2 u1 (by decide) e) fun i hi => hlT i hi).lst (Q := fun _ => True) (by omega) ⟨trivial, trivial⟩
        have hle := hk2.at (k5 i e he).2 (hlT i (by omega))
        rw [show r + 1 + 1 = (r + 1) + 1 from rfl, Z_X8_makeLays_99]
        simp only [F_X8_makeLays_99, fN_at hT2, rZ8_0, rP8_0, rZ8_1, rP8_1, rZ8_2, rP8_2, rR8_3, rN8_3, rP8_3, rR8_4, rN8_4, rP8_4, rI8_5, rP8_5, rI8_6, rP8_6, rZ8_7, rP8_7, rR8_8, rN8_8, rP8_8, aL_r hq2]
        rw [nt_le (by omega) (by omega)]
        refine ⟨fun hc => by omega, fun _ => s_size (d := d + 10) hlf ?_⟩
        rw [nt_le (by omega) (by omega)]
        refine ⟨fun hc => by omega, fun _ => ?_⟩
        simp only [fN_at hT2, rZ8_0, rP8_0, rZ8_1, rP8_1, rZ8_2, rP8_2, rR8_3, rN8_3, rP8_3, rR8_4, rN8_4, rP8_4, rI8_5, rP8_5, rI8_6, rP8_6, rZ8_7, rP8_7, rR8_8, rN8_8, rP8_8]
        refine s_get (d := d + 7) hlf (by omega) ⟨rv_at hle ⟨_, rfl⟩, ?_⟩
        rw [sN_at hq2, hset2, nI_clamp (show i < 2 ^ 31 by omega)]
        refine ⟨rv_at hle ⟨_, rfl⟩, (nt_in (by omega)).mpr (by omega), ?_⟩
        have hf : up_ (fun j => if j < i then some (xl j) else none) i (some (xl i)) = fun j => if j < i + 1 then some (xl j) else none := by
          funext j
          by_cases e2 : j = i
          · subst e2; rw [up_eq, if_pos (by omega)]
          · rw [up_ne e2]
            by_cases h5 : j < i
            · rw [if_pos h5, if_pos (by omega)]
            · rw [if_neg h5, if_neg (by omega)]
        rw [hf, show nI i + 1 = nI (i + 1) from nt_add i 1]
        exact ih (i + 1) bc bs (by omega)
    have h00 := hz (allL T).length 0 (bc - 1) (bs - (allL T).length) (by omega)
    have hf0 : (fun j => if j < 0 then some (xl j) else none) = (fun _ => none : Nat → Option Nat) := by
      funext j; rw [if_neg (by omega)]
    rw [hf0, hs_self hqa] at h00
    exact ⟨_, h00⟩
  have hz : ∀ r k L xl dF σ' bc bs, k + r = T.2.2.1.length → LYI G σ1 σ' T X fo dF L xl → L ++ lpL T r k = allL T → 2 * (lpL T r k).length + 1 ≤ bc → 9 * (lpL T r k).length + bdS (L.length + (lpL T r k).length) + 224 ≤ bs + bdS L.length → Z_X8_makeLays_23 l G (d + 11) K (r + 1) (xT X) fo (nI k) σ' bc bs := by
    intro r
    induction r with
    | zero =>
      intro k L xl dF σ' bc bs hk hL ha h2 h3
      have hT := h1.kp hL.1 fun _ _ hc => hc
      simp only [lpL, List.append_nil, List.length_nil, Nat.add_zero] at ha h2 h3
      subst ha
      simp only [Z_X8_makeLays_23, F_X8_makeLays_23, fN_at hT.1.2, rZ8_0, rP8_0, rZ8_1, rP8_1, rZ8_2, rP8_2, rR8_3, rN8_3, rP8_3, rR8_4, rN8_4, rP8_4, rI8_5, rP8_5, rI8_6, rP8_6, rZ8_7, rP8_7, rR8_8, rN8_8, rP8_8]
      refine s_size (d := d + 10) (hT.lp hW) ?_
      rw [nt_le (by omega) (by omega)]
      exact ⟨fun _ => hfin σ' xl dF bc bs hL (by omega) (by omega), fun hc => absurd (by omega) hc⟩
    | succ r ih =>
      intro k L xl dF σ' bc bs hk hL ha h2 h3
      have hT := h1.kp hL.1 fun _ _ hc => hc
      obtain ⟨p, hp⟩ : ∃ p, T.2.2.1[k]? = some p := ⟨_, List.getElem?_eq_getElem (by omega)⟩
      simp only [lpL, hp, List.length_append] at ha h2 h3
      have hal : L.length + ((lbL T k p T.2.1.length 0).length + (lpL T r (k + 1)).length) ≤ 224 := by
        rw [← ha, List.length_append, List.length_append] at h224
        exact h224
      have hbm := bdS_mono (n := L.length + (lbL T k p T.2.1.length 0).length) (lpL T r (k + 1)).length (by omega)
      rw [Nat.add_assoc L.length] at hbm
      rw [show r + 1 + 1 = (r + 1) + 1 from rfl, Z_X8_makeLays_23]
      simp only [F_X8_makeLays_23, fN_at hT.1.2, rZ8_0, rP8_0, rZ8_1, rP8_1, rZ8_2, rP8_2, rR8_3, rN8_3, rP8_3, rR8_4, rN8_4, rP8_4, rI8_5, rP8_5, rI8_6, rP8_6, rZ8_7, rP8_7, rR8_8, rN8_8, rP8_8]
      refine s_size (d := d + 10) (hT.lp hW) ?_
      rw [nt_le (by omega) (by omega)]
      refine ⟨fun hc => by omega, fun _ => ⟨_, z_mk36 (d := d) h1 hE1n hW hp T.2.1.length 0 L xl dF σ' bc bs (by omega) hL (by omega) (by omega) (by omega) fun σ2 xl2 dF2 bc2 bs2 g1 g2 g3 => ?_⟩⟩
      rw [show nI k + 1 = nI (k + 1) from nt_add k 1]
      exact ih (k + 1) _ xl2 dF2 σ2 bc2 bs2 (by omega) g1 (by rw [List.append_assoc]; exact ha) (by omega) (by rw [List.length_append, Nat.add_assoc L.length]; omega)
  have hall : [] ++ lpL T T.2.2.1.length 0 = allL T := rfl
  have hbd : bdS (allL T).length ≤ 718 := by unfold bdS; (repeat' split) <;> omega
  refine ⟨_, hz T.2.2.1.length 0 [] (fun _ => 0) (gE G) _ (mc - 1) (ms - 3) (by omega) hL0 hall ?_ ?_⟩
  · show 2 * (allL T).length + 1 ≤ mc - 1
    omega
  · show 9 * (allL T).length + bdS (0 + (allL T).length) + 224 ≤ ms - 3 + bdS 0
    rw [Nat.zero_add]
    omega
theorem s_X8_makeLays1 {Q : Nat → Prop} {X : TX} (h : TBr Q σ X T) {K : Hp → Prop} (hK : K σ) : C_X8_makeLays l G (d + 1) mc ms (xT X) σ K := by
  refine m_X8_makeLays (rv_at h.1.2 ⟨_, rfl⟩) ?_
  simp only [F_X8_makeLays, fI_at (h.1.2), fZ_at (h.1.2), fJ_at (h.1.2), fR_at (h.1.2), fN_at (h.1.2), pF_at (h.1.2), rZ8_0, rP8_0, rZ8_1, rP8_1, rZ8_2, rP8_2, rR8_3, rN8_3, rP8_3, rR8_4, rN8_4, rP8_4, rI8_5, rP8_5, rI8_6, rP8_6, rZ8_7, rP8_7, rR8_8, rN8_8, rP8_8]
  exact ⟨fun hc => (by cases hc), fun _ => hK⟩
end MKM
