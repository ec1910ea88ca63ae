/-! boards as heaps, the class's: settleGrundy, grundyOf, grundyOfAll -/
theorem OSI.ong {T : TB} {st s tk : Nat} {S : OS} (h : OSI T st s S) {x : Nat} (htk : tk < 2 ^ s) (hx : x = gr T (allL T) none tk) : OSI T st s (u_gk (u_gv S (up_ (gv S) tk (nI x))) (up_ (gk S) tk (nI st))) := by
  obtain ⟨h1, h2, h3, h4⟩ := h
  refine ⟨h1, fun j hj => ?_, h3, fun tk' a b => ?_⟩
  · simp only [o_kn_kn, o_wn_kn, o_sn_kn, o_fw_kn, o_mo_kn, o_lo_kn, o_wy_kn, o_gk_kn, o_gv_kn, o_kn_wn, o_wn_wn, o_sn_wn, o_fw_wn, o_mo_wn, o_lo_wn, o_wy_wn, o_gk_wn, o_gv_wn, o_kn_sn, o_wn_sn, o_sn_sn, o_fw_sn, o_mo_sn, o_lo_sn, o_wy_sn, o_gk_sn, o_gv_sn, o_kn_fw, o_wn_fw, o_sn_fw, o_fw_fw, o_mo_fw, o_lo_fw, o_wy_fw, o_gk_fw, o_gv_fw, o_kn_mo, o_wn_mo, o_sn_mo, o_fw_mo, o_mo_mo, o_lo_mo, o_wy_mo, o_gk_mo, o_gv_mo, o_kn_lo, o_wn_lo, o_sn_lo, o_fw_lo, o_mo_lo, o_lo_lo, o_wy_lo, o_gk_lo, o_gv_lo, o_kn_wy, o_wn_wy, o_sn_wy, o_fw_wy, o_mo_wy, o_lo_wy, o_wy_wy, o_gk_wy, o_gv_wy, o_kn_gk, o_wn_gk, o_sn_gk, o_fw_gk, o_mo_gk, o_lo_gk, o_wy_gk, o_gk_gk, o_gv_gk, o_kn_gv, o_wn_gv, o_sn_gv, o_fw_gv, o_mo_gv, o_lo_gv, o_wy_gv, o_gk_gv, o_gv_gv]
    by_cases e : j = tk
    · subst e; rw [up_eq]; exact ⟨st, Nat.le_refl _, rfl⟩
    · rw [up_ne e]; exact h2 j hj
  · simp only [o_kn_kn, o_wn_kn, o_sn_kn, o_fw_kn, o_mo_kn, o_lo_kn, o_wy_kn, o_gk_kn, o_gv_kn, o_kn_wn, o_wn_wn, o_sn_wn, o_fw_wn, o_mo_wn, o_lo_wn, o_wy_wn, o_gk_wn, o_gv_wn, o_kn_sn, o_wn_sn, o_sn_sn, o_fw_sn, o_mo_sn, o_lo_sn, o_wy_sn, o_gk_sn, o_gv_sn, o_kn_fw, o_wn_fw, o_sn_fw, o_fw_fw, o_mo_fw, o_lo_fw, o_wy_fw, o_gk_fw, o_gv_fw, o_kn_mo, o_wn_mo, o_sn_mo, o_fw_mo, o_mo_mo, o_lo_mo, o_wy_mo, o_gk_mo, o_gv_mo, o_kn_lo, o_wn_lo, o_sn_lo, o_fw_lo, o_mo_lo, o_lo_lo, o_wy_lo, o_gk_lo, o_gv_lo, o_kn_wy, o_wn_wy, o_sn_wy, o_fw_wy, o_mo_wy, o_lo_wy, o_wy_wy, o_gk_wy, o_gv_wy, o_kn_gk, o_wn_gk, o_sn_gk, o_fw_gk, o_mo_gk, o_lo_gk, o_wy_gk, o_gk_gk, o_gv_gk, o_kn_gv, o_wn_gv, o_sn_gv, o_fw_gv, o_mo_gv, o_lo_gv, o_wy_gv, o_gk_gv, o_gv_gv] at b ⊢
    by_cases e : tk' = tk
    · rw [e, up_eq, hx]
    · rw [up_ne e] at b ⊢; exact h4 tk' a b
section OUTG
variable {l : Launch} {G : GG} {d : Nat} {P : Nat → Nat} {C : Nat → CE} {τ : Hp} {Q : Nat → Prop} {X : TX} {T : TB} {st s : Nat} {S : OS}
theorem s_X3_grundyAt (h : OST P τ Q X T st s) {tk : Nat} (htk : tk < 2 ^ s) {tb : Option Nat} {K : Int32 → Hp → Prop} (hK : K (gv S tk) (oh P tb st s S C τ)) : C_X3_grundyAt l G (d + 1) (P 2) (nI tk) (oh P tb st s S C τ) K := by
  obtain ⟨hB, hs, hX, hQ, hW, hsq, hst⟩ := h
  have h14 := pow14 hs
  refine m_X3_grundyAt (rv_o hB) ?_
  simp only [F_X3_grundyAt_23, F_X3_grundyAt_22, F_X3_grundyAt, oR_0 hB, oN_0 hB, oI_1 hB, oN_2 hB, oN_3 hB, oN_4 hB, oN_5 hB, oN_6 hB, oN_7 hB, oN_8 hB, oN_9 hB, oN_10 hB, oL_3 hB, oG_3 hB, oS_3 hB, oL_4 hB, oG_4 hB, oS_4 hB, oL_5 hB, oG_5 hB, oS_5 hB, oL_6 hB, oG_6 hB, oS_6 hB, oL_7 hB, oG_7 hB, oS_7 hB, oL_8 hB, oG_8 hB, oS_8 hB, oL_9 hB, oG_9 hB, oS_9 hB, oL_10 hB, oG_10 hB, oS_10 hB, oL_11 hB, oG_11 hB, oS_11 hB, nI_clamp (show tk < 2 ^ 31 by omega)]
  rw [nt_le (by omega) (by omega)]
  exact ⟨fun hc => absurd hc (nt_neg (by omega)), fun _ => ⟨fun hc => absurd hc (by omega), fun _ => ⟨(nt_in (by omega)).mpr htk, hK⟩⟩⟩
/-- the sizes behind by lays from the i-th on -/
def gds (T : TB) (L : List LY) (tk i : Nat) : List Nat := ((L.drop i).filter fun e => frE T e tk).map fun e => gr T L none (tk ||| eS e)
theorem gds_0 {L : List LY} (tk : Nat) : gds T L tk 0 = gks T L none tk := by
  unfold gds gks gms
  rw [List.drop_zero]
  rfl
theorem settleGrundy_step (h : OST P τ Q X T st s) {D tk dep : Nat} (htk : tk < 2 ^ s) (hdep : dep + fr tk ≤ 14)
    (IH : ∀ (S' : OS) tk' (K' : Hp → Prop), fr tk' < fr tk → tk' < 2 ^ s → dep + 1 + fr tk' ≤ 14 → OSI T st s S' → (∀ S'', OSI T st s S'' → gk S'' tk' = nI st → K' (oh P (some (xT X)) st s S'' C τ)) → C_X3_settleGrundy l G (D + 2) (P 2) (nI tk') (nI (dep + 1)) (oh P (some (xT X)) st s S' C τ) K')
    (hS : OSI T st s S) {K : Hp → Prop} (hK : ∀ S', OSI T st s S' → gk S' tk = nI st → K (oh P (some (xT X)) st s S' C τ)) : C_X3_settleGrundy l G (D + 3) (P 2) (nI tk) (nI dep) (oh P (some (xT X)) st s S C τ) K := by
  have hh := h
  obtain ⟨hB, hs, hX, hQ, hW, hsq, hst⟩ := h
  have h14 := pow14 hs
  have h224 := allL_224 hW
  have hV := allL_VL hW
  have hin : vp_in (nI tk) (2 ^ s) := (nt_in (by omega)).mpr htk
  have hcl : (nI tk).toNatClampNeg = tk := nI_clamp (by omega)
  have ho := hXo hX hQ (some (xT X)) st s
  refine m_X3_settleGrundy ?_
  simp only [F_X3_settleGrundy, F_X3_settleGrundy_39, oR_0 hB, oN_0 hB, oI_1 hB, oN_2 hB, oN_3 hB, oN_4 hB, oN_5 hB, oN_6 hB, oN_7 hB, oN_8 hB, oN_9 hB, oN_10 hB, oL_3 hB, oG_3 hB, oS_3 hB, oL_4 hB, oG_4 hB, oS_4 hB, oL_5 hB, oG_5 hB, oS_5 hB, oL_6 hB, oG_6 hB, oS_6 hB, oL_7 hB, oG_7 hB, oS_7 hB, oL_8 hB, oG_8 hB, oS_8 hB, oL_9 hB, oG_9 hB, oS_9 hB, oL_10 hB, oG_10 hB, oS_10 hB, oL_11 hB, oG_11 hB, oS_11 hB, reduceCtorEq, false_implies, true_implies, forall_const, true_and, and_true, eq_self, Option.some.injEq, exists_eq_left', forall_eq', fN_at (ho S C).1.2, rZ8_0, rP8_0, rZ8_1, rP8_1, rZ8_2, rP8_2, rR8_3, rN8_3, rP8_3, rR8_4, rN8_4, rP8_4, rI8_5, rP8_5, rI8_6, rP8_6, rZ8_7, rP8_7, rR8_8, rN8_8, rP8_8, (ho S C).aL, hcl]
  rw [nt_le (by omega) (by omega), show (14 : Int32) = nI 14 from rfl, nt_lt (by decide) (by omega)]
  refine ⟨fun hc => absurd hc (nt_neg (by omega)), fun _ => ⟨fun hc => absurd hc (by omega), fun _ => ⟨fun hc => by omega, fun _ => ⟨hin, fun _ => ?_, fun h1 => hK S hS h1⟩⟩⟩⟩
  have hz : ∀ r i S' a, i + r = (allL T).length → OSI T st s S' → a < 2 ^ 15 → bsl a (gds T (allL T) tk i) = bsl 0 (gks T (allL T) none tk) → Z_X3_settleGrundy_59 l G (D + 2) K (r + 1) (P 2) (nI tk) (nI dep) (nI a) (xL' X) (nI (allL T).length) (nI i) (oh P (some (xT X)) st s S' C τ) := by
    intro r
    induction r with
    | zero =>
      intro i S' a hi hS' ha hbs
      have he : gds T (allL T) tk i = [] := by
        unfold gds
        rw [List.drop_eq_nil_of_le (by omega)]; rfl
      rw [he] at hbs
      simp only [bsl, List.foldl_nil] at hbs
      have hle := gr_le hV none tk
      obtain ⟨m1, m2⟩ := gr_mex hV none tk
      have b1 : a.testBit (gr T (allL T) none tk) = false := by
        rw [hbs]
        have := bsl_bit (gks T (allL T) none tk) 0 (gr T (allL T) none tk)
        rw [bsl] at this
        rw [this, Nat.zero_testBit, Bool.false_or]
        simpa using m1
      have b2 : ∀ u, u < gr T (allL T) none tk → a.testBit u = true := by
        intro u hu
        rw [hbs]
        have := bsl_bit (gks T (allL T) none tk) 0 u
        rw [bsl] at this
        rw [this, Nat.zero_testBit, Bool.false_or]
        simpa using m2 u hu
      simp only [Z_X3_settleGrundy_59, F_X3_settleGrundy_59, oR_0 hB, oN_0 hB, oI_1 hB, oN_2 hB, oN_3 hB, oN_4 hB, oN_5 hB, oN_6 hB, oN_7 hB, oN_8 hB, oN_9 hB, oN_10 hB, oL_3 hB, oG_3 hB, oS_3 hB, oL_4 hB, oG_4 hB, oS_4 hB, oL_5 hB, oG_5 hB, oS_5 hB, oL_6 hB, oG_6 hB, oS_6 hB, oL_7 hB, oG_7 hB, oS_7 hB, oL_8 hB, oG_8 hB, oS_8 hB, oL_9 hB, oG_9 hB, oS_9 hB, oL_10 hB, oG_10 hB, oS_10 hB, oL_11 hB, oG_11 hB, oS_11 hB]
      rw [nt_le (by omega) (by omega)]
      refine ⟨fun _ => s_J6_ntz (d := D + 1) ?_, fun hc => absurd (by omega) hc⟩
      rw [ntz_of ha (by omega) b1 b2]
      simp only [oR_0 hB, oN_0 hB, oI_1 hB, oN_2 hB, oN_3 hB, oN_4 hB, oN_5 hB, oN_6 hB, oN_7 hB, oN_8 hB, oN_9 hB, oN_10 hB, oL_3 hB, oG_3 hB, oS_3 hB, oL_4 hB, oG_4 hB, oS_4 hB, oL_5 hB, oG_5 hB, oS_5 hB, oL_6 hB, oG_6 hB, oS_6 hB, oL_7 hB, oG_7 hB, oS_7 hB, oL_8 hB, oG_8 hB, oS_8 hB, oL_9 hB, oG_9 hB, oS_9 hB, oL_10 hB, oG_10 hB, oS_10 hB, oL_11 hB, oG_11 hB, oS_11 hB, o_kn_kn, o_wn_kn, o_sn_kn, o_fw_kn, o_mo_kn, o_lo_kn, o_wy_kn, o_gk_kn, o_gv_kn, o_kn_wn, o_wn_wn, o_sn_wn, o_fw_wn, o_mo_wn, o_lo_wn, o_wy_wn, o_gk_wn, o_gv_wn, o_kn_sn, o_wn_sn, o_sn_sn, o_fw_sn, o_mo_sn, o_lo_sn, o_wy_sn, o_gk_sn, o_gv_sn, o_kn_fw, o_wn_fw, o_sn_fw, o_fw_fw, o_mo_fw, o_lo_fw, o_wy_fw, o_gk_fw, o_gv_fw, o_kn_mo, o_wn_mo, o_sn_mo, o_fw_mo, o_mo_mo, o_lo_mo, o_wy_mo, o_gk_mo, o_gv_mo, o_kn_lo, o_wn_lo, o_sn_lo, o_fw_lo, o_mo_lo, o_lo_lo, o_wy_lo, o_gk_lo, o_gv_lo, o_kn_wy, o_wn_wy, o_sn_wy, o_fw_wy, o_mo_wy, o_lo_wy, o_wy_wy, o_gk_wy, o_gv_wy, o_kn_gk, o_wn_gk, o_sn_gk, o_fw_gk, o_mo_gk, o_lo_gk, o_wy_gk, o_gk_gk, o_gv_gk, o_kn_gv, o_wn_gv, o_sn_gv, o_fw_gv, o_mo_gv, o_lo_gv, o_wy_gv, o_gk_gv, o_gv_gv, hcl]
      exact ⟨hin, hin, hK _ (hS'.ong htk rfl) (by simp only [o_kn_kn, o_wn_kn, o_sn_kn, o_fw_kn, o_mo_kn, o_lo_kn, o_wy_kn, o_gk_kn, o_gv_kn, o_kn_wn, o_wn_wn, o_sn_wn, o_fw_wn, o_mo_wn, o_lo_wn, o_wy_wn, o_gk_wn, o_gv_wn, o_kn_sn, o_wn_sn, o_sn_sn, o_fw_sn, o_mo_sn, o_lo_sn, o_wy_sn, o_gk_sn, o_gv_sn, o_kn_fw, o_wn_fw, o_sn_fw, o_fw_fw, o_mo_fw, o_lo_fw, o_wy_fw, o_gk_fw, o_gv_fw, o_kn_mo, o_wn_mo, o_sn_mo, o_fw_mo, o_mo_mo, o_lo_mo, o_wy_mo, o_gk_mo, o_gv_mo, o_kn_lo, o_wn_lo, o_sn_lo, o_fw_lo, o_mo_lo, o_lo_lo, o_wy_lo, o_gk_lo, o_gv_lo, o_kn_wy, o_wn_wy, o_sn_wy, o_fw_wy, o_mo_wy, o_lo_wy, o_wy_wy, o_gk_wy, o_gv_wy, o_kn_gk, o_wn_gk, o_sn_gk, o_fw_gk, o_mo_gk, o_lo_gk, o_wy_gk, o_gk_gk, o_gv_gk, o_kn_gv, o_wn_gv, o_sn_gv, o_fw_gv, o_mo_gv, o_lo_gv, o_wy_gv, o_gk_gv, o_gv_gv]; rw [up_eq])⟩
    | succ r ih =>
      intro i S' a hi hS' ha hbs
      obtain ⟨e, he⟩ : ∃ e, (allL T)[i]? = some e := ⟨_, List.getElem?_eq_getElem (by omega)⟩
      obtain ⟨g, g1, g2, g3⟩ := (ho S' C).lay he
      rw [show r + 1 + 1 = (r + 1) + 1 from rfl, Z_X3_settleGrundy_59]
      simp only [F_X3_settleGrundy_59, F_X3_settleGrundy_112, show nI i + 1 = nI (i + 1) from nt_add i 1]
      rw [nt_le (by omega) (by omega)]
      refine ⟨fun hc => by omega, fun _ => (ho S' C).gN hW he ((ho S' C).fr (d := D + 1) he (by omega) ⟨fun hm => ?_, fun hm => ?_⟩)⟩
      · exact ih (i + 1) S' a (by omega) hS' ha (by rw [← hbs, gds, gds, drop_at he, List.filter_cons, if_neg (by rw [hm]; decide)])
      · have hem := List.mem_of_getElem? he
        have q1 := fr_set (frE_0 hm) (hV.mem hem).1 (hV.mem hem).2
        have q2 := lay_lt hh he htk
        simp only [fI_at g3, rI2_0, rP2_0, rR2_1, rN2_1, rP2_1, rR2_2, rN2_2, rP2_2, rI2_3, rP2_3, rI2_4, rP2_4, rI2_5, rP2_5, rI2_6, rP2_6, rI2_7, rP2_7, rR2_8, rN2_8, rP2_8]
        rw [nt_or, show nI dep + 1 = nI (dep + 1) from nt_add dep 1]
        refine IH S' _ _ q1 q2 (by omega) hS' fun S2 a1 a2 => ?_
        obtain ⟨-, -, -, g3'⟩ := (ho S2 C).lay he
        simp only [fI_at g3', rI2_0, rP2_0, rR2_1, rN2_1, rP2_1, rR2_2, rN2_2, rP2_2, rI2_3, rP2_3, rI2_4, rP2_4, rI2_5, rP2_5, rI2_6, rP2_6, rI2_7, rP2_7, rR2_8, rN2_8, rP2_8]
        rw [nt_or]
        refine s_X3_grundyAt (d := D + 1) hh q2 ?_
        have hgl := gr_le hV none (tk ||| eS e)
        rw [a1.2.2.2 _ q2 a2, nt_one (by omega), nt_or]
        exact ih (i + 1) S2 _ (by omega) a1 (lt_two ha (by omega)) (by rw [← hbs, gds, gds, drop_at he, List.filter_cons, if_pos hm]; rfl)
  exact ⟨_, hz (allL T).length 0 S 0 (by omega) hS (by decide) (by rw [gds_0])⟩
theorem s_X3_settleGrundy (h : OST P τ Q X T st s) : ∀ n {d tk dep : Nat} {S : OS}, fr tk ≤ n → tk < 2 ^ s → dep + fr tk ≤ 14 → OSI T st s S → ∀ {K : Hp → Prop}, (∀ S', OSI T st s S' → gk S' tk = nI st → K (oh P (some (xT X)) st s S' C τ)) → C_X3_settleGrundy l G (d + n + 3) (P 2) (nI tk) (nI dep) (oh P (some (xT X)) st s S C τ) K := by
  intro n
  induction n with
  | zero =>
    intro d tk dep S hn htk hdep hS K hK
    exact settleGrundy_step (D := d) h htk hdep (fun S' tk' K' h1 => absurd h1 (by omega)) hS hK
  | succ n ih =>
    intro d tk dep S hn htk hdep hS K hK
    exact settleGrundy_step (D := d + (n + 1)) h htk hdep (fun S' tk' K' h1 h2 h3 h4 h5 => by
      have := ih (d := d) (S := S') (tk := tk') (dep := dep + 1) (by omega) h2 h3 h4 h5
      exact this) hS hK
theorem an_sq (hW : WFT T) {k : Nat} {b : BD} (hk : T.2.1[k]? = some b) (tk : Nat) : gr T (allL T) none (tk ||| an (2 ^ nsq T.2.1 - 1) (sqB b)) = gr T (allL T) (some k) tk := by
  have hsq := (WFB.sq hW hk).1
  rw [gr_one hW hk _ _ (Nat.le_refl _) fun k' b' h1 h2 i hi => ?_]
  · refine gr_bdA hW hk _ _ _ (Nat.le_refl _) fun i hi => ?_
    rw [Nat.testBit_or, an_bit, hi, Bool.not_true, Bool.and_false, Bool.or_false]
  · rw [Nat.testBit_or, an_bit, Nat.testBit_two_pow_sub_one]
    have h3 := (WFB.sq hW h1).1
    have h4 : (sqB b).testBit i = false := by
      have h5 : inS b'.2.2.1 (b'.1 * b'.2.1) (sqB b') := fun i hi => by rw [sqB_bit, decide_eq_true_eq] at hi; exact hi
      cases e : (sqB b).testBit i with
      | false => rfl
      | true => exact absurd hi (by rw [bd_ne hW h1 hk h2 h5 e]; decide)
    rw [sqB_bit, decide_eq_true_eq] at hi
    rw [h4, decide_eq_true (by omega)]
    simp
theorem s_X3_grundyOf (h : OST P τ Q X T st s) {k tk : Nat} {b : BD} (hk : T.2.1[k]? = some b) (htk : tk < 2 ^ s) (hS : OSI T st s S) {K : Int32 → Hp → Prop} (hK : ∀ S', OSI T st s S' → K (nI (gr T (allL T) (some k) tk)) (oh P (some (xT X)) st s S' C τ)) : C_X3_grundyOf l G (d + 18) (P 2) (xb X k) (nI tk) (oh P (some (xT X)) st s S C τ) K := by
  have hh := h
  obtain ⟨hB, hs, hX, hQ, hW, hsq, hst⟩ := h
  have h14 := pow14 hs
  have ho := hXo hX hQ (some (xT X)) st s
  have hn14 := hW.1.2.1
  obtain ⟨-, nm, hc⟩ := (ho S C).2.2.2.1 k b hk
  refine m_X3_grundyOf (rv_o hB) ?_
  simp only [F_X3_grundyOf, oR_0 hB, oN_0 hB, oI_1 hB, oN_2 hB, oN_3 hB, oN_4 hB, oN_5 hB, oN_6 hB, oN_7 hB, oN_8 hB, oN_9 hB, oN_10 hB, oL_3 hB, oG_3 hB, oS_3 hB, oL_4 hB, oG_4 hB, oS_4 hB, oL_5 hB, oG_5 hB, oS_5 hB, oL_6 hB, oG_6 hB, oS_6 hB, oL_7 hB, oG_7 hB, oS_7 hB, oL_8 hB, oG_8 hB, oS_8 hB, oL_9 hB, oG_9 hB, oS_9 hB, oL_10 hB, oG_10 hB, oS_10 hB, oL_11 hB, oG_11 hB, oS_11 hB, reduceCtorEq, false_implies, true_implies, forall_const, true_and, and_true, eq_self, Option.some.injEq, exists_eq_left', forall_eq', fI_at (ho S C).1.2, rZ8_0, rP8_0, rZ8_1, rP8_1, rZ8_2, rP8_2, rR8_3, rN8_3, rP8_3, rR8_4, rN8_4, rP8_4, rI8_5, rP8_5, rI8_6, rP8_6, rZ8_7, rP8_7, rR8_8, rN8_8, rP8_8]
  refine s_X0_allSquares (d := d + 16) (hW.BB hk) hc ?_
  have h2 : (1 : Int32) <<< (nI (nsq T.2.1) &&& 31) - 1 = nI (2 ^ nsq T.2.1 - 1) := by
    rw [nt_one (by omega), show (1 : Int32) = nI 1 from rfl, nt_sub (Nat.two_pow_pos _) (Nat.pow_lt_pow_right (by decide) (by omega))]
  rw [h2, nt_an, nt_or]
  have h3 : tk ||| an (2 ^ nsq T.2.1 - 1) (sqB b) < 2 ^ s := by
    refine Nat.or_lt_two_pow htk ?_
    have h4 : 2 ^ nsq T.2.1 - 1 < 2 ^ s := by
      have := Nat.pow_le_pow_right (n := 2) (by decide) hsq
      have := Nat.two_pow_pos (nsq T.2.1)
      omega
    exact Nat.xor_lt_two_pow h4 (Nat.lt_of_le_of_lt Nat.and_le_left h4)
  have hg := an_sq hW hk tk
  refine s_X3_settleGrundy hh 14 (d := d) (dep := 0) (fr_le _) h3 (by have := fr_le (tk ||| an (2 ^ nsq T.2.1 - 1) (sqB b)); omega) hS fun S2 a1 a2 => ?_
  refine s_X3_grundyAt (d := d + 16) hh h3 ?_
  rw [a1.2.2.2 _ h3 a2, hg]
  exact hK S2 a1
theorem s_X3_grundyOfAll (h : OST P τ Q X T st s) {tk : Nat} (htk : tk < 2 ^ s) (hS : OSI T st s S) {K : Int32 → Hp → Prop} (hK : ∀ S', OSI T st s S' → K (nI (gr T (allL T) none tk)) (oh P (some (xT X)) st s S' C τ)) : C_X3_grundyOfAll l G (d + 19) (P 2) (nI tk) (oh P (some (xT X)) st s S C τ) K := by
  have hh := h
  obtain ⟨hB, hs, hX, hQ, hW, hsq, hst⟩ := h
  have ho := hXo hX hQ (some (xT X)) st s
  have hb3 := hW.1.1
  have hgn : gr T (allL T) none tk = gx T tk := gr_sum hW _ tk (Nat.le_refl _)
  rw [hgn] at hK
  refine m_X3_grundyOfAll (rv_o hB) ?_
  simp only [F_X3_grundyOfAll, oR_0 hB, oN_0 hB, oI_1 hB, oN_2 hB, oN_3 hB, oN_4 hB, oN_5 hB, oN_6 hB, oN_7 hB, oN_8 hB, oN_9 hB, oN_10 hB, oL_3 hB, oG_3 hB, oS_3 hB, oL_4 hB, oG_4 hB, oS_4 hB, oL_5 hB, oG_5 hB, oS_5 hB, oL_6 hB, oG_6 hB, oS_6 hB, oL_7 hB, oG_7 hB, oS_7 hB, oL_8 hB, oG_8 hB, oS_8 hB, oL_9 hB, oG_9 hB, oS_9 hB, oL_10 hB, oG_10 hB, oS_10 hB, oL_11 hB, oG_11 hB, oS_11 hB, reduceCtorEq, false_implies, true_implies, forall_const, true_and, and_true, eq_self, Option.some.injEq, forall_eq']
  -- what the boards from the i-th on come to
  have hz : ∀ r i a S', i + r = T.2.1.length → OSI T st s S' → (r = 0 → a = gx T tk) → (∀ r', r = r' + 1 → a ^^^ (if i = 0 then gx T tk else if i = 1 then gr T (allL T) (some 1) tk ^^^ gr T (allL T) (some 2) tk else gr T (allL T) (some 2) tk) = gx T tk) → Z_X3_grundyOfAll_13 l G (d + 18) K (r + 1) (P 2) (nI tk) (nI a) (nI i) (oh P (some (xT X)) st s S' C τ) := by
    intro r
    induction r with
    | zero =>
      intro i a S' hi hS' h0 h1
      simp only [Z_X3_grundyOfAll_13, F_X3_grundyOfAll_13, oR_0 hB, oN_0 hB, oI_1 hB, oN_2 hB, oN_3 hB, oN_4 hB, oN_5 hB, oN_6 hB, oN_7 hB, oN_8 hB, oN_9 hB, oN_10 hB, oL_3 hB, oG_3 hB, oS_3 hB, oL_4 hB, oG_4 hB, oS_4 hB, oL_5 hB, oG_5 hB, oS_5 hB, oL_6 hB, oG_6 hB, oS_6 hB, oL_7 hB, oG_7 hB, oS_7 hB, oL_8 hB, oG_8 hB, oS_8 hB, oL_9 hB, oG_9 hB, oS_9 hB, oL_10 hB, oG_10 hB, oS_10 hB, oL_11 hB, oG_11 hB, oS_11 hB, Option.some.injEq, exists_eq_left', fN_at (ho S' C).1.2, rZ8_0, rP8_0, rZ8_1, rP8_1, rZ8_2, rP8_2, rR8_3, rN8_3, rP8_3, rR8_4, rN8_4, rP8_4, rI8_5, rP8_5, rI8_6, rP8_6, rZ8_7, rP8_7, rR8_8, rN8_8, rP8_8]
      refine s_size (d := d + 17) (ho S' C).2.1 ?_
      rw [nt_le (by omega) (by omega), h0 rfl]
      exact ⟨fun _ => hK S' hS', fun hc => absurd (by omega) hc⟩
    | succ r ih =>
      intro i a S' hi hS' h0 h1
      have h1 := h1 r rfl
      obtain ⟨b, hb⟩ : ∃ b, T.2.1[i]? = some b := ⟨_, List.getElem?_eq_getElem (by omega)⟩
      obtain ⟨-, nm, hc⟩ := (ho S' C).2.2.2.1 i b hb
      rw [show r + 1 + 1 = (r + 1) + 1 from rfl, Z_X3_grundyOfAll_13]
      simp only [F_X3_grundyOfAll_13, oR_0 hB, oN_0 hB, oI_1 hB, oN_2 hB, oN_3 hB, oN_4 hB, oN_5 hB, oN_6 hB, oN_7 hB, oN_8 hB, oN_9 hB, oN_10 hB, oL_3 hB, oG_3 hB, oS_3 hB, oL_4 hB, oG_4 hB, oS_4 hB, oL_5 hB, oG_5 hB, oS_5 hB, oL_6 hB, oG_6 hB, oS_6 hB, oL_7 hB, oG_7 hB, oS_7 hB, oL_8 hB, oG_8 hB, oS_8 hB, oL_9 hB, oG_9 hB, oS_9 hB, oL_10 hB, oG_10 hB, oS_10 hB, oL_11 hB, oG_11 hB, oS_11 hB, Option.some.injEq, exists_eq_left', fN_at (ho S' C).1.2, rZ8_0, rP8_0, rZ8_1, rP8_1, rZ8_2, rP8_2, rR8_3, rN8_3, rP8_3, rR8_4, rN8_4, rP8_4, rI8_5, rP8_5, rI8_6, rP8_6, rZ8_7, rP8_7, rR8_8, rN8_8, rP8_8]
      refine s_size (d := d + 17) (ho S' C).2.1 ?_
      rw [nt_le (by omega) (by omega)]
      refine ⟨fun hc => by omega, fun _ => ?_⟩
      simp only [oR_0 hB, oN_0 hB, oI_1 hB, oN_2 hB, oN_3 hB, oN_4 hB, oN_5 hB, oN_6 hB, oN_7 hB, oN_8 hB, oN_9 hB, oN_10 hB, oL_3 hB, oG_3 hB, oS_3 hB, oL_4 hB, oG_4 hB, oS_4 hB, oL_5 hB, oG_5 hB, oS_5 hB, oL_6 hB, oG_6 hB, oS_6 hB, oL_7 hB, oG_7 hB, oS_7 hB, oL_8 hB, oG_8 hB, oS_8 hB, oL_9 hB, oG_9 hB, oS_9 hB, oL_10 hB, oG_10 hB, oS_10 hB, oL_11 hB, oG_11 hB, oS_11 hB, Option.some.injEq, exists_eq_left', fN_at (ho S' C).1.2, rZ8_0, rP8_0, rZ8_1, rP8_1, rZ8_2, rP8_2, rR8_3, rN8_3, rP8_3, rR8_4, rN8_4, rP8_4, rI8_5, rP8_5, rI8_6, rP8_6, rZ8_7, rP8_7, rR8_8, rN8_8, rP8_8]
      refine s_get (d := d + 14) (ho S' C).2.1 (by omega) ⟨rv_at hc ⟨_, rfl⟩, s_X3_grundyOf (d := d) hh hb htk hS' fun S2 a1 => ?_⟩
      rw [nt_xor, show nI i + 1 = nI (i + 1) from nt_add i 1]
      have hno : ∀ k, T.2.1.length ≤ k → gr T (allL T) (some k) tk = 0 := fun k hk => gr_no hW (List.getElem?_eq_none hk) tk
      refine ih (i + 1) _ S2 (by omega) a1 (fun hr => ?_) (fun r' hr => ?_)
      · have hi2 : i = 0 ∨ i = 1 ∨ i = 2 := by omega
        rcases hi2 with rfl | rfl | rfl
        · rw [if_pos rfl, gx, hno 1 (by omega), hno 2 (by omega)] at h1
          rw [gx, hno 1 (by omega), hno 2 (by omega)]
          simpa using h1
        · rw [if_neg (by decide), if_pos rfl, hno 2 (by omega)] at h1
          simpa using h1
        · rw [if_neg (by decide), if_neg (by decide)] at h1
          exact h1
      · have hi2 : i = 0 ∨ i = 1 := by omega
        rcases hi2 with rfl | rfl
        · rw [if_pos rfl] at h1
          rw [if_neg (by decide), if_pos rfl, ← h1, gx]
          simp only [Nat.xor_assoc]
        · rw [if_neg (by decide), if_pos rfl] at h1
          rw [if_neg (by decide), if_neg (by decide), ← h1]
          simp only [Nat.xor_assoc]
  exact ⟨_, hz T.2.1.length 0 0 S (by omega) hS (fun h0 => by
    have hno : ∀ k, gr T (allL T) (some k) tk = 0 := fun k => gr_no hW (List.getElem?_eq_none (by omega)) tk
    rw [gx, hno 0, hno 1, hno 2]; rfl) (fun r' hr => by rw [if_pos rfl, Nat.zero_xor])⟩
end OUTG
