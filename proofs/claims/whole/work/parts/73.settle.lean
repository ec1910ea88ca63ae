/-! what is worked out of stands (Outlook): settle -/
def sc (tk who : Nat) : Nat := 2 * tk + who
def VVs (S : OS) (j : Nat) (v : VT) : Prop := wn S j = wH v ∧ sn S j = nI (wN v) ∧ fw S j = nI (wF v) ∧ mo S j = nI (wM v) ∧ lo S j = nI (wL v) ∧ wy S j = lN (wW v)
def OSI (T : TB) (st s : Nat) (S : OS) : Prop := (∀ j, j < 2 * 2 ^ s → ∃ x, x ≤ st ∧ kn S j = nI x) ∧ (∀ j, j < 2 ^ s → ∃ x, x ≤ st ∧ gk S j = nI x) ∧
  (∀ tk who, tk < 2 ^ s → who < 2 → kn S (sc tk who) = nI st → VVs S (sc tk who) (vl T (allL T) tk who)) ∧ ∀ tk, tk < 2 ^ s → gk S tk = nI st → gv S tk = nI (gr T (allL T) none tk)
def EqA (S S' : OS) (j : Nat) : Prop := kn S' j = kn S j ∧ wn S' j = wn S j ∧ sn S' j = sn S j ∧ fw S' j = fw S j ∧ mo S' j = mo S j ∧ lo S' j = lo S j ∧ wy S' j = wy S j
theorem EqA.rf {S : OS} {j : Nat} : EqA S S j := ⟨rfl, rfl, rfl, rfl, rfl, rfl, rfl⟩
theorem EqA.tr {S S' S'' : OS} {j : Nat} (h : EqA S S' j) (h' : EqA S' S'' j) : EqA S S'' j := ⟨h'.1.trans h.1, h'.2.1.trans h.2.1, h'.2.2.1.trans h.2.2.1, h'.2.2.2.1.trans h.2.2.2.1, h'.2.2.2.2.1.trans h.2.2.2.2.1, h'.2.2.2.2.2.1.trans h.2.2.2.2.2.1, h'.2.2.2.2.2.2.trans h.2.2.2.2.2.2⟩
theorem EqA.vv {S S' : OS} {j : Nat} (h : EqA S S' j) {v : VT} (hv : VVs S j v) : VVs S' j v := ⟨h.2.1.trans hv.1, h.2.2.1.trans hv.2.1, h.2.2.2.1.trans hv.2.2.1, h.2.2.2.2.1.trans hv.2.2.2.1, h.2.2.2.2.2.1.trans hv.2.2.2.2.1, h.2.2.2.2.2.2.trans hv.2.2.2.2.2⟩
/-- only at j; only where at most n squares are free -/
def Onl (j : Nat) (S S' : OS) : Prop := (∀ j', j' ≠ j → EqA S S' j') ∧ gk S' = gk S ∧ gv S' = gv S
def FrS (n : Nat) (S S' : OS) : Prop := (∀ j, n < fr (j / 2) → EqA S S' j) ∧ gk S' = gk S ∧ gv S' = gv S
theorem Onl.rf {j : Nat} {S : OS} : Onl j S S := ⟨fun _ _ => EqA.rf, rfl, rfl⟩
theorem Onl.tr {j : Nat} {S S' S'' : OS} (h : Onl j S S') (h' : Onl j S' S'') : Onl j S S'' := ⟨fun j' hj => (h.1 j' hj).tr (h'.1 j' hj), h'.2.1.trans h.2.1, h'.2.2.trans h.2.2⟩
theorem FrS.rf {n : Nat} {S : OS} : FrS n S S := ⟨fun _ _ => EqA.rf, rfl, rfl⟩
theorem FrS.tr {n : Nat} {S S' S'' : OS} (h : FrS n S S') (h' : FrS n S' S'') : FrS n S S'' := ⟨fun j' hj => (h.1 j' hj).tr (h'.1 j' hj), h'.2.1.trans h.2.1, h'.2.2.trans h.2.2⟩
theorem FrS.mo {n n' : Nat} {S S' : OS} (h : FrS n S S') (hn : n ≤ n') : FrS n' S S' := ⟨fun j' hj => h.1 j' (by omega), h.2⟩
theorem Onl.fr {j n : Nat} {S S' : OS} (h : Onl j S S') (hn : fr (j / 2) ≤ n) : FrS n S S' := ⟨fun j' hj => h.1 j' fun e => by subst e; omega, h.2⟩
theorem OSI.on {T : TB} {st s tk who : Nat} {S S' : OS} (h : OSI T st s S) (ho : Onl (sc tk who) S S') (hw : who < 2) (hk : ∃ x, x ≤ st ∧ kn S' (sc tk who) = nI x) (hv : kn S' (sc tk who) = nI st → VVs S' (sc tk who) (vl T (allL T) tk who)) : OSI T st s S' := by
  obtain ⟨h1, h2, h3, h4⟩ := h
  refine ⟨fun j hj => ?_, by rw [ho.2.1]; exact h2, fun tk' who' a b c => ?_, by rw [ho.2.1, ho.2.2]; exact h4⟩
  · by_cases e : j = sc tk who
    · subst e; exact hk
    · rw [(ho.1 j e).1]; exact h1 j hj
  · by_cases e : sc tk' who' = sc tk who
    · have : tk' = tk ∧ who' = who := by unfold sc at e; omega
      obtain ⟨rfl, rfl⟩ := this
      exact hv c
    · rw [(ho.1 _ e).1] at c
      exact (ho.1 _ e).vv (h3 tk' who' a b c)
def CB (c : VT) : Prop := wN c ≤ 13 ∧ wF c ≤ 13 ∧ wM c ≤ 13 ∧ wL c ≤ 13000000 ∧ wW c ≤ 1000000000000000000
/-- what is gathered at j of the stands ps behind -/
def PAc (S : OS) (j : Nat) (ps : List VT) : Prop := wn S j = (ps.foldl rk (false, 0)).1 ∧ sn S j = nI (ps.foldl rk (false, 0)).2 ∧ fw S j = nI (ps.foldl (fun a c => min a (wF c + 1)) 14) ∧ mo S j = nI (ps.foldl (fun a c => max a (wM c + 1)) 0) ∧ wy S j = lN (ps.foldl (fun a c => min (a + wW c) 1000000000000000000) 0)
theorem EqA.pa {S S' : OS} {j : Nat} (h : EqA S S' j) {ps : List VT} (hv : PAc S j ps) : PAc S' j ps := ⟨h.2.1.trans hv.1, h.2.2.1.trans hv.2.1, h.2.2.2.1.trans hv.2.2.1, h.2.2.2.2.1.trans hv.2.2.2.1, h.2.2.2.2.2.2.trans hv.2.2.2.2⟩
theorem acc_b {ps : List VT} (h : ∀ c ∈ ps, CB c) : (ps.foldl rk (false, 0)).2 ≤ 14 ∧ ps.foldl (fun a c => min a (wF c + 1)) 14 ≤ 14 ∧ ps.foldl (fun a c => max a (wM c + 1)) 0 ≤ 14 ∧ ps.foldl (fun a c => min (a + wW c) 1000000000000000000) 0 ≤ 1000000000000000000 := by
  refine ⟨?_, ?_, ?_, ?_⟩
  · refine fold_inv (P := fun (b : Bool × Nat) => b.2 ≤ 14) ps _ (by simp) fun b c h1 h2 => ?_
    have := (h c h1).1
    simp only [rk]
    split <;> split <;> first | omega | (show _ ≤ _; omega) | (dsimp only; omega)
  · exact fold_inv (P := fun b => b ≤ 14) ps _ (by omega) fun b c h1 h2 => by omega
  · refine fold_inv (P := fun b => b ≤ 14) ps _ (by omega) fun b c h1 h2 => ?_
    have := (h c h1).2.2.1
    omega
  · exact fold_inv (P := fun b => b ≤ 1000000000000000000) ps _ (by omega) fun b c h1 h2 => by omega
theorem rk_any : ∀ (ps : List VT) (a : Bool × Nat), (ps.foldl rk a).1 = (a.1 || ps.any fun c => !wH c)
  | [], a => by simp
  | c :: ps, a => by
    rw [List.foldl_cons, rk_any ps, List.any_cons]
    have h1 : (rk a c).1 = (a.1 || !wH c) := by
      unfold rk
      cases wH c <;> cases h : a.1 <;> simp [h]
    rw [h1, Bool.or_assoc]
section SETTLE
variable {l : Launch} {G : GG} {d : Nat} {P : Nat → Nat} {C : Nat → CE} {τ : Hp} {Q : Nat → Prop} {X : TX} {T : TB} {st s : Nat} {S : OS}
theorem hXo (hX : TBr Q τ X T) (hQ : ∀ q, Q q → outB 75 P q) (tb : Option Nat) (st s : Nat) (S : OS) (C : Nat → CE) : TBr Q (oh P tb st s S C τ) X T := hX.mo fun q hq => oh_r (hQ q hq)
theorem pow14 {s : Nat} (h : s ≤ 14) : 2 ^ s ≤ 16384 := Nat.pow_le_pow_right (n := 2) (by decide) h
theorem s_X3_stateOf (hB : okB 75 P) (hs : s ≤ 14) {tk who tb : Nat} (htk : tk < 2 ^ s) (hwho : who < 2) {K : Int32 → Hp → Prop} (hK : K (nI (sc tk who)) (oh P (some tb) st s S C τ)) : C_X3_stateOf l G (d + 1) (P 2) (nI tk) (nI who) (oh P (some tb) st s S C τ) K := by
  have h14 := pow14 hs
  refine m_X3_stateOf (rv_o hB) ?_
  simp only [F_X3_stateOf_31, F_X3_stateOf_26, F_X3_stateOf, oR_0 hB, oN_0 hB, oI_1 hB, oN_2 hB, oN_3 hB, oN_4 hB, oN_5 hB, oN_6 hB, oN_7 hB, oN_8 hB, oN_9 hB, oN_10 hB, oL_3 hB, oG_3 hB, oS_3 hB, oL_4 hB, oG_4 hB, oS_4 hB, oL_5 hB, oG_5 hB, oS_5 hB, oL_6 hB, oG_6 hB, oS_6 hB, oL_7 hB, oG_7 hB, oS_7 hB, oL_8 hB, oG_8 hB, oS_8 hB, oL_9 hB, oG_9 hB, oS_9 hB, oL_10 hB, oG_10 hB, oS_10 hB, oL_11 hB, oG_11 hB, oS_11 hB, reduceCtorEq, false_implies, true_implies, forall_const, true_and, and_true, eq_self, Option.some.injEq, forall_eq']
  rw [show (2 : Int32) = nI 2 from rfl, nt_mul, nt_add]
  rw [nt_lt (show 2 * tk + who < 2 ^ 31 by omega) (by omega)]
  exact ⟨fun hc => absurd hc (nt_neg (by omega)), fun _ => ⟨fun _ => hK, fun hc => absurd (by omega) hc⟩⟩
theorem s_X3_reckonWinner (hB : okB 75 P) (hs : s ≤ 14) {tb : Option Nat} {j : Nat} (hj : j < 2 * 2 ^ s) {ps : List VT} {c : VT} (hps : ∀ c ∈ ps, CB c) (hc : CB c) (h1 : wn S j = (ps.foldl rk (false, 0)).1) (h2 : sn S j = nI (ps.foldl rk (false, 0)).2) {K : Hp → Prop} (hK : ∀ S', Onl j S S' → kn S' j = kn S j ∧ fw S' j = fw S j ∧ mo S' j = mo S j ∧ wy S' j = wy S j → wn S' j = ((ps ++ [c]).foldl rk (false, 0)).1 → sn S' j = nI ((ps ++ [c]).foldl rk (false, 0)).2 → K (oh P tb st s S' C τ)) : C_X3_reckonWinner l G (d + 1) (P 2) (nI j) (!wH c) (nI (wN c + 1)) (oh P tb st s S C τ) K := by
  have h14 := pow14 hs
  have hin : vp_in (nI j) (2 * 2 ^ s) := (nt_in (by omega)).mpr hj
  have hcl : (nI j).toNatClampNeg = j := nI_clamp (by omega)
  have hb := (acc_b hps).1
  have hcn := hc.1
  rw [List.foldl_append, List.foldl_cons, List.foldl_nil] at hK
  generalize ps.foldl rk (false, 0) = a at h1 h2 hK hb
  obtain ⟨a1, a2⟩ := a
  simp only at h1 h2 hb
  refine m_X3_reckonWinner (rv_o hB) ?_
  have on1 : ∀ (x : Int32), Onl j S (u_sn S (up_ (sn S) j x)) := fun x => ⟨fun j' hj' => ⟨rfl, rfl, by rw [o_sn_sn, up_ne hj'], rfl, rfl, rfl, rfl⟩, rfl, rfl⟩
  have on2 : ∀ (x : Int32) (y : Bool), Onl j S (u_sn (u_wn S (up_ (wn S) j y)) (up_ (sn S) j x)) := fun x y => ⟨fun j' hj' => ⟨rfl, by rw [o_wn_sn, o_wn_wn, up_ne hj'], by rw [o_sn_sn, up_ne hj'], rfl, rfl, rfl, rfl⟩, rfl, rfl⟩
  simp only [F_X3_reckonWinner_78, F_X3_reckonWinner_30, F_X3_reckonWinner, oR_0 hB, oN_0 hB, oI_1 hB, oN_2 hB, oN_3 hB, oN_4 hB, oN_5 hB, oN_6 hB, oN_7 hB, oN_8 hB, oN_9 hB, oN_10 hB, oL_3 hB, oG_3 hB, oS_3 hB, oL_4 hB, oG_4 hB, oS_4 hB, oL_5 hB, oG_5 hB, oS_5 hB, oL_6 hB, oG_6 hB, oS_6 hB, oL_7 hB, oG_7 hB, oS_7 hB, oL_8 hB, oG_8 hB, oS_8 hB, oL_9 hB, oG_9 hB, oS_9 hB, oL_10 hB, oG_10 hB, oS_10 hB, oL_11 hB, oG_11 hB, oS_11 hB, o_kn_kn, o_wn_kn, o_sn_kn, o_fw_kn, o_mo_kn, o_lo_kn, o_wy_kn, o_gk_kn, o_gv_kn, o_kn_wn, o_wn_wn, o_sn_wn, o_fw_wn, o_mo_wn, o_lo_wn, o_wy_wn, o_gk_wn, o_gv_wn, o_kn_sn, o_wn_sn, o_sn_sn, o_fw_sn, o_mo_sn, o_lo_sn, o_wy_sn, o_gk_sn, o_gv_sn, o_kn_fw, o_wn_fw, o_sn_fw, o_fw_fw, o_mo_fw, o_lo_fw, o_wy_fw, o_gk_fw, o_gv_fw, o_kn_mo, o_wn_mo, o_sn_mo, o_fw_mo, o_mo_mo, o_lo_mo, o_wy_mo, o_gk_mo, o_gv_mo, o_kn_lo, o_wn_lo, o_sn_lo, o_fw_lo, o_mo_lo, o_lo_lo, o_wy_lo, o_gk_lo, o_gv_lo, o_kn_wy, o_wn_wy, o_sn_wy, o_fw_wy, o_mo_wy, o_lo_wy, o_wy_wy, o_gk_wy, o_gv_wy, o_kn_gk, o_wn_gk, o_sn_gk, o_fw_gk, o_mo_gk, o_lo_gk, o_wy_gk, o_gk_gk, o_gv_gk, o_kn_gv, o_wn_gv, o_sn_gv, o_fw_gv, o_mo_gv, o_lo_gv, o_wy_gv, o_gk_gv, o_gv_gv, hcl, h1, h2]
  cases hw : wH c with
  | true =>
    have hr : rk (a1, a2) c = if a1 then (a1, a2) else (false, max a2 (wN c + 1)) := by simp only [rk, hw, if_true]
    simp only [Bool.not_true, reduceCtorEq, false_implies, true_implies, forall_const, true_and, and_true, eq_self]
    refine ⟨hin, fun h3 => ?_, fun h3 => ⟨hin, hin, ?_⟩⟩
    · subst h3
      rw [if_pos rfl] at hr
      exact hK S Onl.rf ⟨rfl, rfl, rfl, rfl⟩ (by rw [hr, h1]) (by rw [hr, h2])
    · subst h3
      rw [if_neg (by decide)] at hr
      refine hK _ (on1 _) ⟨rfl, rfl, rfl, rfl⟩ (by rw [hr]; exact h1) ?_
      rw [hr, o_sn_sn, up_eq]
      by_cases h5 : a2 < wN c + 1
      · rw [if_pos ((nt_lt (by omega) (by omega)).mpr h5)]; congr 1; simp only; omega
      · rw [if_neg fun e => h5 ((nt_lt (by omega) (by omega)).mp e)]; congr 1; simp only; omega
  | false =>
    have hr : rk (a1, a2) c = if a1 then (true, min a2 (wN c + 1)) else (true, wN c + 1) := by simp only [rk, hw, Bool.false_eq_true, if_false]
    simp only [Bool.not_false, reduceCtorEq, false_implies, true_implies, forall_const, true_and, and_true, eq_self]
    refine ⟨hin, fun h3 => ⟨hin, hin, ?_⟩, fun h3 => ⟨hin, hin, ?_⟩⟩
    · subst h3
      rw [if_pos rfl] at hr
      refine hK _ (on1 _) ⟨rfl, rfl, rfl, rfl⟩ (by rw [hr]; exact h1) ?_
      rw [hr, o_sn_sn, up_eq]
      by_cases h5 : wN c + 1 < a2
      · rw [if_pos ((nt_lt (by omega) (by omega)).mpr h5)]; congr 1; simp only; omega
      · rw [if_neg fun e => h5 ((nt_lt (by omega) (by omega)).mp e)]; congr 1; simp only; omega
    · subst h3
      rw [if_neg (by decide)] at hr
      refine hK _ (on2 _ _) ⟨rfl, rfl, rfl, rfl⟩ (by rw [hr, o_wn_sn, o_wn_wn, up_eq]) ?_
      rw [hr, o_sn_sn, up_eq]
theorem s_X3_reckon (hB : okB 75 P) (hs : s ≤ 14) {tb : Option Nat} {j j' : Nat} (hj : j < 2 * 2 ^ s) (hj' : j' < 2 * 2 ^ s) (hne : j' ≠ j) {ps : List VT} {c : VT} (hps : ∀ c ∈ ps, CB c) (hc : CB c) (hpa : PAc S j ps) (hv : VVs S j' c) {K : Hp → Prop} (hK : ∀ S', Onl j S S' → kn S' j = kn S j → PAc S' j (ps ++ [c]) → K (oh P tb st s S' C τ)) : C_X3_reckon l G (d + 2) (P 2) (nI j) (nI j') (oh P tb st s S C τ) K := by
  have h14 := pow14 hs
  have hin : vp_in (nI j) (2 * 2 ^ s) := (nt_in (by omega)).mpr hj
  have hin' : vp_in (nI j') (2 * 2 ^ s) := (nt_in (by omega)).mpr hj'
  have hcl : (nI j).toNatClampNeg = j := nI_clamp (by omega)
  have hcl' : (nI j').toNatClampNeg = j' := nI_clamp (by omega)
  obtain ⟨b1, b2, b3, b4⟩ := acc_b hps
  obtain ⟨p1, p2, p3, p4, p5⟩ := hpa
  obtain ⟨v1, v2, v3, v4, v5, v6⟩ := hv
  obtain ⟨c1, c2, c3, c4, c5⟩ := hc
  refine m_X3_reckon (rv_o hB) ?_
  have h16 : F_X3_reckon_16 l G (d + 1) (P 2) (nI j) (nI j') (P 2) (nI j) (!wH c) (oh P tb st s S C τ) K := by
    simp only [F_X3_reckon_16, oR_0 hB, oN_0 hB, oI_1 hB, oN_2 hB, oN_3 hB, oN_4 hB, oN_5 hB, oN_6 hB, oN_7 hB, oN_8 hB, oN_9 hB, oN_10 hB, oL_3 hB, oG_3 hB, oS_3 hB, oL_4 hB, oG_4 hB, oS_4 hB, oL_5 hB, oG_5 hB, oS_5 hB, oL_6 hB, oG_6 hB, oS_6 hB, oL_7 hB, oG_7 hB, oS_7 hB, oL_8 hB, oG_8 hB, oS_8 hB, oL_9 hB, oG_9 hB, oS_9 hB, oL_10 hB, oG_10 hB, oS_10 hB, oL_11 hB, oG_11 hB, oS_11 hB, o_kn_kn, o_wn_kn, o_sn_kn, o_fw_kn, o_mo_kn, o_lo_kn, o_wy_kn, o_gk_kn, o_gv_kn, o_kn_wn, o_wn_wn, o_sn_wn, o_fw_wn, o_mo_wn, o_lo_wn, o_wy_wn, o_gk_wn, o_gv_wn, o_kn_sn, o_wn_sn, o_sn_sn, o_fw_sn, o_mo_sn, o_lo_sn, o_wy_sn, o_gk_sn, o_gv_sn, o_kn_fw, o_wn_fw, o_sn_fw, o_fw_fw, o_mo_fw, o_lo_fw, o_wy_fw, o_gk_fw, o_gv_fw, o_kn_mo, o_wn_mo, o_sn_mo, o_fw_mo, o_mo_mo, o_lo_mo, o_wy_mo, o_gk_mo, o_gv_mo, o_kn_lo, o_wn_lo, o_sn_lo, o_fw_lo, o_mo_lo, o_lo_lo, o_wy_lo, o_gk_lo, o_gv_lo, o_kn_wy, o_wn_wy, o_sn_wy, o_fw_wy, o_mo_wy, o_lo_wy, o_wy_wy, o_gk_wy, o_gv_wy, o_kn_gk, o_wn_gk, o_sn_gk, o_fw_gk, o_mo_gk, o_lo_gk, o_wy_gk, o_gk_gk, o_gv_gk, o_kn_gv, o_wn_gv, o_sn_gv, o_fw_gv, o_mo_gv, o_lo_gv, o_wy_gv, o_gk_gv, o_gv_gv, hcl, hcl', v2]
    refine ⟨hin', ?_⟩
    rw [show nI (wN c) + 1 = nI (wN c + 1) from nt_add _ 1]
    refine s_X3_reckonWinner (d := d) hB hs hj hps ⟨c1, c2, c3, c4, c5⟩ p1 p2 fun S1 e1 e2 e3 e4 => ?_
    have q := e1.1 j' hne
    have k3 : fw S1 j' = nI (wF c) := q.2.2.2.1.trans v3
    have k4 : mo S1 j' = nI (wM c) := q.2.2.2.2.1.trans v4
    have k6 : wy S1 j' = lN (wW c) := q.2.2.2.2.2.2.trans v6
    have k3' := e2.2.1.trans p3
    have k4' := e2.2.2.1.trans p4
    have k6' := e2.2.2.2.trans p5
    simp only [oR_0 hB, oN_0 hB, oI_1 hB, oN_2 hB, oN_3 hB, oN_4 hB, oN_5 hB, oN_6 hB, oN_7 hB, oN_8 hB, oN_9 hB, oN_10 hB, oL_3 hB, oG_3 hB, oS_3 hB, oL_4 hB, oG_4 hB, oS_4 hB, oL_5 hB, oG_5 hB, oS_5 hB, oL_6 hB, oG_6 hB, oS_6 hB, oL_7 hB, oG_7 hB, oS_7 hB, oL_8 hB, oG_8 hB, oS_8 hB, oL_9 hB, oG_9 hB, oS_9 hB, oL_10 hB, oG_10 hB, oS_10 hB, oL_11 hB, oG_11 hB, oS_11 hB, o_kn_kn, o_wn_kn, o_sn_kn, o_fw_kn, o_mo_kn, o_lo_kn, o_wy_kn, o_gk_kn, o_gv_kn, o_kn_wn, o_wn_wn, o_sn_wn, o_fw_wn, o_mo_wn, o_lo_wn, o_wy_wn, o_gk_wn, o_gv_wn, o_kn_sn, o_wn_sn, o_sn_sn, o_fw_sn, o_mo_sn, o_lo_sn, o_wy_sn, o_gk_sn, o_gv_sn, o_kn_fw, o_wn_fw, o_sn_fw, o_fw_fw, o_mo_fw, o_lo_fw, o_wy_fw, o_gk_fw, o_gv_fw, o_kn_mo, o_wn_mo, o_sn_mo, o_fw_mo, o_mo_mo, o_lo_mo, o_wy_mo, o_gk_mo, o_gv_mo, o_kn_lo, o_wn_lo, o_sn_lo, o_fw_lo, o_mo_lo, o_lo_lo, o_wy_lo, o_gk_lo, o_gv_lo, o_kn_wy, o_wn_wy, o_sn_wy, o_fw_wy, o_mo_wy, o_lo_wy, o_wy_wy, o_gk_wy, o_gv_wy, o_kn_gk, o_wn_gk, o_sn_gk, o_fw_gk, o_mo_gk, o_lo_gk, o_wy_gk, o_gk_gk, o_gv_gk, o_kn_gv, o_wn_gv, o_sn_gv, o_fw_gv, o_mo_gv, o_lo_gv, o_wy_gv, o_gk_gv, o_gv_gv, hcl, hcl', k3, k4, k6, k3', k4', k6', show ∀ n, nI n + 1 = nI (n + 1) from fun n => nt_add n 1, lN_add]
    refine ⟨hin, hin', hin, hin, hin', hin, hin, hin', hin, ?_⟩
    refine hK _ ⟨fun i hi => ?_, e1.2.1, e1.2.2⟩ e2.1 ⟨?_, ?_, ?_, ?_, ?_⟩
    · obtain ⟨r1, r2, r3, r4, r5, r6, r7⟩ := e1.1 i hi
      refine ⟨r1, r2, r3, ?_, ?_, r6, ?_⟩
      · simp only [o_kn_kn, o_wn_kn, o_sn_kn, o_fw_kn, o_mo_kn, o_lo_kn, o_wy_kn, o_gk_kn, o_gv_kn, o_kn_wn, o_wn_wn, o_sn_wn, o_fw_wn, o_mo_wn, o_lo_wn, o_wy_wn, o_gk_wn, o_gv_wn, o_kn_sn, o_wn_sn, o_sn_sn, o_fw_sn, o_mo_sn, o_lo_sn, o_wy_sn, o_gk_sn, o_gv_sn, o_kn_fw, o_wn_fw, o_sn_fw, o_fw_fw, o_mo_fw, o_lo_fw, o_wy_fw, o_gk_fw, o_gv_fw, o_kn_mo, o_wn_mo, o_sn_mo, o_fw_mo, o_mo_mo, o_lo_mo, o_wy_mo, o_gk_mo, o_gv_mo, o_kn_lo, o_wn_lo, o_sn_lo, o_fw_lo, o_mo_lo, o_lo_lo, o_wy_lo, o_gk_lo, o_gv_lo, o_kn_wy, o_wn_wy, o_sn_wy, o_fw_wy, o_mo_wy, o_lo_wy, o_wy_wy, o_gk_wy, o_gv_wy, o_kn_gk, o_wn_gk, o_sn_gk, o_fw_gk, o_mo_gk, o_lo_gk, o_wy_gk, o_gk_gk, o_gv_gk, o_kn_gv, o_wn_gv, o_sn_gv, o_fw_gv, o_mo_gv, o_lo_gv, o_wy_gv, o_gk_gv, o_gv_gv]; rw [up_ne hi]; exact r4
      · simp only [o_kn_kn, o_wn_kn, o_sn_kn, o_fw_kn, o_mo_kn, o_lo_kn, o_wy_kn, o_gk_kn, o_gv_kn, o_kn_wn, o_wn_wn, o_sn_wn, o_fw_wn, o_mo_wn, o_lo_wn, o_wy_wn, o_gk_wn, o_gv_wn, o_kn_sn, o_wn_sn, o_sn_sn, o_fw_sn, o_mo_sn, o_lo_sn, o_wy_sn, o_gk_sn, o_gv_sn, o_kn_fw, o_wn_fw, o_sn_fw, o_fw_fw, o_mo_fw, o_lo_fw, o_wy_fw, o_gk_fw, o_gv_fw, o_kn_mo, o_wn_mo, o_sn_mo, o_fw_mo, o_mo_mo, o_lo_mo, o_wy_mo, o_gk_mo, o_gv_mo, o_kn_lo, o_wn_lo, o_sn_lo, o_fw_lo, o_mo_lo, o_lo_lo, o_wy_lo, o_gk_lo, o_gv_lo, o_kn_wy, o_wn_wy, o_sn_wy, o_fw_wy, o_mo_wy, o_lo_wy, o_wy_wy, o_gk_wy, o_gv_wy, o_kn_gk, o_wn_gk, o_sn_gk, o_fw_gk, o_mo_gk, o_lo_gk, o_wy_gk, o_gk_gk, o_gv_gk, o_kn_gv, o_wn_gv, o_sn_gv, o_fw_gv, o_mo_gv, o_lo_gv, o_wy_gv, o_gk_gv, o_gv_gv]; rw [up_ne hi]; exact r5
      · simp only [o_kn_kn, o_wn_kn, o_sn_kn, o_fw_kn, o_mo_kn, o_lo_kn, o_wy_kn, o_gk_kn, o_gv_kn, o_kn_wn, o_wn_wn, o_sn_wn, o_fw_wn, o_mo_wn, o_lo_wn, o_wy_wn, o_gk_wn, o_gv_wn, o_kn_sn, o_wn_sn, o_sn_sn, o_fw_sn, o_mo_sn, o_lo_sn, o_wy_sn, o_gk_sn, o_gv_sn, o_kn_fw, o_wn_fw, o_sn_fw, o_fw_fw, o_mo_fw, o_lo_fw, o_wy_fw, o_gk_fw, o_gv_fw, o_kn_mo, o_wn_mo, o_sn_mo, o_fw_mo, o_mo_mo, o_lo_mo, o_wy_mo, o_gk_mo, o_gv_mo, o_kn_lo, o_wn_lo, o_sn_lo, o_fw_lo, o_mo_lo, o_lo_lo, o_wy_lo, o_gk_lo, o_gv_lo, o_kn_wy, o_wn_wy, o_sn_wy, o_fw_wy, o_mo_wy, o_lo_wy, o_wy_wy, o_gk_wy, o_gv_wy, o_kn_gk, o_wn_gk, o_sn_gk, o_fw_gk, o_mo_gk, o_lo_gk, o_wy_gk, o_gk_gk, o_gv_gk, o_kn_gv, o_wn_gv, o_sn_gv, o_fw_gv, o_mo_gv, o_lo_gv, o_wy_gv, o_gk_gv, o_gv_gv]; rw [up_ne hi]; exact r7
    · simp only [o_kn_kn, o_wn_kn, o_sn_kn, o_fw_kn, o_mo_kn, o_lo_kn, o_wy_kn, o_gk_kn, o_gv_kn, o_kn_wn, o_wn_wn, o_sn_wn, o_fw_wn, o_mo_wn, o_lo_wn, o_wy_wn, o_gk_wn, o_gv_wn, o_kn_sn, o_wn_sn, o_sn_sn, o_fw_sn, o_mo_sn, o_lo_sn, o_wy_sn, o_gk_sn, o_gv_sn, o_kn_fw, o_wn_fw, o_sn_fw, o_fw_fw, o_mo_fw, o_lo_fw, o_wy_fw, o_gk_fw, o_gv_fw, o_kn_mo, o_wn_mo, o_sn_mo, o_fw_mo, o_mo_mo, o_lo_mo, o_wy_mo, o_gk_mo, o_gv_mo, o_kn_lo, o_wn_lo, o_sn_lo, o_fw_lo, o_mo_lo, o_lo_lo, o_wy_lo, o_gk_lo, o_gv_lo, o_kn_wy, o_wn_wy, o_sn_wy, o_fw_wy, o_mo_wy, o_lo_wy, o_wy_wy, o_gk_wy, o_gv_wy, o_kn_gk, o_wn_gk, o_sn_gk, o_fw_gk, o_mo_gk, o_lo_gk, o_wy_gk, o_gk_gk, o_gv_gk, o_kn_gv, o_wn_gv, o_sn_gv, o_fw_gv, o_mo_gv, o_lo_gv, o_wy_gv, o_gk_gv, o_gv_gv]; exact e3
    · simp only [o_kn_kn, o_wn_kn, o_sn_kn, o_fw_kn, o_mo_kn, o_lo_kn, o_wy_kn, o_gk_kn, o_gv_kn, o_kn_wn, o_wn_wn, o_sn_wn, o_fw_wn, o_mo_wn, o_lo_wn, o_wy_wn, o_gk_wn, o_gv_wn, o_kn_sn, o_wn_sn, o_sn_sn, o_fw_sn, o_mo_sn, o_lo_sn, o_wy_sn, o_gk_sn, o_gv_sn, o_kn_fw, o_wn_fw, o_sn_fw, o_fw_fw, o_mo_fw, o_lo_fw, o_wy_fw, o_gk_fw, o_gv_fw, o_kn_mo, o_wn_mo, o_sn_mo, o_fw_mo, o_mo_mo, o_lo_mo, o_wy_mo, o_gk_mo, o_gv_mo, o_kn_lo, o_wn_lo, o_sn_lo, o_fw_lo, o_mo_lo, o_lo_lo, o_wy_lo, o_gk_lo, o_gv_lo, o_kn_wy, o_wn_wy, o_sn_wy, o_fw_wy, o_mo_wy, o_lo_wy, o_wy_wy, o_gk_wy, o_gv_wy, o_kn_gk, o_wn_gk, o_sn_gk, o_fw_gk, o_mo_gk, o_lo_gk, o_wy_gk, o_gk_gk, o_gv_gk, o_kn_gv, o_wn_gv, o_sn_gv, o_fw_gv, o_mo_gv, o_lo_gv, o_wy_gv, o_gk_gv, o_gv_gv]; exact e4
    · simp only [o_kn_kn, o_wn_kn, o_sn_kn, o_fw_kn, o_mo_kn, o_lo_kn, o_wy_kn, o_gk_kn, o_gv_kn, o_kn_wn, o_wn_wn, o_sn_wn, o_fw_wn, o_mo_wn, o_lo_wn, o_wy_wn, o_gk_wn, o_gv_wn, o_kn_sn, o_wn_sn, o_sn_sn, o_fw_sn, o_mo_sn, o_lo_sn, o_wy_sn, o_gk_sn, o_gv_sn, o_kn_fw, o_wn_fw, o_sn_fw, o_fw_fw, o_mo_fw, o_lo_fw, o_wy_fw, o_gk_fw, o_gv_fw, o_kn_mo, o_wn_mo, o_sn_mo, o_fw_mo, o_mo_mo, o_lo_mo, o_wy_mo, o_gk_mo, o_gv_mo, o_kn_lo, o_wn_lo, o_sn_lo, o_fw_lo, o_mo_lo, o_lo_lo, o_wy_lo, o_gk_lo, o_gv_lo, o_kn_wy, o_wn_wy, o_sn_wy, o_fw_wy, o_mo_wy, o_lo_wy, o_wy_wy, o_gk_wy, o_gv_wy, o_kn_gk, o_wn_gk, o_sn_gk, o_fw_gk, o_mo_gk, o_lo_gk, o_wy_gk, o_gk_gk, o_gv_gk, o_kn_gv, o_wn_gv, o_sn_gv, o_fw_gv, o_mo_gv, o_lo_gv, o_wy_gv, o_gk_gv, o_gv_gv]
      rw [up_eq, List.foldl_append, List.foldl_cons, List.foldl_nil]
      generalize ps.foldl (fun a c => min a (wF c + 1)) 14 = a at b2
      by_cases h5 : wF c + 1 < a
      · rw [if_pos ((nt_lt (by omega) (by omega)).mpr h5)]; congr 1; omega
      · rw [if_neg fun e => h5 ((nt_lt (by omega) (by omega)).mp e)]; congr 1; omega
    · simp only [o_kn_kn, o_wn_kn, o_sn_kn, o_fw_kn, o_mo_kn, o_lo_kn, o_wy_kn, o_gk_kn, o_gv_kn, o_kn_wn, o_wn_wn, o_sn_wn, o_fw_wn, o_mo_wn, o_lo_wn, o_wy_wn, o_gk_wn, o_gv_wn, o_kn_sn, o_wn_sn, o_sn_sn, o_fw_sn, o_mo_sn, o_lo_sn, o_wy_sn, o_gk_sn, o_gv_sn, o_kn_fw, o_wn_fw, o_sn_fw, o_fw_fw, o_mo_fw, o_lo_fw, o_wy_fw, o_gk_fw, o_gv_fw, o_kn_mo, o_wn_mo, o_sn_mo, o_fw_mo, o_mo_mo, o_lo_mo, o_wy_mo, o_gk_mo, o_gv_mo, o_kn_lo, o_wn_lo, o_sn_lo, o_fw_lo, o_mo_lo, o_lo_lo, o_wy_lo, o_gk_lo, o_gv_lo, o_kn_wy, o_wn_wy, o_sn_wy, o_fw_wy, o_mo_wy, o_lo_wy, o_wy_wy, o_gk_wy, o_gv_wy, o_kn_gk, o_wn_gk, o_sn_gk, o_fw_gk, o_mo_gk, o_lo_gk, o_wy_gk, o_gk_gk, o_gv_gk, o_kn_gv, o_wn_gv, o_sn_gv, o_fw_gv, o_mo_gv, o_lo_gv, o_wy_gv, o_gk_gv, o_gv_gv]
      rw [up_eq, List.foldl_append, List.foldl_cons, List.foldl_nil]
      generalize ps.foldl (fun a c => max a (wM c + 1)) 0 = a at b3
      by_cases h5 : a < wM c + 1
      · rw [if_pos ((nt_lt (by omega) (by omega)).mpr h5)]; congr 1; omega
      · rw [if_neg fun e => h5 ((nt_lt (by omega) (by omega)).mp e)]; congr 1; omega
    · simp only [o_kn_kn, o_wn_kn, o_sn_kn, o_fw_kn, o_mo_kn, o_lo_kn, o_wy_kn, o_gk_kn, o_gv_kn, o_kn_wn, o_wn_wn, o_sn_wn, o_fw_wn, o_mo_wn, o_lo_wn, o_wy_wn, o_gk_wn, o_gv_wn, o_kn_sn, o_wn_sn, o_sn_sn, o_fw_sn, o_mo_sn, o_lo_sn, o_wy_sn, o_gk_sn, o_gv_sn, o_kn_fw, o_wn_fw, o_sn_fw, o_fw_fw, o_mo_fw, o_lo_fw, o_wy_fw, o_gk_fw, o_gv_fw, o_kn_mo, o_wn_mo, o_sn_mo, o_fw_mo, o_mo_mo, o_lo_mo, o_wy_mo, o_gk_mo, o_gv_mo, o_kn_lo, o_wn_lo, o_sn_lo, o_fw_lo, o_mo_lo, o_lo_lo, o_wy_lo, o_gk_lo, o_gv_lo, o_kn_wy, o_wn_wy, o_sn_wy, o_fw_wy, o_mo_wy, o_lo_wy, o_wy_wy, o_gk_wy, o_gv_wy, o_kn_gk, o_wn_gk, o_sn_gk, o_fw_gk, o_mo_gk, o_lo_gk, o_wy_gk, o_gk_gk, o_gv_gk, o_kn_gv, o_wn_gv, o_sn_gv, o_fw_gv, o_mo_gv, o_lo_gv, o_wy_gv, o_gk_gv, o_gv_gv]
      rw [up_eq, List.foldl_append, List.foldl_cons, List.foldl_nil]
      generalize ps.foldl (fun a c => min (a + wW c) 1000000000000000000) 0 = a at b4
      rw [show (1000000000000000000 : Int64) = lN 1000000000000000000 from rfl]
      by_cases h5 : 1000000000000000000 < a + wW c
      · rw [if_pos ((pk_lLT (by omega) (by omega)).mpr h5)]; congr 1; omega
      · rw [if_neg fun e => h5 ((pk_lLT (by omega) (by omega)).mp e)]; congr 1; omega
  simp only [F_X3_reckon, oR_0 hB, oN_0 hB, oI_1 hB, oN_2 hB, oN_3 hB, oN_4 hB, oN_5 hB, oN_6 hB, oN_7 hB, oN_8 hB, oN_9 hB, oN_10 hB, oL_3 hB, oG_3 hB, oS_3 hB, oL_4 hB, oG_4 hB, oS_4 hB, oL_5 hB, oG_5 hB, oS_5 hB, oL_6 hB, oG_6 hB, oS_6 hB, oL_7 hB, oG_7 hB, oS_7 hB, oL_8 hB, oG_8 hB, oS_8 hB, oL_9 hB, oG_9 hB, oS_9 hB, oL_10 hB, oG_10 hB, oS_10 hB, oL_11 hB, oG_11 hB, oS_11 hB, hcl', v1]
  refine ⟨hin', fun h => ?_, fun h => ?_⟩
  · rw [h] at h16; exact h16
  · rw [h] at h16; exact h16
theorem s_X3_clear (hB : okB 75 P) (hs : s ≤ 14) {tb : Option Nat} {j : Nat} (hj : j < 2 * 2 ^ s) {K : Hp → Prop} (hK : ∀ S', Onl j S S' → kn S' j = kn S j → PAc S' j [] → K (oh P tb st s S' C τ)) : C_X3_clear l G (d + 1) (P 2) (nI j) (oh P tb st s S C τ) K := by
  have h14 := pow14 hs
  have hin : vp_in (nI j) (2 * 2 ^ s) := (nt_in (by omega)).mpr hj
  have hcl : (nI j).toNatClampNeg = j := nI_clamp (by omega)
  refine m_X3_clear (rv_o hB) ?_
  simp only [F_X3_clear, oR_0 hB, oN_0 hB, oI_1 hB, oN_2 hB, oN_3 hB, oN_4 hB, oN_5 hB, oN_6 hB, oN_7 hB, oN_8 hB, oN_9 hB, oN_10 hB, oL_3 hB, oG_3 hB, oS_3 hB, oL_4 hB, oG_4 hB, oS_4 hB, oL_5 hB, oG_5 hB, oS_5 hB, oL_6 hB, oG_6 hB, oS_6 hB, oL_7 hB, oG_7 hB, oS_7 hB, oL_8 hB, oG_8 hB, oS_8 hB, oL_9 hB, oG_9 hB, oS_9 hB, oL_10 hB, oG_10 hB, oS_10 hB, oL_11 hB, oG_11 hB, oS_11 hB, o_kn_kn, o_wn_kn, o_sn_kn, o_fw_kn, o_mo_kn, o_lo_kn, o_wy_kn, o_gk_kn, o_gv_kn, o_kn_wn, o_wn_wn, o_sn_wn, o_fw_wn, o_mo_wn, o_lo_wn, o_wy_wn, o_gk_wn, o_gv_wn, o_kn_sn, o_wn_sn, o_sn_sn, o_fw_sn, o_mo_sn, o_lo_sn, o_wy_sn, o_gk_sn, o_gv_sn, o_kn_fw, o_wn_fw, o_sn_fw, o_fw_fw, o_mo_fw, o_lo_fw, o_wy_fw, o_gk_fw, o_gv_fw, o_kn_mo, o_wn_mo, o_sn_mo, o_fw_mo, o_mo_mo, o_lo_mo, o_wy_mo, o_gk_mo, o_gv_mo, o_kn_lo, o_wn_lo, o_sn_lo, o_fw_lo, o_mo_lo, o_lo_lo, o_wy_lo, o_gk_lo, o_gv_lo, o_kn_wy, o_wn_wy, o_sn_wy, o_fw_wy, o_mo_wy, o_lo_wy, o_wy_wy, o_gk_wy, o_gv_wy, o_kn_gk, o_wn_gk, o_sn_gk, o_fw_gk, o_mo_gk, o_lo_gk, o_wy_gk, o_gk_gk, o_gv_gk, o_kn_gv, o_wn_gv, o_sn_gv, o_fw_gv, o_mo_gv, o_lo_gv, o_wy_gv, o_gk_gv, o_gv_gv, hcl]
  refine ⟨hin, hin, hin, hin, hin, hK _ ⟨fun i hi => ⟨rfl, ?_, ?_, ?_, ?_, rfl, ?_⟩, rfl, rfl⟩ rfl ⟨?_, ?_, ?_, ?_, ?_⟩⟩
  all_goals simp only [o_kn_kn, o_wn_kn, o_sn_kn, o_fw_kn, o_mo_kn, o_lo_kn, o_wy_kn, o_gk_kn, o_gv_kn, o_kn_wn, o_wn_wn, o_sn_wn, o_fw_wn, o_mo_wn, o_lo_wn, o_wy_wn, o_gk_wn, o_gv_wn, o_kn_sn, o_wn_sn, o_sn_sn, o_fw_sn, o_mo_sn, o_lo_sn, o_wy_sn, o_gk_sn, o_gv_sn, o_kn_fw, o_wn_fw, o_sn_fw, o_fw_fw, o_mo_fw, o_lo_fw, o_wy_fw, o_gk_fw, o_gv_fw, o_kn_mo, o_wn_mo, o_sn_mo, o_fw_mo, o_mo_mo, o_lo_mo, o_wy_mo, o_gk_mo, o_gv_mo, o_kn_lo, o_wn_lo, o_sn_lo, o_fw_lo, o_mo_lo, o_lo_lo, o_wy_lo, o_gk_lo, o_gv_lo, o_kn_wy, o_wn_wy, o_sn_wy, o_fw_wy, o_mo_wy, o_lo_wy, o_wy_wy, o_gk_wy, o_gv_wy, o_kn_gk, o_wn_gk, o_sn_gk, o_fw_gk, o_mo_gk, o_lo_gk, o_wy_gk, o_gk_gk, o_gv_gk, o_kn_gv, o_wn_gv, o_sn_gv, o_fw_gv, o_mo_gv, o_lo_gv, o_wy_gv, o_gk_gv, o_gv_gv, List.foldl_nil]
  all_goals first | rw [up_ne hi] | exact up_eq _ _ _ | (rw [up_eq]; rfl)
theorem s_X3_close (hB : okB 75 P) (hs : s ≤ 14) (hX : TBr Q τ X T) (hQ : ∀ q, Q q → outB 75 P q) {j n sm : Nat} (hj : j < 2 * 2 ^ s) (hn : n < 1000) (hsm : sm < 2 ^ 40) {ps : List VT} (hps : ∀ c ∈ ps, CB c) (hn2 : n = ps.length) (hsm2 : sm = ps.foldl (fun a c => a + (1000000 + wL c)) 0) (hpa : PAc S j ps) {K : Hp → Prop} (hK : ∀ S', Onl j S S' → kn S' j = nI st → VVs S' j (vstep T.1.2.1 ps) → K (oh P (some (xT X)) st s S' C τ)) : C_X3_close l G (d + 1) (P 2) (nI j) (nI n) (lN sm) (oh P (some (xT X)) st s S C τ) K := by
  have h14 := pow14 hs
  have hin : vp_in (nI j) (2 * 2 ^ s) := (nt_in (by omega)).mpr hj
  have hcl : (nI j).toNatClampNeg = j := nI_clamp (by omega)
  obtain ⟨p1, p2, p3, p4, p5⟩ := hpa
  have ht : ∀ S, oh P (some (xT X)) st s S C τ (xT X) = some (O8 T.1.1 T.1.2.1 T.1.2.2 (some (xB X)) (some (xP X)) (nI (nsq T.2.1)) (nI T.2.2.2) true (some (xL' X))) := fun S => (hXo hX hQ _ st s S C).1.2
  have hfz : ∀ (S : OS) (K : Bool → Prop), fZ (oh P (some (xT X)) st s S C τ) (xT X) 8 1 K = K T.1.2.1 := fun S K => by rw [fZ_at (ht S)]; simp only [rZ8_0, rP8_0, rZ8_1, rP8_1, rZ8_2, rP8_2, rR8_3, rN8_3, rP8_3, rR8_4, rN8_4, rP8_4, rI8_5, rP8_5, rI8_6, rP8_6, rZ8_7, rP8_7, rR8_8, rN8_8, rP8_8]
  have h18 : F_X3_close_18 l G d (P 2) (nI j) (nI n) (P 8) (nI j) (nI (lotS ps)) (oh P (some (xT X)) st s S C τ) K := by
    simp only [F_X3_close_18, F_X3_close_50, oR_0 hB, oN_0 hB, oI_1 hB, oN_2 hB, oN_3 hB, oN_4 hB, oN_5 hB, oN_6 hB, oN_7 hB, oN_8 hB, oN_9 hB, oN_10 hB, oL_3 hB, oG_3 hB, oS_3 hB, oL_4 hB, oG_4 hB, oS_4 hB, oL_5 hB, oG_5 hB, oS_5 hB, oL_6 hB, oG_6 hB, oS_6 hB, oL_7 hB, oG_7 hB, oS_7 hB, oL_8 hB, oG_8 hB, oS_8 hB, oL_9 hB, oG_9 hB, oS_9 hB, oL_10 hB, oG_10 hB, oS_10 hB, oL_11 hB, oG_11 hB, oS_11 hB, o_kn_kn, o_wn_kn, o_sn_kn, o_fw_kn, o_mo_kn, o_lo_kn, o_wy_kn, o_gk_kn, o_gv_kn, o_kn_wn, o_wn_wn, o_sn_wn, o_fw_wn, o_mo_wn, o_lo_wn, o_wy_wn, o_gk_wn, o_gv_wn, o_kn_sn, o_wn_sn, o_sn_sn, o_fw_sn, o_mo_sn, o_lo_sn, o_wy_sn, o_gk_sn, o_gv_sn, o_kn_fw, o_wn_fw, o_sn_fw, o_fw_fw, o_mo_fw, o_lo_fw, o_wy_fw, o_gk_fw, o_gv_fw, o_kn_mo, o_wn_mo, o_sn_mo, o_fw_mo, o_mo_mo, o_lo_mo, o_wy_mo, o_gk_mo, o_gv_mo, o_kn_lo, o_wn_lo, o_sn_lo, o_fw_lo, o_mo_lo, o_lo_lo, o_wy_lo, o_gk_lo, o_gv_lo, o_kn_wy, o_wn_wy, o_sn_wy, o_fw_wy, o_mo_wy, o_lo_wy, o_wy_wy, o_gk_wy, o_gv_wy, o_kn_gk, o_wn_gk, o_sn_gk, o_fw_gk, o_mo_gk, o_lo_gk, o_wy_gk, o_gk_gk, o_gv_gk, o_kn_gv, o_wn_gv, o_sn_gv, o_fw_gv, o_mo_gv, o_lo_gv, o_wy_gv, o_gk_gv, o_gv_gv, hcl, hfz, Option.some.injEq, exists_eq_left']
    refine ⟨hin, fun h1 => ⟨hin, hK _ ⟨fun i hi => ⟨?_, rfl, rfl, rfl, rfl, ?_, rfl⟩, rfl, rfl⟩ ?_ ⟨?_, ?_, ?_, ?_, ?_, ?_⟩⟩, fun h1 => ⟨hin, hin, hin, hin, hK _ ⟨fun i hi => ⟨?_, ?_, rfl, ?_, rfl, ?_, ?_⟩, rfl, rfl⟩ ?_ ⟨?_, ?_, ?_, ?_, ?_, ?_⟩⟩⟩
    all_goals simp only [o_kn_kn, o_wn_kn, o_sn_kn, o_fw_kn, o_mo_kn, o_lo_kn, o_wy_kn, o_gk_kn, o_gv_kn, o_kn_wn, o_wn_wn, o_sn_wn, o_fw_wn, o_mo_wn, o_lo_wn, o_wy_wn, o_gk_wn, o_gv_wn, o_kn_sn, o_wn_sn, o_sn_sn, o_fw_sn, o_mo_sn, o_lo_sn, o_wy_sn, o_gk_sn, o_gv_sn, o_kn_fw, o_wn_fw, o_sn_fw, o_fw_fw, o_mo_fw, o_lo_fw, o_wy_fw, o_gk_fw, o_gv_fw, o_kn_mo, o_wn_mo, o_sn_mo, o_fw_mo, o_mo_mo, o_lo_mo, o_wy_mo, o_gk_mo, o_gv_mo, o_kn_lo, o_wn_lo, o_sn_lo, o_fw_lo, o_mo_lo, o_lo_lo, o_wy_lo, o_gk_lo, o_gv_lo, o_kn_wy, o_wn_wy, o_sn_wy, o_fw_wy, o_mo_wy, o_lo_wy, o_wy_wy, o_gk_wy, o_gv_wy, o_kn_gk, o_wn_gk, o_sn_gk, o_fw_gk, o_mo_gk, o_lo_gk, o_wy_gk, o_gk_gk, o_gv_gk, o_kn_gv, o_wn_gv, o_sn_gv, o_fw_gv, o_mo_gv, o_lo_gv, o_wy_gv, o_gk_gv, o_gv_gv]
    all_goals first | rw [up_ne hi] | skip
    · rw [up_eq]
    · rw [p1, rk_any, Bool.false_or]
      have : ps.isEmpty = false := by
        cases ps with
        | nil => rw [hn2] at h1; exact absurd rfl h1
        | cons => rfl
      show _ = hasS _ _
      rw [hasS, this]; rfl
    · exact p2
    · rw [p3]
      have : ps.isEmpty = false := by
        cases ps with
        | nil => rw [hn2] at h1; exact absurd rfl h1
        | cons => rfl
      show _ = nI (fewS ps)
      rw [fewS, this]; rfl
    · exact p4
    · rw [up_eq]; rfl
    · rw [p5]
      have : ps.isEmpty = false := by
        cases ps with
        | nil => rw [hn2] at h1; exact absurd rfl h1
        | cons => rfl
      show _ = lN (wayS ps)
      rw [wayS, this]; rfl
    · rw [up_eq]
    all_goals
      have h0 : ps = [] := by
        rw [nt_0 (by omega)] at h1
        exact List.length_eq_zero_iff.mp (by omega)
      subst h0
    · rw [up_eq]; rfl
    · exact p2
    · rw [up_eq]; rfl
    · exact p4
    · rw [up_eq]; rfl
    · rw [up_eq]; rfl
  refine m_X3_close (rv_o hB) ?_
  simp only [F_X3_close, oR_0 hB, oN_0 hB, oI_1 hB, oN_2 hB, oN_3 hB, oN_4 hB, oN_5 hB, oN_6 hB, oN_7 hB, oN_8 hB, oN_9 hB, oN_10 hB, oL_3 hB, oG_3 hB, oS_3 hB, oL_4 hB, oG_4 hB, oS_4 hB, oL_5 hB, oG_5 hB, oS_5 hB, oL_6 hB, oG_6 hB, oS_6 hB, oL_7 hB, oG_7 hB, oS_7 hB, oL_8 hB, oG_8 hB, oS_8 hB, oL_9 hB, oG_9 hB, oS_9 hB, oL_10 hB, oG_10 hB, oS_10 hB, oL_11 hB, oG_11 hB, oS_11 hB]
  rw [show (0 : Int32) = nI 0 from rfl, nt_le (by omega) (by decide), nI_l (by omega)]
  refine ⟨fun h1 => ?_, fun h1 => ⟨?_, ?_⟩⟩
  · have h0 : ps = [] := List.length_eq_zero_iff.mp (by omega)
    subst h0
    exact h18
  · rw [show (0 : Int64) = lN 0 from rfl, pk_lEQ (by omega) (by omega)]; omega
  · rw [pk_lDiv (by omega) (by omega) (by omega), lN_i]
    have h2 : lotS ps = sm / n := by
      rw [lotS, hsm2, hn2]
      cases ps with
      | nil => rw [hn2] at h1; exact absurd (Nat.le_refl _) h1
      | cons => rfl
    rw [← h2]
    exact h18
theorem kids_cb (hW : WFT T) {tk who : Nat} {c : VT} (h : c ∈ kids T (allL T) tk who) : CB c := kids_bd (allL_VL hW) h
theorem settle_step (hB : okB 75 P) (hs : s ≤ 14) (hX : TBr Q τ X T) (hQ : ∀ q, Q q → outB 75 P q) (hW : WFT T) (hsq : nsq T.2.1 ≤ s) (hst : st < 2 ^ 30) {D tk who dep : Nat} (htk : tk < 2 ^ s) (hwho : who < 2) (hdep : dep + fr tk ≤ 14)
    (IH : ∀ (S' : OS) tk' who' (K' : Hp → Prop), fr tk' < fr tk → tk' < 2 ^ s → who' < 2 → dep + 1 + fr tk' ≤ 14 → OSI T st s S' → (∀ S'', OSI T st s S'' → FrS (fr tk') S' S'' → kn S'' (sc tk' who') = nI st → K' (oh P (some (xT X)) st s S'' C τ)) → C_X3_settle l G (D + 3) (P 2) (nI tk') (nI who') (nI (dep + 1)) (oh P (some (xT X)) st s S' C τ) K')
    (hS : OSI T st s S) {K : Hp → Prop} (hK : ∀ S', OSI T st s S' → FrS (fr tk) S S' → kn S' (sc tk who) = nI st → K (oh P (some (xT X)) st s S' C τ)) : C_X3_settle l G (D + 4) (P 2) (nI tk) (nI who) (nI dep) (oh P (some (xT X)) st s S C τ) K := by
  have h14 := pow14 hs
  have h224 := allL_224 hW
  have hV := allL_VL hW
  have hsc : sc tk who < 2 * 2 ^ s := by unfold sc; omega
  have hsc2 : sc tk who / 2 = tk := by unfold sc; omega
  have hin : vp_in (nI (sc tk who)) (2 * 2 ^ s) := (nt_in (by omega)).mpr hsc
  have hcl : (nI (sc tk who)).toNatClampNeg = sc tk who := nI_clamp (by omega)
  refine m_X3_settle ?_
  simp only [F_X3_settle, F_X3_settle_34]
  refine s_X3_stateOf (d := D + 2) hB hs htk hwho ⟨fun hc => absurd hc (nI_nm1 (by omega)), fun _ => ?_⟩
  simp only [oR_0 hB, oN_0 hB, oI_1 hB, oN_2 hB, oN_3 hB, oN_4 hB, oN_5 hB, oN_6 hB, oN_7 hB, oN_8 hB, oN_9 hB, oN_10 hB, oL_3 hB, oG_3 hB, oS_3 hB, oL_4 hB, oG_4 hB, oS_4 hB, oL_5 hB, oG_5 hB, oS_5 hB, oL_6 hB, oG_6 hB, oS_6 hB, oL_7 hB, oG_7 hB, oS_7 hB, oL_8 hB, oG_8 hB, oS_8 hB, oL_9 hB, oG_9 hB, oS_9 hB, oL_10 hB, oG_10 hB, oS_10 hB, oL_11 hB, oG_11 hB, oS_11 hB, hcl]
  refine ⟨hin, fun h1 => hK S hS FrS.rf h1, fun hne => ⟨fun _ => ?_, fun hc => ?_⟩⟩
  · refine s_X3_clear (d := D + 2) hB hs hsc fun S1 e1 e2 e3 => ?_
    have ho := hXo hX hQ (some (xT X)) st s
    have hne1 : kn S1 (sc tk who) ≠ nI st := by rw [e2]; exact hne
    have hS1 : OSI T st s S1 := hS.on e1 hwho (by rw [e2]; exact hS.1 _ hsc) fun h => absurd h hne1
    have hF1 : FrS (fr tk) S S1 := e1.fr (by rw [hsc2]; exact Nat.le_refl _)
    simp only [oR_0 hB, oN_0 hB, oI_1 hB, oN_2 hB, oN_3 hB, oN_4 hB, oN_5 hB, oN_6 hB, oN_7 hB, oN_8 hB, oN_9 hB, oN_10 hB, oL_3 hB, oG_3 hB, oS_3 hB, oL_4 hB, oG_4 hB, oS_4 hB, oL_5 hB, oG_5 hB, oS_5 hB, oL_6 hB, oG_6 hB, oS_6 hB, oL_7 hB, oG_7 hB, oS_7 hB, oL_8 hB, oG_8 hB, oS_8 hB, oL_9 hB, oG_9 hB, oS_9 hB, oL_10 hB, oG_10 hB, oS_10 hB, oL_11 hB, oG_11 hB, oS_11 hB, Option.some.injEq, exists_eq_left', fN_at (ho S1 C).1.2, rZ8_0, rP8_0, rZ8_1, rP8_1, rZ8_2, rP8_2, rR8_3, rN8_3, rP8_3, rR8_4, rN8_4, rP8_4, rI8_5, rP8_5, rI8_6, rP8_6, rZ8_7, rP8_7, rR8_8, rN8_8, rP8_8, (ho S1 C).aL]
    have hz : ∀ r i S' ps n sm, i + r = (allL T).length → OSI T st s S' → FrS (fr tk) S S' → kn S' (sc tk who) ≠ nI st → PAc S' (sc tk who) ps → kids T (allL T) tk who = ps ++ kds T (allL T) tk who i → n = ps.length → n ≤ i → sm = ps.foldl (fun a c => a + (1000000 + wL c)) 0 → sm ≤ n * 14000000 → Z_X3_settle_64 l G (D + 3) K (r + 1) (P 2) (nI tk) (nI who) (nI dep) (nI (sc tk who)) (nI n) (lN sm) (xL' X) (nI (allL T).length) (nI i) (oh P (some (xT X)) st s S' C τ) := by
      intro r
      induction r with
      | zero =>
        intro i S' ps n sm hi hS' hF' hne' hpa hk hn hn2 hsm hsm2
        rw [kds_end (by omega), List.append_nil] at hk
        simp only [Z_X3_settle_64, F_X3_settle_64]
        rw [nt_le (by omega) (by omega)]
        refine ⟨fun _ => s_X3_close (d := D + 2) hB hs hX hQ hsc (by omega) (by omega) (fun c hc => kids_cb hW (by rw [hk]; exact hc)) hn hsm hpa fun S2 g1 g2 g3 => ?_, fun hc => absurd (by omega) hc⟩
        have hvl : vl T (allL T) tk who = vstep T.1.2.1 ps := by rw [vl_eq hV, hk]
        exact hK S2 (hS'.on g1 hwho ⟨st, Nat.le_refl _, g2⟩ fun _ => by rw [hvl]; exact g3) (hF'.tr (g1.fr (by rw [hsc2]; exact Nat.le_refl _))) g2
      | succ r ih =>
        intro i S' ps n sm hi hS' hF' hne' hpa hk hn hn2 hsm hsm2
        obtain ⟨e, he⟩ : ∃ e, (allL T)[i]? = some e := ⟨_, List.getElem?_eq_getElem (by omega)⟩
        obtain ⟨g, g1, g2, g3⟩ := (ho S' C).lay he
        rw [show r + 1 + 1 = (r + 1) + 1 from rfl, Z_X3_settle_64]
        simp only [F_X3_settle_64, F_X3_settle_157, show nI i + 1 = nI (i + 1) from nt_add i 1]
        rw [nt_le (by omega) (by omega)]
        refine ⟨fun hc => by omega, fun _ => (ho S' C).gN hW he ((ho S' C).my (d := D + 1) hW he (by omega) hwho ⟨fun hm => ?_, fun hm => ?_⟩)⟩
        · obtain ⟨q1, -⟩ := kid_at hV he hm (show tk < 16384 by omega)
          have q2 : tk ||| eS e < 2 ^ s := Nat.or_lt_two_pow htk (Nat.lt_of_lt_of_le (allL_lt hW (List.mem_of_getElem? he)) (Nat.pow_le_pow_right (by decide) hsq))
          have hcb := kids_cb hW (kid_in hV he hm)
          simp only [fI_at g3, rI2_0, rP2_0, rR2_1, rN2_1, rP2_1, rR2_2, rN2_2, rP2_2, rI2_3, rP2_3, rI2_4, rP2_4, rI2_5, rP2_5, rI2_6, rP2_6, rI2_7, rP2_7, rR2_8, rN2_8, rP2_8]
          have h1w : (1 : Int32) - nI who = nI (1 - who) := nt_sub (a := 1) (b := who) (by omega) (by decide)
          rw [nt_or, h1w, show nI dep + 1 = nI (dep + 1) from nt_add dep 1]
          refine IH S' _ _ _ q1 q2 (by omega) (by omega) hS' fun S2 a1 a2 a3 => ?_
          obtain ⟨-, -, -, g3'⟩ := (ho S2 C).lay he
          simp only [fI_at g3', rI2_0, rP2_0, rR2_1, rN2_1, rP2_1, rR2_2, rN2_2, rP2_2, rI2_3, rP2_3, rI2_4, rP2_4, rI2_5, rP2_5, rI2_6, rP2_6, rI2_7, rP2_7, rR2_8, rN2_8, rP2_8]
          rw [nt_or]
          have hsc' : sc (tk ||| eS e) (1 - who) < 2 * 2 ^ s := by unfold sc; omega
          have hq := a2.1 (sc tk who) (by rw [hsc2]; exact q1)
          have hvv := a1.2.2.1 _ _ q2 (show 1 - who < 2 by omega) a3
          have hdif : sc (tk ||| eS e) (1 - who) ≠ sc tk who := by
            intro h
            have : tk ||| eS e = tk := by unfold sc at h; omega
            rw [this] at q1
            omega
          refine s_X3_stateOf (d := D + 2) hB hs q2 (by omega) ⟨fun hc => absurd hc (nI_nm1 (by omega)), fun _ => ?_⟩
          refine s_X3_reckon (d := D + 1) hB hs hsc hsc' hdif (fun c hc => kids_cb hW (by rw [hk]; exact List.mem_append_left _ hc)) hcb (hq.pa hpa) hvv fun S3 b1 b2 b3 => ?_
          have hlo : lo S3 (sc (tk ||| eS e) (1 - who)) = nI (wL (vl T (allL T) (tk ||| eS e) (1 - who))) := (b1.1 _ hdif).2.2.2.2.2.1.trans hvv.2.2.2.2.1
          have hwl := hcb.2.2.2.1
          simp only [oR_0 hB, oN_0 hB, oI_1 hB, oN_2 hB, oN_3 hB, oN_4 hB, oN_5 hB, oN_6 hB, oN_7 hB, oN_8 hB, oN_9 hB, oN_10 hB, oL_3 hB, oG_3 hB, oS_3 hB, oL_4 hB, oG_4 hB, oS_4 hB, oL_5 hB, oG_5 hB, oS_5 hB, oL_6 hB, oG_6 hB, oS_6 hB, oL_7 hB, oG_7 hB, oS_7 hB, oL_8 hB, oG_8 hB, oS_8 hB, oL_9 hB, oG_9 hB, oS_9 hB, oL_10 hB, oG_10 hB, oS_10 hB, oL_11 hB, oG_11 hB, oS_11 hB, nI_clamp (show sc (tk ||| eS e) (1 - who) < 2 ^ 31 by omega), hlo]
          refine ⟨(nt_in (by omega)).mpr hsc', ?_⟩
          rw [show (1000000 : Int32) + nI (wL (vl T (allL T) (tk ||| eS e) (1 - who))) = nI (1000000 + wL (vl T (allL T) (tk ||| eS e) (1 - who))) from nt_add 1000000 _, nI_l (by omega), lN_add, show nI n + 1 = nI (n + 1) from nt_add n 1]
          have hkn3 : kn S3 (sc tk who) ≠ nI st := by rw [b2, hq.1]; exact hne'
          refine ih (i + 1) S3 (ps ++ [vl T (allL T) (tk ||| eS e) (1 - who)]) (n + 1) _ (by omega) (a1.on b1 hwho (by rw [b2]; exact a1.1 _ hsc) fun h => absurd h hkn3) ((hF'.tr (a2.mo (by omega))).tr (b1.fr (by rw [hsc2]; exact Nat.le_refl _))) hkn3 b3 ?_ (by rw [List.length_append, ← hn]; rfl) (by omega) (by rw [List.foldl_append, ← hsm]; rfl) (by rw [Nat.succ_mul]; omega)
          rw [hk, kds_t he hm, List.append_assoc]
          rfl
        · exact ih (i + 1) S' ps n sm (by omega) hS' hF' hne' hpa (by rw [hk, kds_f he hm]) hn (by omega) hsm hsm2
    exact ⟨_, hz (allL T).length 0 S1 [] 0 0 (by omega) hS1 hF1 hne1 e3 (by rw [kds_0]; rfl) rfl (by decide) rfl (by decide)⟩
  · rw [show (14 : Int32) = nI 14 from rfl, nt_le (by omega) (by decide)] at hc
    omega
theorem s_X3_settle (hB : okB 75 P) (hs : s ≤ 14) (hX : TBr Q τ X T) (hQ : ∀ q, Q q → outB 75 P q) (hW : WFT T) (hsq : nsq T.2.1 ≤ s) (hst : st < 2 ^ 30) : ∀ n {d tk who dep : Nat} {S : OS}, fr tk ≤ n → tk < 2 ^ s → who < 2 → dep + fr tk ≤ 14 → OSI T st s S → ∀ {K : Hp → Prop}, (∀ S', OSI T st s S' → FrS (fr tk) S S' → kn S' (sc tk who) = nI st → K (oh P (some (xT X)) st s S' C τ)) → C_X3_settle l G (d + n + 4) (P 2) (nI tk) (nI who) (nI dep) (oh P (some (xT X)) st s S C τ) K := by
  intro n
  induction n with
  | zero =>
    intro d tk who dep S hn htk hwho hdep hS K hK
    exact settle_step (D := d) hB hs hX hQ hW hsq hst htk hwho hdep (fun S' tk' who' K' h1 => absurd h1 (by omega)) hS hK
  | succ n ih =>
    intro d tk who dep S hn htk hwho hdep hS K hK
    exact settle_step (D := d + (n + 1)) hB hs hX hQ hW hsq hst htk hwho hdep (fun S' tk' who' K' h1 h2 h3 h4 h5 h6 => by
      have := ih (d := d) (S := S') (tk := tk') (who := who') (dep := dep + 1) (by omega) h2 h3 h4 h5 h6
      exact this) hS hK
end SETTLE
