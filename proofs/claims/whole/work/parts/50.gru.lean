/-! GRUNDY numbers in the model -/
def mex (xs : List Nat) : Nat := fa_first (fun v => !xs.contains v) 32
theorem mex_ok {xs : List Nat} {M : Nat} (h : ∀ v ∈ xs, v < M) (hM : M < 32) : mex xs ≤ M ∧ mex xs ∉ xs ∧ ∀ u, u < mex xs → u ∈ xs := by
  have hn : M ∉ xs := fun hm => Nat.lt_irrefl _ (h M hm)
  have h1 : mex xs ≤ M := by
    refine Nat.le_of_not_lt fun h2 => ?_
    have := fa_first_no (fun v => !xs.contains v) 32 M h2
    simp only [Bool.not_eq_false', List.contains_iff_mem] at this
    exact hn this
  refine ⟨h1, ?_, fun u hu => ?_⟩
  · have := fa_first_yes (fun v => !xs.contains v) 32 (show mex xs < 32 by omega)
    intro hm
    have h3 : xs.contains (mex xs) = true := by simpa using hm
    simp only [Bool.not_eq_true'] at this
    rw [show fa_first (fun v => !xs.contains v) 32 = mex xs from rfl, h3] at this
    exact absurd this (by decide)
  · have := fa_first_no (fun v => !xs.contains v) 32 u hu
    simpa using this
theorem mex_of {xs : List Nat} {v : Nat} (hv : v < 32) (h1 : v ∉ xs) (h2 : ∀ u, u < v → u ∈ xs) : mex xs = v := by
  rcases Nat.lt_trichotomy (mex xs) v with h | h | h
  · have := fa_first_yes (fun v => !xs.contains v) 32 (show mex xs < 32 by omega)
    rw [show fa_first (fun v => !xs.contains v) 32 = mex xs from rfl] at this
    have h3 := h2 _ h
    have h4 : xs.contains (mex xs) = true := by simpa using h3
    simp only [h4] at this
    exact absurd this (by decide)
  · exact h
  · have := fa_first_no (fun v => !xs.contains v) 32 v h
    simp only [Bool.not_eq_false', List.contains_iff_mem] at this
    exact absurd this h1
/-- a set of numbers as bits -/
def bsl (a : Nat) (xs : List Nat) : Nat := xs.foldl (fun a v => a ||| 2 ^ v) a
theorem bsl_bit : ∀ (xs : List Nat) (a v : Nat), (bsl a xs).testBit v = (a.testBit v || xs.contains v)
  | [], a, v => by simp [bsl]
  | x :: xs, a, v => by
    have := bsl_bit xs (a ||| 2 ^ x) v
    simp only [bsl] at this
    simp only [bsl, List.foldl_cons, this, List.contains_cons, fb_bit_set, Bool.or_assoc]
    congr 2
theorem bsl_lt {M : Nat} : ∀ (xs : List Nat) (a : Nat), a < 2 ^ M → (∀ v ∈ xs, v < M) → bsl a xs < 2 ^ M
  | [], a => fun h _ => h
  | x :: xs, a => fun h h2 => bsl_lt xs _ (lt_two h (h2 x List.mem_cons_self)) fun v hv => h2 v (List.mem_cons_of_mem _ hv)
def onB (kb : Option Nat) (e : LY) : Bool := match kb with
  | none => true
  | some k => decide (e.2.1 = k)
def gms (T : TB) (L : List LY) (kb : Option Nat) (tk : Nat) : List LY := L.filter fun e => onB kb e && frE T e tk
def gF (T : TB) (L : List LY) (kb : Option Nat) : Nat → Nat → Nat
  | 0, _ => 0
  | n + 1, tk => mex ((gms T L kb tk).map fun e => gF T L kb n (tk ||| eS e))
def gr (T : TB) (L : List LY) (kb : Option Nat) (tk : Nat) : Nat := gF T L kb 15 tk
theorem gms_mem {T : TB} {L : List LY} {kb : Option Nat} {tk : Nat} {e : LY} (h : e ∈ gms T L kb tk) : e ∈ L ∧ onB kb e = true ∧ frE T e tk = true := by
  simpa [gms, List.mem_filter] using h
theorem fr_gm {T : TB} {L : List LY} (hV : VL T L) {kb : Option Nat} {tk : Nat} {e : LY} (h : e ∈ gms T L kb tk) : fr (tk ||| eS e) < fr tk := by
  obtain ⟨h1, -, h2⟩ := gms_mem h
  obtain ⟨h3, h4⟩ := hV.mem h1
  exact fr_set (frE_0 h2) h3 h4
theorem gF_st {T : TB} {L : List LY} (hV : VL T L) {kb : Option Nat} : ∀ n n' tk, fr tk < n → fr tk < n' → gF T L kb n tk = gF T L kb n' tk
  | 0, _, _ => fun h _ => by omega
  | n + 1, 0, _ => fun _ h => by omega
  | n + 1, n' + 1, tk => fun h h' => by
    simp only [gF]
    refine congrArg mex ?_
    apply List.map_congr_left
    intro e he
    have := fr_gm hV he
    exact gF_st hV n n' _ (by omega) (by omega)
def gks (T : TB) (L : List LY) (kb : Option Nat) (tk : Nat) : List Nat := (gms T L kb tk).map fun e => gr T L kb (tk ||| eS e)
theorem gr_eq {T : TB} {L : List LY} (hV : VL T L) (kb : Option Nat) (tk : Nat) : gr T L kb tk = mex (gks T L kb tk) := by
  show gF T L kb (14 + 1) tk = _
  simp only [gF, gks]
  refine congrArg mex ?_
  apply List.map_congr_left
  intro e he
  have := fr_gm hV he
  have := fr_le tk
  exact gF_st hV 14 15 _ (by omega) (by omega)
theorem gr_bd {T : TB} {L : List LY} (hV : VL T L) {kb : Option Nat} : ∀ n tk, fr tk ≤ n → n ≤ 14 → gr T L kb tk ≤ n := by
  intro n
  induction n with
  | zero =>
    intro tk hn _
    rw [gr_eq hV]
    have h0 : gms T L kb tk = [] := by
      cases hm : gms T L kb tk with
      | nil => rfl
      | cons e es =>
        have := fr_gm hV (e := e) (tk := tk) (kb := kb) (by rw [hm]; exact List.mem_cons_self)
        omega
    rw [gks, h0]
    exact (mex_ok (M := 0) (by simp) (by decide)).1
  | succ n ih =>
    intro tk hn h14
    rw [gr_eq hV]
    refine (mex_ok (M := n + 1) (fun v hv => ?_) (by omega)).1
    simp only [gks, List.mem_map] at hv
    obtain ⟨e, he, rfl⟩ := hv
    have := fr_gm hV he
    have := ih (tk ||| eS e) (by omega) (by omega)
    omega
theorem gr_le {T : TB} {L : List LY} (hV : VL T L) (kb : Option Nat) (tk : Nat) : gr T L kb tk ≤ 14 := gr_bd hV 14 tk (fr_le tk) (Nat.le_refl _)
theorem gks_bd {T : TB} {L : List LY} (hV : VL T L) {kb : Option Nat} {tk : Nat} : ∀ v ∈ gks T L kb tk, v < 14 := by
  intro v hv
  simp only [gks, List.mem_map] at hv
  obtain ⟨e, he, rfl⟩ := hv
  have h1 := fr_gm hV he
  have h2 := fr_le tk
  have := gr_bd hV (kb := kb) 13 (tk ||| eS e) (by omega) (by decide)
  omega
theorem gr_mex {T : TB} {L : List LY} (hV : VL T L) (kb : Option Nat) (tk : Nat) : gr T L kb tk ∉ gks T L kb tk ∧ ∀ u, u < gr T L kb tk → u ∈ gks T L kb tk := by
  rw [gr_eq hV]
  exact (mex_ok (M := 14) (gks_bd hV) (by decide)).2
def MEG (T : TB) (L : List LY) (kb : Option Nat) (S : MS) : Prop := ∀ tk, tk < 16384 → S.2.2.1 36 tk = -1 ∨ S.2.2.1 36 tk = nI (gr T L kb tk)
/-- the model's word for a board, or all -/
def kbI (kb : Option Nat) : Int32 := optI kb
theorem lgbit {n k : Nat} (hn : n < 2 ^ 62) (hk : k < 64) : lg_cmp ((lN n >>> ((nI k).toInt64 &&& 63)) &&& (1 : Int64)) (1 : Int64) = 0 ↔ n.testBit k = true := by
  have e : ((lN k).toBitVec.smod 64).toNat = k := by
    have : ∀ j : Fin 64, ((lN j.val).toBitVec.smod 64).toNat = j.val := by decide +kernel
    exact this ⟨k, hk⟩
  have h2 : n / 2 ^ k < 2 ^ 62 := Nat.lt_of_le_of_lt (Nat.div_le_self _ _) hn
  rw [lg_cmp_eq, wb_c k hk, pf_shr e hn, wb_a1 (by omega), show (1 : Int64) = lN 1 from rfl, pk_lEQ (by omega) (by decide), Nat.testBit_eq_decide_div_mod_eq]
  simp
theorem lgone {a k : Nat} (hk : k < 62) (ha : a < 2 ^ 62) : lN a ||| ((1 : Int64) <<< ((nI k).toInt64 &&& 63)) = lN (a ||| 2 ^ k) := by
  have h1 : (2 : Nat) ^ k < 2 ^ 62 := Nat.pow_lt_pow_right (by decide) hk
  rw [show (1 : Int64) = lN 1 from rfl, wb_shl 1 (by omega), Nat.one_mul, wb_or (by omega) (by omega)]
section GRU
variable {l : Launch} {G : GG} {m : Nat} {A : Nat → Nat} {S : MS} {ρ : Hp} {T : TB} {L : List LY} {kb : Option Nat}
theorem grundyOf_step (hA : okA m A) (hW : WFT T) (hV : VL T L) (hkb : ∀ k, kb = some k → k < 3) {D tk : Nat} (htk : tk < 16384) (IH : ∀ (S' : MS) tk' (K' : Int32 → Hp → Prop), fr tk' < fr tk → tk' < 16384 → TR T (S'.2.2.1 15) → LR L S' → MEG T L kb S' → (∀ S'', Sm [] [] [36] S' S'' → MEG T L kb S'' → K' (nI (gr T L kb tk')) (mh m A S'' ρ)) → C_X12_grundyOf l G (D + 1) m (nI tk') (kbI kb) (mh m A S' ρ) K') (hR : TR T (S.2.2.1 15)) (hL : LR L S) (hM : MEG T L kb S) {K : Int32 → Hp → Prop} (hK : ∀ S', Sm [] [] [36] S S' → MEG T L kb S' → K (nI (gr T L kb tk)) (mh m A S' ρ)) : C_X12_grundyOf l G (D + 2) m (nI tk) (kbI kb) (mh m A S ρ) K := by
  have h224 := hL.1
  have hin : vp_in (nI tk) 32768 := (nt_in (by omega)).mpr (by omega)
  have hcl : (nI tk).toNatClampNeg = tk := nI_clamp (by omega)
  have hgl := gr_le hV kb tk
  have hbs : bsl 0 (gks T L kb tk) < 2 ^ 14 := bsl_lt _ 0 (by decide) (gks_bd hV)
  obtain ⟨hx1, hx2⟩ := gr_mex hV kb tk
  have h87 : ∀ S', Sm [] [] [36] S S' → MEG T L kb S' → ∀ r v, v + r = gr T L kb tk → Z_X12_grundyOf_87 l G (D + 1) K (r + 1) m (nI tk) (lN (bsl 0 (gks T L kb tk))) (nI v) (mh m A S' ρ) := by
    intro S' h1 h2 r
    induction r with
    | zero =>
      intro v hv
      simp only [Z_X12_grundyOf_87, F_X12_grundyOf_87, mfI_0, mpI_0, mfN_1, mfI_2, mpI_2, mfI_3, mpI_3, mfI_4, mpI_4, mfI_5, mpI_5, mfI_6, mpI_6, mfI_7, mpI_7, mfI_8, mpI_8, mfI_9, mpI_9, mfI_10, mpI_10, mfI_11, mpI_11, mfN_12, mfZ_13, mpZ_13, mfZ_14, mpZ_14, mfN_15, mfN_16, mfN_17, mfN_18, mfN_19, mfN_20, mfI_21, mpI_21, mfI_22, mpI_22, mfN_23, mfN_24, mfN_25, mfN_26, mfN_27, mfN_28, mfN_29, mfI_30, mpI_30, mfN_31, mfN_32, mfN_33, mfN_34, mfN_35, mfN_36, mfN_37, mfI_38, mpI_38, mfN_39, mfI_40, mpI_40, mfI_41, mpI_41, mgI_1 hA, msI_1 hA, mgI_12 hA, msI_12 hA, mgI_15 hA, msI_15 hA, mgI_16 hA, msI_16 hA, mgI_17 hA, msI_17 hA, mgI_18 hA, msI_18 hA, mgI_19 hA, msI_19 hA, mgI_20 hA, msI_20 hA, mgI_23 hA, msI_23 hA, mgI_24 hA, msI_24 hA, mgI_25 hA, msI_25 hA, mgI_26 hA, msI_26 hA, mgI_27 hA, msI_27 hA, mgI_28 hA, msI_28 hA, mgI_29 hA, msI_29 hA, mgI_31 hA, msI_31 hA, mgI_32 hA, msI_32 hA, mgI_33 hA, msI_33 hA, mgI_34 hA, msI_34 hA, mgI_35 hA, msI_35 hA, mgI_36 hA, msI_36 hA, mgI_39 hA, msI_39 hA, mgJ hA, msJ hA, hcl]
      rw [lgbit (by omega) (by omega), bsl_bit, Nat.zero_testBit, Bool.false_or, List.contains_iff_mem]
      rw [show v = gr T L kb tk by omega]
      refine ⟨fun _ => ⟨hin, hK _ (h1.a (by decide)) fun tk' h3 => ?_⟩, fun hc => absurd hc hx1⟩
      simp only [ms_i, ms_i2, ms_b1, ms_b, ms_b2, ms_a1, ms_a2, ms_a, ms_a3, ms_j1, ms_j2, ms_j3, ms_j, ↓reduceIte, Nat.reduceEqDiff]
      by_cases e : tk' = tk
      · subst e; right; rw [up_eq]
      · rw [up_ne e]; exact h2 tk' h3
    | succ r ih =>
      intro v hv
      rw [show r + 1 + 1 = (r + 1) + 1 from rfl, Z_X12_grundyOf_87]
      simp only [F_X12_grundyOf_87]
      rw [lgbit (by omega) (by omega), bsl_bit, Nat.zero_testBit, Bool.false_or, List.contains_iff_mem, show nI v + 1 = nI (v + 1) from nt_add v 1]
      exact ⟨fun hc => absurd (hx2 v (by omega)) hc, fun _ => ih (v + 1) (by omega)⟩
  have hz : ∀ r k S' (a : Nat), k + r = L.length → Sm [] [] [36] S S' → MEG T L kb S' → a < 2 ^ 14 → bsl a (((L.drop k).filter fun e => onB kb e && frE T e tk).map fun e => gr T L kb (tk ||| eS e)) = bsl 0 (gks T L kb tk) → Z_X12_grundyOf_21 l G (D + 1) K (r + 1) m (nI tk) (kbI kb) (lN a) (nI k) (mh m A S' ρ) := by
    intro r
    induction r with
    | zero =>
      intro k S' a hk h1 h2 ha h3
      have h30 : S'.1 30 = nI L.length := (h1.1 30 (by simp)).trans hL.2.1
      simp only [Z_X12_grundyOf_21, F_X12_grundyOf_21, mfI_0, mpI_0, mfN_1, mfI_2, mpI_2, mfI_3, mpI_3, mfI_4, mpI_4, mfI_5, mpI_5, mfI_6, mpI_6, mfI_7, mpI_7, mfI_8, mpI_8, mfI_9, mpI_9, mfI_10, mpI_10, mfI_11, mpI_11, mfN_12, mfZ_13, mpZ_13, mfZ_14, mpZ_14, mfN_15, mfN_16, mfN_17, mfN_18, mfN_19, mfN_20, mfI_21, mpI_21, mfI_22, mpI_22, mfN_23, mfN_24, mfN_25, mfN_26, mfN_27, mfN_28, mfN_29, mfI_30, mpI_30, mfN_31, mfN_32, mfN_33, mfN_34, mfN_35, mfN_36, mfN_37, mfI_38, mpI_38, mfN_39, mfI_40, mpI_40, mfI_41, mpI_41, h30]
      rw [nt_le (by omega) (by omega)]
      rw [List.drop_eq_nil_of_le (by omega)] at h3
      simp only [List.filter_nil, List.map_nil] at h3
      have h4 : a = bsl 0 (gks T L kb tk) := by rw [← h3]; rfl
      rw [h4]
      exact ⟨fun _ => ⟨_, h87 S' h1 h2 (gr T L kb tk) 0 (by omega)⟩, fun hc => absurd (by omega) hc⟩
    | succ r ih =>
      intro k S' a hk h1 h2 ha h3
      have hR' : TR T (S'.2.2.1 15) := by rw [h1.2.2.1 15 (by decide)]; exact hR
      have hL' : LR L S' := hL.cg (h1.1 30 (by simp)) fun j a b => h1.2.2.1 j (by simp; omega)
      obtain ⟨e, he⟩ : ∃ e, L[k]? = some e := ⟨_, List.getElem?_eq_getElem (by omega)⟩
      obtain ⟨-, ⟨b, hb⟩, v1, v2, -⟩ := hV k e he
      obtain ⟨-, o1, -, -, -, o5, -⟩ := hL'.2.2 k e he
      have hb3 := (WFB.bd hW hb).1
      have e1 : nI k + 1 = nI (k + 1) := nt_add k 1
      have hin2 : vp_in (nI k) 224 := (nt_in (by omega)).mpr (by omega)
      rw [drop_at he, List.filter_cons] at h3
      have h45 : onB kb e = true → F_X12_grundyOf_45 l G (D + 1) (Z_X12_grundyOf_21 l G (D + 1) K (r + 1)) m (nI tk) (kbI kb) (lN a) (nI k) (mh m A S' ρ) K := by
        intro ho
        simp only [F_X12_grundyOf_45, F_X12_grundyOf_78, mfI_0, mpI_0, mfN_1, mfI_2, mpI_2, mfI_3, mpI_3, mfI_4, mpI_4, mfI_5, mpI_5, mfI_6, mpI_6, mfI_7, mpI_7, mfI_8, mpI_8, mfI_9, mpI_9, mfI_10, mpI_10, mfI_11, mpI_11, mfN_12, mfZ_13, mpZ_13, mfZ_14, mpZ_14, mfN_15, mfN_16, mfN_17, mfN_18, mfN_19, mfN_20, mfI_21, mpI_21, mfI_22, mpI_22, mfN_23, mfN_24, mfN_25, mfN_26, mfN_27, mfN_28, mfN_29, mfI_30, mpI_30, mfN_31, mfN_32, mfN_33, mfN_34, mfN_35, mfN_36, mfN_37, mfI_38, mpI_38, mfN_39, mfI_40, mpI_40, mfI_41, mpI_41, mgI_1 hA, msI_1 hA, mgI_12 hA, msI_12 hA, mgI_15 hA, msI_15 hA, mgI_16 hA, msI_16 hA, mgI_17 hA, msI_17 hA, mgI_18 hA, msI_18 hA, mgI_19 hA, msI_19 hA, mgI_20 hA, msI_20 hA, mgI_23 hA, msI_23 hA, mgI_24 hA, msI_24 hA, mgI_25 hA, msI_25 hA, mgI_26 hA, msI_26 hA, mgI_27 hA, msI_27 hA, mgI_28 hA, msI_28 hA, mgI_29 hA, msI_29 hA, mgI_31 hA, msI_31 hA, mgI_32 hA, msI_32 hA, mgI_33 hA, msI_33 hA, mgI_34 hA, msI_34 hA, mgI_35 hA, msI_35 hA, mgI_36 hA, msI_36 hA, mgI_39 hA, msI_39 hA, mgJ hA, msJ hA, e1, nI_clamp (show k < 2 ^ 31 by omega), o5]
        refine s_X12_isFree (d := D) hA (Or.inl rfl) hR' hL' he (by omega) ?_
        simp only [mfI_0, mpI_0, mfN_1, mfI_2, mpI_2, mfI_3, mpI_3, mfI_4, mpI_4, mfI_5, mpI_5, mfI_6, mpI_6, mfI_7, mpI_7, mfI_8, mpI_8, mfI_9, mpI_9, mfI_10, mpI_10, mfI_11, mpI_11, mfN_12, mfZ_13, mpZ_13, mfZ_14, mpZ_14, mfN_15, mfN_16, mfN_17, mfN_18, mfN_19, mfN_20, mfI_21, mpI_21, mfI_22, mpI_22, mfN_23, mfN_24, mfN_25, mfN_26, mfN_27, mfN_28, mfN_29, mfI_30, mpI_30, mfN_31, mfN_32, mfN_33, mfN_34, mfN_35, mfN_36, mfN_37, mfI_38, mpI_38, mfN_39, mfI_40, mpI_40, mfI_41, mpI_41, mgI_1 hA, msI_1 hA, mgI_12 hA, msI_12 hA, mgI_15 hA, msI_15 hA, mgI_16 hA, msI_16 hA, mgI_17 hA, msI_17 hA, mgI_18 hA, msI_18 hA, mgI_19 hA, msI_19 hA, mgI_20 hA, msI_20 hA, mgI_23 hA, msI_23 hA, mgI_24 hA, msI_24 hA, mgI_25 hA, msI_25 hA, mgI_26 hA, msI_26 hA, mgI_27 hA, msI_27 hA, mgI_28 hA, msI_28 hA, mgI_29 hA, msI_29 hA, mgI_31 hA, msI_31 hA, mgI_32 hA, msI_32 hA, mgI_33 hA, msI_33 hA, mgI_34 hA, msI_34 hA, mgI_35 hA, msI_35 hA, mgI_36 hA, msI_36 hA, mgI_39 hA, msI_39 hA, mgJ hA, msJ hA, nI_clamp (show k < 2 ^ 31 by omega), o5]
        refine ⟨fun hf => ?_, fun hf => ⟨hin2, ?_⟩⟩
        · rw [hf, Bool.and_false, if_neg (by decide)] at h3
          exact ih (k + 1) S' a (by omega) h1 h2 ha h3
        · have hm : e ∈ gms T L kb tk := List.mem_filter.mpr ⟨List.mem_of_getElem? he, by rw [ho, hf]; rfl⟩
          rw [ho, hf, Bool.and_self, if_pos rfl, List.map_cons] at h3
          have hkid := gks_bd hV (kb := kb) (tk := tk) _ (List.mem_map.mpr ⟨e, hm, rfl⟩)
          rw [nt_or]
          refine IH S' _ _ (fr_gm hV hm) (Nat.or_lt_two_pow (n := 14) htk v2) hR' hL' h2 fun S'' h6 h7 => ?_
          rw [lgone (k := gr T L kb (tk ||| eS e)) (by omega) (by omega)]
          exact ih (k + 1) S'' _ (by omega) (h1.tr h6) h7 (lt_two ha hkid) h3
      rw [show r + 1 + 1 = (r + 1) + 1 from rfl, Z_X12_grundyOf_21]
      simp only [F_X12_grundyOf_21, mfI_0, mpI_0, mfN_1, mfI_2, mpI_2, mfI_3, mpI_3, mfI_4, mpI_4, mfI_5, mpI_5, mfI_6, mpI_6, mfI_7, mpI_7, mfI_8, mpI_8, mfI_9, mpI_9, mfI_10, mpI_10, mfI_11, mpI_11, mfN_12, mfZ_13, mpZ_13, mfZ_14, mpZ_14, mfN_15, mfN_16, mfN_17, mfN_18, mfN_19, mfN_20, mfI_21, mpI_21, mfI_22, mpI_22, mfN_23, mfN_24, mfN_25, mfN_26, mfN_27, mfN_28, mfN_29, mfI_30, mpI_30, mfN_31, mfN_32, mfN_33, mfN_34, mfN_35, mfN_36, mfN_37, mfI_38, mpI_38, mfN_39, mfI_40, mpI_40, mfI_41, mpI_41, mgI_1 hA, msI_1 hA, mgI_12 hA, msI_12 hA, mgI_15 hA, msI_15 hA, mgI_16 hA, msI_16 hA, mgI_17 hA, msI_17 hA, mgI_18 hA, msI_18 hA, mgI_19 hA, msI_19 hA, mgI_20 hA, msI_20 hA, mgI_23 hA, msI_23 hA, mgI_24 hA, msI_24 hA, mgI_25 hA, msI_25 hA, mgI_26 hA, msI_26 hA, mgI_27 hA, msI_27 hA, mgI_28 hA, msI_28 hA, mgI_29 hA, msI_29 hA, mgI_31 hA, msI_31 hA, mgI_32 hA, msI_32 hA, mgI_33 hA, msI_33 hA, mgI_34 hA, msI_34 hA, mgI_35 hA, msI_35 hA, mgI_36 hA, msI_36 hA, mgI_39 hA, msI_39 hA, mgJ hA, msJ hA, hL'.2.1, nI_clamp (show k < 2 ^ 31 by omega), o1]
      rw [nt_le (by omega) (by omega)]
      refine ⟨fun hc => by omega, fun _ => ⟨fun h5 => h45 ?_, fun h5 => ⟨hin2, fun h6 => ?_, fun h6 => h45 ?_⟩⟩⟩
      · cases kb with
        | none => rfl
        | some k' => exact absurd h5 (nt_neg (by have := hkb k' rfl; omega))
      · cases kb with
        | none => exact absurd (by decide) h5
        | some k' =>
          have := hkb k' rfl
          have hf : onB (some k') e = false := by
            simp only [onB, decide_eq_false_iff_not]
            intro e2
            exact h6 (by rw [e2]; rfl)
          rw [hf, Bool.false_and, if_neg (by decide)] at h3
          simp only [F_X12_grundyOf_78, e1]
          exact ih (k + 1) S' a (by omega) h1 h2 ha h3
      · cases kb with
        | none => exact absurd (by decide) h5
        | some k' =>
          have := hkb k' rfl
          simp only [onB, decide_eq_true_eq]
          exact (nt_eq (by omega) (by omega)).mp h6
  refine m_X12_grundyOf rv_m ?_
  have hmem := hM tk htk
  simp only [F_X12_grundyOf, mfI_0, mpI_0, mfN_1, mfI_2, mpI_2, mfI_3, mpI_3, mfI_4, mpI_4, mfI_5, mpI_5, mfI_6, mpI_6, mfI_7, mpI_7, mfI_8, mpI_8, mfI_9, mpI_9, mfI_10, mpI_10, mfI_11, mpI_11, mfN_12, mfZ_13, mpZ_13, mfZ_14, mpZ_14, mfN_15, mfN_16, mfN_17, mfN_18, mfN_19, mfN_20, mfI_21, mpI_21, mfI_22, mpI_22, mfN_23, mfN_24, mfN_25, mfN_26, mfN_27, mfN_28, mfN_29, mfI_30, mpI_30, mfN_31, mfN_32, mfN_33, mfN_34, mfN_35, mfN_36, mfN_37, mfI_38, mpI_38, mfN_39, mfI_40, mpI_40, mfI_41, mpI_41, mgI_1 hA, msI_1 hA, mgI_12 hA, msI_12 hA, mgI_15 hA, msI_15 hA, mgI_16 hA, msI_16 hA, mgI_17 hA, msI_17 hA, mgI_18 hA, msI_18 hA, mgI_19 hA, msI_19 hA, mgI_20 hA, msI_20 hA, mgI_23 hA, msI_23 hA, mgI_24 hA, msI_24 hA, mgI_25 hA, msI_25 hA, mgI_26 hA, msI_26 hA, mgI_27 hA, msI_27 hA, mgI_28 hA, msI_28 hA, mgI_29 hA, msI_29 hA, mgI_31 hA, msI_31 hA, mgI_32 hA, msI_32 hA, mgI_33 hA, msI_33 hA, mgI_34 hA, msI_34 hA, mgI_35 hA, msI_35 hA, mgI_36 hA, msI_36 hA, mgI_39 hA, msI_39 hA, mgJ hA, msJ hA, hcl]
  refine ⟨hin, fun h1 => ?_, fun h1 => ⟨hin, ?_⟩⟩
  · exact ⟨L.length + 1, hz L.length 0 S 0 (by omega) Sm.rf hM (by decide) rfl⟩
  · rcases hmem with h2 | h2
    · rw [h2] at h1; exact absurd (by decide) h1
    · rw [h2]
      exact hK S Sm.rf hM
theorem s_X12_grundyOf (hA : okA m A) (hW : WFT T) (hV : VL T L) (hkb : ∀ k, kb = some k → k < 3) : ∀ n {d : Nat} {S : MS} {tk : Nat}, fr tk ≤ n → tk < 16384 → TR T (S.2.2.1 15) → LR L S → MEG T L kb S → ∀ {K : Int32 → Hp → Prop}, (∀ S', Sm [] [] [36] S S' → MEG T L kb S' → K (nI (gr T L kb tk)) (mh m A S' ρ)) → C_X12_grundyOf l G (d + n + 2) m (nI tk) (kbI kb) (mh m A S ρ) K := by
  intro n
  induction n with
  | zero =>
    intro d S tk hn htk hR hL hM K hK
    exact grundyOf_step (D := d) hA hW hV hkb htk (fun S' tk' K' h1 => absurd h1 (by omega)) hR hL hM hK
  | succ n ih =>
    intro d S tk hn htk hR hL hM K hK
    exact grundyOf_step (D := d + (n + 1)) hA hW hV hkb htk (fun S' tk' K' h1 h2 h3 h4 h5 h6 => by
      have := ih (d := d) (S := S') (tk := tk') (by omega) h2 h3 h4 h5 h6
      exact this) hR hL hM hK
end GRU
