/-! NAMES in the model -/
def bwords : List (List Nat) := [[116, 97, 98, 108, 101], [98, 111, 97, 114, 100], [106, 117, 103], [112, 105, 101, 99, 101], [108, 97, 121]]
def nmOK (B : Nat → Nat) (N a : Nat) : Bool := decide (eK B N a = 2) && !(bwords.contains (tw B N a))
theorem isW_tw {B : Nat → Nat} {N a : Nat} {w : List Nat} (h : eK B N a = 2) : isW B N a w = (tw B N a == w) := by
  unfold isW
  rw [Bool.eq_iff_iff, decide_eq_true_eq, beq_iff_eq]
  exact ⟨fun h2 => h2.2, fun h2 => ⟨h, h2⟩⟩
/-- the array f with the name w at n -/
def NP (f f' : Nat → Int32) (n : Nat) (w : List Nat) : Prop := f' (37 + n) = nI w.length ∧ (∀ i, i < w.length → f' (44 + 8 * n + i) = nI (w.getD i 0)) ∧ ∀ i, i ≠ 37 + n → (i < 44 + 8 * n ∨ 44 + 8 * n + 8 ≤ i) → f' i = f i
section NAM
variable {l : Launch} {G : GG} {d m : Nat} {A : Nat → Nat} {S : MS} {ρ : Hp} {B : Nat → Nat} {N a : Nat} {T : TB}
theorem s_X12_mustName (hA : okA m A) (ha : a ≤ N) (ht : TXT B N S) (hT : TkA B N a S) (hf : S.2.1 13 = false) {K : Hp → Prop} (hK : nmOK B N a = true → K (mh m A S ρ)) (hK2 : nmOK B N a = false → K (mh m A (wr S 1 a) ρ)) : C_X12_mustName l G (d + 6) m (mh m A S ρ) K := by
  have h60 := eK_lt (B := B) (N := N) (a := a)
  have hend : (∀ σ, σ = mh m A S ρ → eK B N a = 2 → bwords.contains (tw B N a) = true → F_X12_mustName_45 l G (d + 5) m σ K) := by
    intro σ hσ h2 hb
    subst hσ
    simp only [F_X12_mustName_45, F_X12_mustName_50, F_X12_mustName_63, F_X12_mustName_72, mfI_0, mpI_0, mfN_1, mfI_2, mpI_2, mfI_3, mpI_3, mfI_4, mpI_4, mfI_5, mpI_5, mfI_6, mpI_6, mfI_7, mpI_7, mfI_8, mpI_8, mfI_9, mpI_9, mfI_10, mpI_10, mfI_11, mpI_11, mfN_12, mfZ_13, mpZ_13, mfZ_14, mpZ_14, mfN_15, mfN_16, mfN_17, mfN_18, mfN_19, mfN_20, mfI_21, mpI_21, mfI_22, mpI_22, mfN_23, mfN_24, mfN_25, mfN_26, mfN_27, mfN_28, mfN_29, mfI_30, mpI_30, mfN_31, mfN_32, mfN_33, mfN_34, mfN_35, mfN_36, mfN_37, mfI_38, mpI_38, mfN_39, mfI_40, mpI_40, mfI_41, mpI_41, hT.2.2.1, hT.1, h2]
    refine ⟨fun hc => absurd rfl hc, fun _ => ⟨fun hc => absurd hc (by decide), fun _ => ?_⟩⟩
    exact s_X12_wrong (d := d + 4) hf (hK2 (by rw [nmOK, hb]; simp))
  have hw : ∀ w, isW B N a w = true → w ∈ bwords → eK B N a = 2 ∧ bwords.contains (tw B N a) = true := by
    intro w h1 h2
    unfold isW at h1
    rw [decide_eq_true_eq] at h1
    exact ⟨h1.1, by rw [h1.2]; exact List.contains_iff_mem.mpr h2⟩
  refine m_X12_mustName rv_m ?_
  simp only [F_X12_mustName]
  refine s_X12_isWord (d := d) hA (j := 21) rfl ht.1 ha ht.2.2.1 hT ?_
  rw [hf, Bool.not_false, Bool.true_and]
  refine ⟨fun h1 => hend _ rfl (hw _ h1 (by decide)).1 (hw _ h1 (by decide)).2, fun h1 => ?_⟩
  refine s_X12_isWord (d := d) hA (j := 25) rfl ht.1 ha ht.2.2.1 hT ?_
  rw [hf, Bool.not_false, Bool.true_and]
  refine ⟨fun h2 => hend _ rfl (hw _ h2 (by decide)).1 (hw _ h2 (by decide)).2, fun h2 => ?_⟩
  refine s_X12_isWord (d := d) hA (j := 26) rfl ht.1 ha ht.2.2.1 hT ?_
  rw [hf, Bool.not_false, Bool.true_and]
  refine ⟨fun h3 => hend _ rfl (hw _ h3 (by decide)).1 (hw _ h3 (by decide)).2, fun h3 => ?_⟩
  refine s_X12_isWord (d := d) hA (j := 27) rfl ht.1 ha ht.2.2.1 hT ?_
  rw [hf, Bool.not_false, Bool.true_and]
  refine ⟨fun h4 => hend _ rfl (hw _ h4 (by decide)).1 (hw _ h4 (by decide)).2, fun h4 => ?_⟩
  refine s_X12_isWord (d := d) hA (j := 28) rfl ht.1 ha ht.2.2.1 hT ?_
  rw [hf, Bool.not_false, Bool.true_and]
  refine ⟨fun h5 => ?_, fun h5 => hend _ rfl (hw _ h5 (by decide)).1 (hw _ h5 (by decide)).2⟩
  simp only [F_X12_mustName_50, F_X12_mustName_63, F_X12_mustName_72, mfI_0, mpI_0, mfN_1, mfI_2, mpI_2, mfI_3, mpI_3, mfI_4, mpI_4, mfI_5, mpI_5, mfI_6, mpI_6, mfI_7, mpI_7, mfI_8, mpI_8, mfI_9, mpI_9, mfI_10, mpI_10, mfI_11, mpI_11, mfN_12, mfZ_13, mpZ_13, mfZ_14, mpZ_14, mfN_15, mfN_16, mfN_17, mfN_18, mfN_19, mfN_20, mfI_21, mpI_21, mfI_22, mpI_22, mfN_23, mfN_24, mfN_25, mfN_26, mfN_27, mfN_28, mfN_29, mfI_30, mpI_30, mfN_31, mfN_32, mfN_33, mfN_34, mfN_35, mfN_36, mfN_37, mfI_38, mpI_38, mfN_39, mfI_40, mpI_40, mfI_41, mpI_41, hT.2.2.1, hT.1]
  rw [show (2 : Int32) = nI 2 from rfl, nt_eq (by omega) (by decide)]
  refine ⟨fun h6 => s_X12_wrong (d := d + 4) hf (hK2 (by simp [nmOK, h6])), fun h6 => ⟨fun _ => hK ?_, fun hc => absurd hc (by decide)⟩⟩
  rw [isW_tw h6, beq_eq_false_iff_ne] at h1 h2 h3 h4 h5
  simp only [nmOK, h6, decide_true, Bool.true_and, Bool.not_eq_true', bwords]
  simp [h1, h2, h3, h4, h5]
theorem z_m_find44 (hA : okA m A) (h16 : TR T (S.2.2.1 16)) {n : Nat} {w w' : List Nat} (hn : n < 7) (hw : nms T n = some w) (hl : w.length = w'.length) (hl8 : w'.length ≤ 8) (h8 : S.1 8 = nI w'.length) (hc : ∀ i, w.getD i 0 < 256) (hc' : ∀ i, w'.getD i 0 < 256) (h12 : ∀ j, j < w'.length → S.2.2.1 12 j = nI (w'.getD j 0)) {X2 : Nat → Int32 → Hp → Prop} {K : Int32 → Hp → Prop} : ∀ r k (s : Bool), k + r = w'.length → ((s && weq (fun i => w.getD i 0) 0 w' r k) = true → K (nI n) (mh m A S ρ)) → ((s && weq (fun i => w.getD i 0) 0 w' r k) = false → X2 m (nI n + 1) (mh m A S ρ)) → ∃ n', Z_X12_find_44 l G d X2 K n' m (nI n) s (nI k) (mh m A S ρ) := by
  have hg := (h16.2.2.2.2.2.1 n w hw).2
  intro r
  induction r with
  | zero =>
    intro k s hk h1 h2
    refine ⟨1, ?_⟩
    simp only [Z_X12_find_44, F_X12_find_44, F_X12_find_91, mfI_0, mpI_0, mfN_1, mfI_2, mpI_2, mfI_3, mpI_3, mfI_4, mpI_4, mfI_5, mpI_5, mfI_6, mpI_6, mfI_7, mpI_7, mfI_8, mpI_8, mfI_9, mpI_9, mfI_10, mpI_10, mfI_11, mpI_11, mfN_12, mfZ_13, mpZ_13, mfZ_14, mpZ_14, mfN_15, mfN_16, mfN_17, mfN_18, mfN_19, mfN_20, mfI_21, mpI_21, mfI_22, mpI_22, mfN_23, mfN_24, mfN_25, mfN_26, mfN_27, mfN_28, mfN_29, mfI_30, mpI_30, mfN_31, mfN_32, mfN_33, mfN_34, mfN_35, mfN_36, mfN_37, mfI_38, mpI_38, mfN_39, mfI_40, mpI_40, mfI_41, mpI_41, h8]
    rw [nt_le (by omega) (by omega)]
    simp only [weq, Bool.and_true] at h1 h2
    exact ⟨fun _ => ⟨h2, h1⟩, fun hc => absurd (by omega) hc⟩
  | succ r ih =>
    intro k s hk h1 h2
    cases s with
    | false =>
      refine ⟨1, ?_⟩
      simp only [Z_X12_find_44, F_X12_find_44, F_X12_find_91, mfI_0, mpI_0, mfN_1, mfI_2, mpI_2, mfI_3, mpI_3, mfI_4, mpI_4, mfI_5, mpI_5, mfI_6, mpI_6, mfI_7, mpI_7, mfI_8, mpI_8, mfI_9, mpI_9, mfI_10, mpI_10, mfI_11, mpI_11, mfN_12, mfZ_13, mpZ_13, mfZ_14, mpZ_14, mfN_15, mfN_16, mfN_17, mfN_18, mfN_19, mfN_20, mfI_21, mpI_21, mfI_22, mpI_22, mfN_23, mfN_24, mfN_25, mfN_26, mfN_27, mfN_28, mfN_29, mfI_30, mpI_30, mfN_31, mfN_32, mfN_33, mfN_34, mfN_35, mfN_36, mfN_37, mfI_38, mpI_38, mfN_39, mfI_40, mpI_40, mfI_41, mpI_41, h8]
      rw [nt_le (by omega) (by omega)]
      have h3 := h2 (by simp)
      exact ⟨fun hc => by omega, fun _ => ⟨fun _ => ⟨fun _ => h3, fun hc => absurd hc (by decide)⟩, fun hc => absurd hc (by decide)⟩⟩
    | true =>
      have hck := hc k
      have hck' := hc' k
      simp only [weq, Bool.true_and, Nat.zero_add] at h1 h2
      have e1 : nI k + 1 = nI (k + 1) := nt_add k 1
      have e2 : (44 + 8 * nI n + nI k : Int32) = nI (44 + 8 * n + k) := by
        rw [show (44 : Int32) = nI 44 from rfl, show (8 : Int32) = nI 8 from rfl, nt_mul, nt_add, nt_add]
      obtain ⟨n', hz⟩ := ih (k + 1) (decide (w.getD k 0 = w'.getD k 0)) (by omega) h1 h2
      refine ⟨n' + 1, ?_⟩
      simp only [Z_X12_find_44, F_X12_find_44, F_X12_find_91, F_X12_find_84, mfI_0, mpI_0, mfN_1, mfI_2, mpI_2, mfI_3, mpI_3, mfI_4, mpI_4, mfI_5, mpI_5, mfI_6, mpI_6, mfI_7, mpI_7, mfI_8, mpI_8, mfI_9, mpI_9, mfI_10, mpI_10, mfI_11, mpI_11, mfN_12, mfZ_13, mpZ_13, mfZ_14, mpZ_14, mfN_15, mfN_16, mfN_17, mfN_18, mfN_19, mfN_20, mfI_21, mpI_21, mfI_22, mpI_22, mfN_23, mfN_24, mfN_25, mfN_26, mfN_27, mfN_28, mfN_29, mfI_30, mpI_30, mfN_31, mfN_32, mfN_33, mfN_34, mfN_35, mfN_36, mfN_37, mfI_38, mpI_38, mfN_39, mfI_40, mpI_40, mfI_41, mpI_41, mgI_1 hA, msI_1 hA, mgI_12 hA, msI_12 hA, mgI_15 hA, msI_15 hA, mgI_16 hA, msI_16 hA, mgI_17 hA, msI_17 hA, mgI_18 hA, msI_18 hA, mgI_19 hA, msI_19 hA, mgI_20 hA, msI_20 hA, mgI_23 hA, msI_23 hA, mgI_24 hA, msI_24 hA, mgI_25 hA, msI_25 hA, mgI_26 hA, msI_26 hA, mgI_27 hA, msI_27 hA, mgI_28 hA, msI_28 hA, mgI_29 hA, msI_29 hA, mgI_31 hA, msI_31 hA, mgI_32 hA, msI_32 hA, mgI_33 hA, msI_33 hA, mgI_34 hA, msI_34 hA, mgI_35 hA, msI_35 hA, mgI_36 hA, msI_36 hA, mgI_39 hA, msI_39 hA, mgJ hA, msJ hA, h8, e1, e2]
      rw [nt_le (by omega) (by omega)]
      refine ⟨fun hc => by omega, fun _ => ⟨fun hc => absurd hc (by decide), fun _ => ⟨(nt_in (by omega)).mpr (by omega), (nt_in (by omega)).mpr (by omega), ?_⟩⟩⟩
      rw [nI_clamp (by omega), nI_clamp (by omega), hg k (by omega), h12 k (by omega), nt_eq (by omega) (by omega)]
      refine ⟨fun h5 => ?_, fun h5 => ?_⟩
      · rw [decide_eq_false h5] at hz; exact hz
      · rw [decide_eq_true h5] at hz; exact hz
theorem nm_c {w : List Nat} (h : ∀ c ∈ w, c < 256) (i : Nat) : w.getD i 0 < 256 := by
  rw [List.getD_eq_getElem?_getD]
  cases e : w[i]? with
  | none => simp
  | some c => simpa using h c (List.mem_of_getElem? e)
theorem weq_all {w w' : List Nat} (hl : w.length = w'.length) : weq (fun i => w.getD i 0) 0 w' w'.length 0 = true ↔ w = w' := by
  rw [weq_iff]
  constructor
  · intro h
    apply List.ext_getElem hl
    intro i h1 h2
    have := h i (Nat.zero_le _) (by omega)
    simp only [Nat.zero_add, List.getD_eq_getElem?_getD, List.getElem?_eq_getElem h1, List.getElem?_eq_getElem h2] at this
    exact this
  · rintro rfl j h1 h2
    simp
theorem z_m_find2 (hA : okA m A) (h16 : TR T (S.2.2.1 16)) (hW : WFT T) {w' : List Nat} (hl8 : w'.length ≤ 8) (h8 : S.1 8 = nI w'.length) (hc' : ∀ c ∈ w', c < 256) (h12 : ∀ j, j < w'.length → S.2.2.1 12 j = nI (w'.getD j 0)) {K : Int32 → Hp → Prop} : ∀ r k, k + r = 7 → K (optI (findN T w' r k)) (mh m A S ρ) → ∃ n', Z_X12_find_2 l G d K n' m (nI k) (mh m A S ρ) := by
  intro r
  induction r with
  | zero =>
    intro k hk h
    refine ⟨1, ?_⟩
    simp only [Z_X12_find_2, F_X12_find_2]
    rw [show (7 : Int32) = nI 7 from rfl, nt_le (by omega) (by omega)]
    exact ⟨fun _ => h, fun hc => absurd (by omega) hc⟩
  | succ r ih =>
    intro k hk h
    have e1 : nI k + 1 = nI (k + 1) := nt_add k 1
    have e2 : (37 + nI k : Int32) = nI (37 + k) := by rw [show (37 : Int32) = nI 37 from rfl, nt_add]
    have hin : vp_in (nI (37 + k)) 100 := (nt_in (by omega)).mpr (by omega)
    have hw0 := h16.2.2.2.2.2.1 k
    have hw1 := h16.2.2.2.2.2.2 k (by omega)
    simp only [findN] at h
    have hfalse : ∀ X2 : Nat → Int32 → Hp → Prop, X2 m (nI (k + 1)) (mh m A S ρ) → ∃ n', Z_X12_find_44 l G d X2 K n' m (nI k) false 0 (mh m A S ρ) := by
      intro X2 hX
      refine ⟨1, ?_⟩
      simp only [Z_X12_find_44, F_X12_find_44, F_X12_find_91, mfI_0, mpI_0, mfN_1, mfI_2, mpI_2, mfI_3, mpI_3, mfI_4, mpI_4, mfI_5, mpI_5, mfI_6, mpI_6, mfI_7, mpI_7, mfI_8, mpI_8, mfI_9, mpI_9, mfI_10, mpI_10, mfI_11, mpI_11, mfN_12, mfZ_13, mpZ_13, mfZ_14, mpZ_14, mfN_15, mfN_16, mfN_17, mfN_18, mfN_19, mfN_20, mfI_21, mpI_21, mfI_22, mpI_22, mfN_23, mfN_24, mfN_25, mfN_26, mfN_27, mfN_28, mfN_29, mfI_30, mpI_30, mfN_31, mfN_32, mfN_33, mfN_34, mfN_35, mfN_36, mfN_37, mfI_38, mpI_38, mfN_39, mfI_40, mpI_40, mfI_41, mpI_41, h8, e1]
      exact ⟨fun _ => ⟨fun _ => hX, fun hc => absurd hc (by decide)⟩, fun _ => ⟨fun _ => ⟨fun _ => hX, fun hc => absurd hc (by decide)⟩, fun hc => absurd hc (by decide)⟩⟩
    cases hn : nms T k with
    | none =>
      rw [if_neg (by rw [hn]; simp)] at h
      obtain ⟨n', hz⟩ := ih (k + 1) (by omega) h
      refine ⟨n' + 1, ?_⟩
      simp only [Z_X12_find_2, F_X12_find_2, F_X12_find_40, F_X12_find_41, mfI_0, mpI_0, mfN_1, mfI_2, mpI_2, mfI_3, mpI_3, mfI_4, mpI_4, mfI_5, mpI_5, mfI_6, mpI_6, mfI_7, mpI_7, mfI_8, mpI_8, mfI_9, mpI_9, mfI_10, mpI_10, mfI_11, mpI_11, mfN_12, mfZ_13, mpZ_13, mfZ_14, mpZ_14, mfN_15, mfN_16, mfN_17, mfN_18, mfN_19, mfN_20, mfI_21, mpI_21, mfI_22, mpI_22, mfN_23, mfN_24, mfN_25, mfN_26, mfN_27, mfN_28, mfN_29, mfI_30, mpI_30, mfN_31, mfN_32, mfN_33, mfN_34, mfN_35, mfN_36, mfN_37, mfI_38, mpI_38, mfN_39, mfI_40, mpI_40, mfI_41, mpI_41, mgI_1 hA, msI_1 hA, mgI_12 hA, msI_12 hA, mgI_15 hA, msI_15 hA, mgI_16 hA, msI_16 hA, mgI_17 hA, msI_17 hA, mgI_18 hA, msI_18 hA, mgI_19 hA, msI_19 hA, mgI_20 hA, msI_20 hA, mgI_23 hA, msI_23 hA, mgI_24 hA, msI_24 hA, mgI_25 hA, msI_25 hA, mgI_26 hA, msI_26 hA, mgI_27 hA, msI_27 hA, mgI_28 hA, msI_28 hA, mgI_29 hA, msI_29 hA, mgI_31 hA, msI_31 hA, mgI_32 hA, msI_32 hA, mgI_33 hA, msI_33 hA, mgI_34 hA, msI_34 hA, mgI_35 hA, msI_35 hA, mgI_36 hA, msI_36 hA, mgI_39 hA, msI_39 hA, mgJ hA, msJ hA, e2]
      rw [show (7 : Int32) = nI 7 from rfl, nt_le (by omega) (by omega), nI_clamp (by omega), hw1 hn]
      exact ⟨fun hc => by omega, fun _ => ⟨hin, fun _ => hfalse _ hz, fun hc => absurd (by decide) hc⟩⟩
    | some w =>
      obtain ⟨⟨g1, g2, g3⟩, -⟩ := nms_NM hW hn
      have h37 := (hw0 w hn).1
      have hcw : ∀ c ∈ w, c < 256 := fun c hc => by have := g3 c hc; omega
      by_cases hl : w.length = w'.length
      · by_cases hww : w = w'
        · subst hww
          rw [if_pos hn] at h
          refine ⟨1, ?_⟩
          simp only [Z_X12_find_2, F_X12_find_2, F_X12_find_40, F_X12_find_41, mfI_0, mpI_0, mfN_1, mfI_2, mpI_2, mfI_3, mpI_3, mfI_4, mpI_4, mfI_5, mpI_5, mfI_6, mpI_6, mfI_7, mpI_7, mfI_8, mpI_8, mfI_9, mpI_9, mfI_10, mpI_10, mfI_11, mpI_11, mfN_12, mfZ_13, mpZ_13, mfZ_14, mpZ_14, mfN_15, mfN_16, mfN_17, mfN_18, mfN_19, mfN_20, mfI_21, mpI_21, mfI_22, mpI_22, mfN_23, mfN_24, mfN_25, mfN_26, mfN_27, mfN_28, mfN_29, mfI_30, mpI_30, mfN_31, mfN_32, mfN_33, mfN_34, mfN_35, mfN_36, mfN_37, mfI_38, mpI_38, mfN_39, mfI_40, mpI_40, mfI_41, mpI_41, mgI_1 hA, msI_1 hA, mgI_12 hA, msI_12 hA, mgI_15 hA, msI_15 hA, mgI_16 hA, msI_16 hA, mgI_17 hA, msI_17 hA, mgI_18 hA, msI_18 hA, mgI_19 hA, msI_19 hA, mgI_20 hA, msI_20 hA, mgI_23 hA, msI_23 hA, mgI_24 hA, msI_24 hA, mgI_25 hA, msI_25 hA, mgI_26 hA, msI_26 hA, mgI_27 hA, msI_27 hA, mgI_28 hA, msI_28 hA, mgI_29 hA, msI_29 hA, mgI_31 hA, msI_31 hA, mgI_32 hA, msI_32 hA, mgI_33 hA, msI_33 hA, mgI_34 hA, msI_34 hA, mgI_35 hA, msI_35 hA, mgI_36 hA, msI_36 hA, mgI_39 hA, msI_39 hA, mgJ hA, msJ hA, e2]
          rw [show (7 : Int32) = nI 7 from rfl, nt_le (by omega) (by omega), nI_clamp (by omega), h37, h8]
          refine ⟨fun hc => by omega, fun _ => ⟨hin, fun hc => absurd hc (nI_nle (by omega) (by omega)), fun _ => ⟨hin, fun hc => absurd rfl hc, fun _ => ?_⟩⟩⟩
          refine z_m_find44 hA h16 (by omega) hn rfl hl8 h8 (nm_c hcw) (nm_c hc') h12 w.length 0 true (by omega) (fun _ => h) (fun hc => ?_)
          rw [Bool.true_and, (weq_all rfl).mpr rfl] at hc
          exact absurd hc (by decide)
        · rw [if_neg (by rw [hn]; simpa using hww)] at h
          obtain ⟨n', hz⟩ := ih (k + 1) (by omega) h
          refine ⟨n' + 1, ?_⟩
          simp only [Z_X12_find_2, F_X12_find_2, F_X12_find_40, F_X12_find_41, mfI_0, mpI_0, mfN_1, mfI_2, mpI_2, mfI_3, mpI_3, mfI_4, mpI_4, mfI_5, mpI_5, mfI_6, mpI_6, mfI_7, mpI_7, mfI_8, mpI_8, mfI_9, mpI_9, mfI_10, mpI_10, mfI_11, mpI_11, mfN_12, mfZ_13, mpZ_13, mfZ_14, mpZ_14, mfN_15, mfN_16, mfN_17, mfN_18, mfN_19, mfN_20, mfI_21, mpI_21, mfI_22, mpI_22, mfN_23, mfN_24, mfN_25, mfN_26, mfN_27, mfN_28, mfN_29, mfI_30, mpI_30, mfN_31, mfN_32, mfN_33, mfN_34, mfN_35, mfN_36, mfN_37, mfI_38, mpI_38, mfN_39, mfI_40, mpI_40, mfI_41, mpI_41, mgI_1 hA, msI_1 hA, mgI_12 hA, msI_12 hA, mgI_15 hA, msI_15 hA, mgI_16 hA, msI_16 hA, mgI_17 hA, msI_17 hA, mgI_18 hA, msI_18 hA, mgI_19 hA, msI_19 hA, mgI_20 hA, msI_20 hA, mgI_23 hA, msI_23 hA, mgI_24 hA, msI_24 hA, mgI_25 hA, msI_25 hA, mgI_26 hA, msI_26 hA, mgI_27 hA, msI_27 hA, mgI_28 hA, msI_28 hA, mgI_29 hA, msI_29 hA, mgI_31 hA, msI_31 hA, mgI_32 hA, msI_32 hA, mgI_33 hA, msI_33 hA, mgI_34 hA, msI_34 hA, mgI_35 hA, msI_35 hA, mgI_36 hA, msI_36 hA, mgI_39 hA, msI_39 hA, mgJ hA, msJ hA, e2]
          rw [show (7 : Int32) = nI 7 from rfl, nt_le (by omega) (by omega), nI_clamp (by omega), h37, h8]
          refine ⟨fun hc => by omega, fun _ => ⟨hin, fun hc => absurd hc (nI_nle (by omega) (by omega)), fun _ => ⟨hin, fun hc => absurd (by rw [hl]) hc, fun _ => ?_⟩⟩⟩
          refine z_m_find44 hA h16 (by omega) hn hl hl8 h8 (nm_c hcw) (nm_c hc') h12 w'.length 0 true (by omega) (fun hc => ?_) (fun _ => by rw [e1]; exact hz)
          rw [Bool.true_and] at hc
          exact absurd ((weq_all hl).mp hc) hww
      · rw [if_neg (by rw [hn]; intro e; exact hl (by rw [Option.some.inj e]))] at h
        obtain ⟨n', hz⟩ := ih (k + 1) (by omega) h
        refine ⟨n' + 1, ?_⟩
        simp only [Z_X12_find_2, F_X12_find_2, F_X12_find_40, F_X12_find_41, mfI_0, mpI_0, mfN_1, mfI_2, mpI_2, mfI_3, mpI_3, mfI_4, mpI_4, mfI_5, mpI_5, mfI_6, mpI_6, mfI_7, mpI_7, mfI_8, mpI_8, mfI_9, mpI_9, mfI_10, mpI_10, mfI_11, mpI_11, mfN_12, mfZ_13, mpZ_13, mfZ_14, mpZ_14, mfN_15, mfN_16, mfN_17, mfN_18, mfN_19, mfN_20, mfI_21, mpI_21, mfI_22, mpI_22, mfN_23, mfN_24, mfN_25, mfN_26, mfN_27, mfN_28, mfN_29, mfI_30, mpI_30, mfN_31, mfN_32, mfN_33, mfN_34, mfN_35, mfN_36, mfN_37, mfI_38, mpI_38, mfN_39, mfI_40, mpI_40, mfI_41, mpI_41, mgI_1 hA, msI_1 hA, mgI_12 hA, msI_12 hA, mgI_15 hA, msI_15 hA, mgI_16 hA, msI_16 hA, mgI_17 hA, msI_17 hA, mgI_18 hA, msI_18 hA, mgI_19 hA, msI_19 hA, mgI_20 hA, msI_20 hA, mgI_23 hA, msI_23 hA, mgI_24 hA, msI_24 hA, mgI_25 hA, msI_25 hA, mgI_26 hA, msI_26 hA, mgI_27 hA, msI_27 hA, mgI_28 hA, msI_28 hA, mgI_29 hA, msI_29 hA, mgI_31 hA, msI_31 hA, mgI_32 hA, msI_32 hA, mgI_33 hA, msI_33 hA, mgI_34 hA, msI_34 hA, mgI_35 hA, msI_35 hA, mgI_36 hA, msI_36 hA, mgI_39 hA, msI_39 hA, mgJ hA, msJ hA, e2]
        rw [show (7 : Int32) = nI 7 from rfl, nt_le (by omega) (by omega), nI_clamp (by omega), h37, h8, nt_eq (by omega) (by omega)]
        exact ⟨fun hc => by omega, fun _ => ⟨hin, fun _ => hfalse _ hz, fun _ => ⟨hin, fun _ => hfalse _ hz, fun hc => absurd hc hl⟩⟩⟩
theorem tw_c (hb : ∀ j, B j < 256) : ∀ c ∈ tw B N a, c < 256 := by
  intro c hc
  simp only [tw, List.mem_map] at hc
  obtain ⟨j, -, rfl⟩ := hc
  exact hb _
theorem tw_8 (h2 : eK B N a = 2) : (tw B N a).length ≤ 8 := by
  rw [tw_len]
  unfold eK at h2
  (repeat' (split at h2)) <;> omega
theorem tw_g (h2 : eK B N a = 2) (hT : TkA B N a S) : S.1 8 = nI (tw B N a).length ∧ ∀ j, j < (tw B N a).length → S.2.2.1 12 j = nI ((tw B N a).getD j 0) := by
  obtain ⟨g1, g2⟩ := hT.2.2.2.1 h2
  refine ⟨by rw [tw_len]; exact g1, fun j hj => ?_⟩
  rw [tw_len] at hj
  rw [g2 j hj, List.getD_eq_getElem?_getD, tw_at hj]
  rfl
theorem s_X12_find (hA : okA m A) (hb : ∀ j, B j < 256) (h16 : TR T (S.2.2.1 16)) (hW : WFT T) (h2 : eK B N a = 2) (hT : TkA B N a S) {K : Int32 → Hp → Prop} (h : K (optI (findN T (tw B N a) 7 0)) (mh m A S ρ)) : C_X12_find l G (d + 1) m (mh m A S ρ) K := by
  refine m_X12_find rv_m ?_
  simp only [F_X12_find]
  exact z_m_find2 hA h16 hW (tw_8 h2) (tw_g h2 hT).1 (tw_c hb) (tw_g h2 hT).2 7 0 rfl h
theorem TkA.sm {is bs ar : List Nat} {S' : MS} (h : TkA B N a S) (hS : Sm is bs ar S S') (h4 : 4 ∉ is) (h5 : 5 ∉ is) (h6 : 6 ∉ is) (h7 : 7 ∉ is) (h8 : 8 ∉ is) (h12 : 12 ∉ ar) : TkA B N a S' :=
  ⟨(hS.1 4 h4).trans h.1, (hS.1 5 h5).trans h.2.1, (hS.1 6 h6).trans h.2.2.1, fun e => ⟨(hS.1 8 h8).trans (h.2.2.2.1 e).1, fun j hj => by rw [hS.2.2.1 12 h12]; exact (h.2.2.2.1 e).2 j hj⟩, fun e => (hS.1 7 h7).trans (h.2.2.2.2 e)⟩
theorem z_m_newName (hA : okA m A) (ha : a ≤ N) {n : Nat} (hn : n < 7) (h2 : eK B N a = 2) {f : Nat → Int32} {K : Hp → Prop} : ∀ r k (S : MS), k + r = (tw B N a).length → TXT B N S → TkA B N a S → (∀ i, i < k → S.2.2.1 16 (44 + 8 * n + i) = nI ((tw B N a).getD i 0)) → (∀ i, (i < 44 + 8 * n ∨ 44 + 8 * n + 8 ≤ i) → S.2.2.1 16 i = f i) → (∀ S' : MS, Sm [4, 5, 6, 7, 8] [] [12, 16] S S' → TkA B N (nx B N a) S' → NP f (S'.2.2.1 16) n (tw B N a) → K (mh m A S' ρ)) → ∃ n', Z_X12_newName_45 l G (d + 2) K n' m (nI n) (nI k) (mh m A S ρ) := by
  have hl8 := tw_8 h2
  intro r
  induction r with
  | zero =>
    intro k S hk ht hT hi ho hK
    obtain ⟨g8, g12⟩ := tw_g h2 hT
    refine ⟨1, ?_⟩
    simp only [Z_X12_newName_45, F_X12_newName_45, mfI_0, mpI_0, mfN_1, mfI_2, mpI_2, mfI_3, mpI_3, mfI_4, mpI_4, mfI_5, mpI_5, mfI_6, mpI_6, mfI_7, mpI_7, mfI_8, mpI_8, mfI_9, mpI_9, mfI_10, mpI_10, mfI_11, mpI_11, mfN_12, mfZ_13, mpZ_13, mfZ_14, mpZ_14, mfN_15, mfN_16, mfN_17, mfN_18, mfN_19, mfN_20, mfI_21, mpI_21, mfI_22, mpI_22, mfN_23, mfN_24, mfN_25, mfN_26, mfN_27, mfN_28, mfN_29, mfI_30, mpI_30, mfN_31, mfN_32, mfN_33, mfN_34, mfN_35, mfN_36, mfN_37, mfI_38, mpI_38, mfN_39, mfI_40, mpI_40, mfI_41, mpI_41, mgI_1 hA, msI_1 hA, mgI_12 hA, msI_12 hA, mgI_15 hA, msI_15 hA, mgI_16 hA, msI_16 hA, mgI_17 hA, msI_17 hA, mgI_18 hA, msI_18 hA, mgI_19 hA, msI_19 hA, mgI_20 hA, msI_20 hA, mgI_23 hA, msI_23 hA, mgI_24 hA, msI_24 hA, mgI_25 hA, msI_25 hA, mgI_26 hA, msI_26 hA, mgI_27 hA, msI_27 hA, mgI_28 hA, msI_28 hA, mgI_29 hA, msI_29 hA, mgI_31 hA, msI_31 hA, mgI_32 hA, msI_32 hA, mgI_33 hA, msI_33 hA, mgI_34 hA, msI_34 hA, mgI_35 hA, msI_35 hA, mgI_36 hA, msI_36 hA, mgI_39 hA, msI_39 hA, mgJ hA, msJ hA, g8]
    rw [nt_le (by omega) (by omega), show (37 + nI n : Int32) = nI (37 + n) by rw [show (37 : Int32) = nI 37 from rfl, nt_add], nI_clamp (by omega)]
    refine ⟨fun _ => ⟨(nt_in (by omega)).mpr (by omega), ?_⟩, fun hc => absurd (by omega) hc⟩
    have hSm : Sm [] [] [16] S (seta S 16 (up_ (S.2.2.1 16) (37 + n) (nI (tw B N a).length))) := Sm.a Sm.rf (by decide)
    refine s_X12_nx hA ha (ht.sm hSm (by decide) (by decide)) (hT.sm hSm (by decide) (by decide) (by decide) (by decide) (by decide) (by decide)) (fun S' hS' hT' => ?_)
    have e16 : S'.2.2.1 16 = up_ (S.2.2.1 16) (37 + n) (nI (tw B N a).length) := hS'.2.2.1 16 (by decide)
    refine hK S' (Sm.tr (hSm.mo (by decide) (by decide) (by decide)) (hS'.mo (by decide) (by decide) (by decide))) hT' ⟨?_, fun i hi' => ?_, fun i h1 h3 => ?_⟩
    · rw [e16, up_eq]
    · rw [e16, up_ne (by omega), hi i (by omega)]
    · rw [e16, up_ne h1, ho i h3]
  | succ r ih =>
    intro k S hk ht hT hi ho hK
    obtain ⟨g8, g12⟩ := tw_g h2 hT
    have e1 : nI k + 1 = nI (k + 1) := nt_add k 1
    have e2 : (44 + 8 * nI n + nI k : Int32) = nI (44 + 8 * n + k) := by
      rw [show (44 : Int32) = nI 44 from rfl, show (8 : Int32) = nI 8 from rfl, nt_mul, nt_add, nt_add]
    have hSm : Sm [] [] [16] S (seta S 16 (up_ (S.2.2.1 16) (44 + 8 * n + k) (nI ((tw B N a).getD k 0)))) := Sm.a Sm.rf (by decide)
    obtain ⟨n', hz⟩ := ih (k + 1) _ (by omega) (ht.sm hSm (by decide) (by decide)) (hT.sm hSm (by decide) (by decide) (by decide) (by decide) (by decide) (by decide))
      (fun i h1 => by
        show up_ (S.2.2.1 16) (44 + 8 * n + k) (nI ((tw B N a).getD k 0)) _ = _
        by_cases e : i = k
        · rw [e, up_eq]
        · rw [up_ne (by omega), hi i (by omega)])
      (fun i h1 => by
        show up_ (S.2.2.1 16) (44 + 8 * n + k) (nI ((tw B N a).getD k 0)) _ = _
        rw [up_ne (by omega), ho i h1])
      (fun S' hS' => hK S' (Sm.tr (hSm.mo (by decide) (by decide) (by decide)) hS'))
    refine ⟨n' + 1, ?_⟩
    simp only [Z_X12_newName_45, F_X12_newName_45, mfI_0, mpI_0, mfN_1, mfI_2, mpI_2, mfI_3, mpI_3, mfI_4, mpI_4, mfI_5, mpI_5, mfI_6, mpI_6, mfI_7, mpI_7, mfI_8, mpI_8, mfI_9, mpI_9, mfI_10, mpI_10, mfI_11, mpI_11, mfN_12, mfZ_13, mpZ_13, mfZ_14, mpZ_14, mfN_15, mfN_16, mfN_17, mfN_18, mfN_19, mfN_20, mfI_21, mpI_21, mfI_22, mpI_22, mfN_23, mfN_24, mfN_25, mfN_26, mfN_27, mfN_28, mfN_29, mfI_30, mpI_30, mfN_31, mfN_32, mfN_33, mfN_34, mfN_35, mfN_36, mfN_37, mfI_38, mpI_38, mfN_39, mfI_40, mpI_40, mfI_41, mpI_41, mgI_1 hA, msI_1 hA, mgI_12 hA, msI_12 hA, mgI_15 hA, msI_15 hA, mgI_16 hA, msI_16 hA, mgI_17 hA, msI_17 hA, mgI_18 hA, msI_18 hA, mgI_19 hA, msI_19 hA, mgI_20 hA, msI_20 hA, mgI_23 hA, msI_23 hA, mgI_24 hA, msI_24 hA, mgI_25 hA, msI_25 hA, mgI_26 hA, msI_26 hA, mgI_27 hA, msI_27 hA, mgI_28 hA, msI_28 hA, mgI_29 hA, msI_29 hA, mgI_31 hA, msI_31 hA, mgI_32 hA, msI_32 hA, mgI_33 hA, msI_33 hA, mgI_34 hA, msI_34 hA, mgI_35 hA, msI_35 hA, mgI_36 hA, msI_36 hA, mgI_39 hA, msI_39 hA, mgJ hA, msJ hA, g8, e1, e2]
    rw [nt_le (by omega) (by omega), nI_clamp (by omega), nI_clamp (by omega), g12 k (by omega)]
    exact ⟨fun hc => by omega, fun _ => ⟨(nt_in (by omega)).mpr (by omega), (nt_in (by omega)).mpr (by omega), hz⟩⟩
theorem findN_lt {w : List Nat} : ∀ r k n, findN T w r k = some n → k ≤ n ∧ n < k + r ∧ nms T n = some w
  | 0, k, n => by simp [findN]
  | r + 1, k, n => by
    simp only [findN]
    split
    · rintro h
      cases h
      exact ⟨Nat.le_refl _, by omega, by assumption⟩
    · intro h
      have := findN_lt r (k + 1) n h
      exact ⟨by omega, by omega, this.2.2⟩
theorem s_X12_newName (hA : okA m A) (ha : a ≤ N) (ht : TXT B N S) (hT : TkA B N a S) (hf : S.2.1 13 = false) (h16 : TR T (S.2.2.1 16)) (hW : WFT T) {n : Nat} (hn : n < 7) {K : Hp → Prop}
    (hK : nmOK B N a = true → findN T (tw B N a) 7 0 = none → ∀ S' : MS, Sm [4, 5, 6, 7, 8] [] [12, 16] S S' → TkA B N (nx B N a) S' → NP (S.2.2.1 16) (S'.2.2.1 16) n (tw B N a) → K (mh m A S' ρ))
    (hK1 : nmOK B N a = false → K (mh m A (wr S 1 a) ρ)) (hK3 : nmOK B N a = true → ∀ k, findN T (tw B N a) 7 0 = some k → K (mh m A (wr S 3 a) ρ)) : C_X12_newName l G (d + 7) m (nI n) (mh m A S ρ) K := by
  have hw1 : ∀ f : Int32, (wr S f a).2.1 13 = true := fun _ => rfl
  refine m_X12_newName rv_m ?_
  simp only [F_X12_newName, F_X12_newName_35, mfI_0, mpI_0, mfN_1, mfI_2, mpI_2, mfI_3, mpI_3, mfI_4, mpI_4, mfI_5, mpI_5, mfI_6, mpI_6, mfI_7, mpI_7, mfI_8, mpI_8, mfI_9, mpI_9, mfI_10, mpI_10, mfI_11, mpI_11, mfN_12, mfZ_13, mpZ_13, mfZ_14, mpZ_14, mfN_15, mfN_16, mfN_17, mfN_18, mfN_19, mfN_20, mfI_21, mpI_21, mfI_22, mpI_22, mfN_23, mfN_24, mfN_25, mfN_26, mfN_27, mfN_28, mfN_29, mfI_30, mpI_30, mfN_31, mfN_32, mfN_33, mfN_34, mfN_35, mfN_36, mfN_37, mfI_38, mpI_38, mfN_39, mfI_40, mpI_40, mfI_41, mpI_41, hf]
  refine ⟨fun _ => ?_, fun hc => absurd hc (by decide)⟩
  refine s_X12_mustName (d := d) hA ha ht hT hf (fun h1 => ?_) (fun h1 => ?_)
  · simp only [mfI_0, mpI_0, mfN_1, mfI_2, mpI_2, mfI_3, mpI_3, mfI_4, mpI_4, mfI_5, mpI_5, mfI_6, mpI_6, mfI_7, mpI_7, mfI_8, mpI_8, mfI_9, mpI_9, mfI_10, mpI_10, mfI_11, mpI_11, mfN_12, mfZ_13, mpZ_13, mfZ_14, mpZ_14, mfN_15, mfN_16, mfN_17, mfN_18, mfN_19, mfN_20, mfI_21, mpI_21, mfI_22, mpI_22, mfN_23, mfN_24, mfN_25, mfN_26, mfN_27, mfN_28, mfN_29, mfI_30, mpI_30, mfN_31, mfN_32, mfN_33, mfN_34, mfN_35, mfN_36, mfN_37, mfI_38, mpI_38, mfN_39, mfI_40, mpI_40, mfI_41, mpI_41, hf]
    refine ⟨fun hc => absurd hc (by decide), fun _ => ?_⟩
    have h2 : eK B N a = 2 := by simp only [nmOK, Bool.and_eq_true, decide_eq_true_eq] at h1; exact h1.1
    refine s_X12_find (d := d + 5) hA ht.2.2.1 h16 hW h2 hT ?_
    cases hfd : findN T (tw B N a) 7 0 with
    | none =>
      refine ⟨fun _ => ?_, fun hc => absurd (by decide) hc⟩
      simp only [mfI_0, mpI_0, mfN_1, mfI_2, mpI_2, mfI_3, mpI_3, mfI_4, mpI_4, mfI_5, mpI_5, mfI_6, mpI_6, mfI_7, mpI_7, mfI_8, mpI_8, mfI_9, mpI_9, mfI_10, mpI_10, mfI_11, mpI_11, mfN_12, mfZ_13, mpZ_13, mfZ_14, mpZ_14, mfN_15, mfN_16, mfN_17, mfN_18, mfN_19, mfN_20, mfI_21, mpI_21, mfI_22, mpI_22, mfN_23, mfN_24, mfN_25, mfN_26, mfN_27, mfN_28, mfN_29, mfI_30, mpI_30, mfN_31, mfN_32, mfN_33, mfN_34, mfN_35, mfN_36, mfN_37, mfI_38, mpI_38, mfN_39, mfI_40, mpI_40, mfI_41, mpI_41, hf]
      refine ⟨fun _ => ?_, fun hc => absurd hc (by decide)⟩
      exact z_m_newName (d := d + 4) hA ha hn h2 _ 0 S (Nat.zero_add _) ht hT (fun i hi => by omega) (fun i _ => rfl) (hK h1 hfd)
    | some k =>
      have hk := findN_lt 7 0 k hfd
      refine ⟨fun hc => absurd hc (nI_pos (by omega)), fun _ => ?_⟩
      simp only [mfI_0, mpI_0, mfN_1, mfI_2, mpI_2, mfI_3, mpI_3, mfI_4, mpI_4, mfI_5, mpI_5, mfI_6, mpI_6, mfI_7, mpI_7, mfI_8, mpI_8, mfI_9, mpI_9, mfI_10, mpI_10, mfI_11, mpI_11, mfN_12, mfZ_13, mpZ_13, mfZ_14, mpZ_14, mfN_15, mfN_16, mfN_17, mfN_18, mfN_19, mfN_20, mfI_21, mpI_21, mfI_22, mpI_22, mfN_23, mfN_24, mfN_25, mfN_26, mfN_27, mfN_28, mfN_29, mfI_30, mpI_30, mfN_31, mfN_32, mfN_33, mfN_34, mfN_35, mfN_36, mfN_37, mfI_38, mpI_38, mfN_39, mfI_40, mpI_40, mfI_41, mpI_41, hT.1]
      refine s_X12_wrong (d := d + 5) hf ?_
      simp only [mfI_0, mpI_0, mfN_1, mfI_2, mpI_2, mfI_3, mpI_3, mfI_4, mpI_4, mfI_5, mpI_5, mfI_6, mpI_6, mfI_7, mpI_7, mfI_8, mpI_8, mfI_9, mpI_9, mfI_10, mpI_10, mfI_11, mpI_11, mfN_12, mfZ_13, mpZ_13, mfZ_14, mpZ_14, mfN_15, mfN_16, mfN_17, mfN_18, mfN_19, mfN_20, mfI_21, mpI_21, mfI_22, mpI_22, mfN_23, mfN_24, mfN_25, mfN_26, mfN_27, mfN_28, mfN_29, mfI_30, mpI_30, mfN_31, mfN_32, mfN_33, mfN_34, mfN_35, mfN_36, mfN_37, mfI_38, mpI_38, mfN_39, mfI_40, mpI_40, mfI_41, mpI_41, hw1]
      exact ⟨fun hc => absurd hc (by decide), fun _ => hK3 h1 k hfd⟩
  · simp only [mfI_0, mpI_0, mfN_1, mfI_2, mpI_2, mfI_3, mpI_3, mfI_4, mpI_4, mfI_5, mpI_5, mfI_6, mpI_6, mfI_7, mpI_7, mfI_8, mpI_8, mfI_9, mpI_9, mfI_10, mpI_10, mfI_11, mpI_11, mfN_12, mfZ_13, mpZ_13, mfZ_14, mpZ_14, mfN_15, mfN_16, mfN_17, mfN_18, mfN_19, mfN_20, mfI_21, mpI_21, mfI_22, mpI_22, mfN_23, mfN_24, mfN_25, mfN_26, mfN_27, mfN_28, mfN_29, mfI_30, mpI_30, mfN_31, mfN_32, mfN_33, mfN_34, mfN_35, mfN_36, mfN_37, mfI_38, mpI_38, mfN_39, mfI_40, mpI_40, mfI_41, mpI_41, hw1]
    exact ⟨fun _ => ⟨fun hc => absurd hc (by decide), fun _ => hK1 h1⟩, fun hc => absurd hc (by decide)⟩
theorem s_X12_newName_f {n : Int32} (hf : S.2.1 13 = true) {K : Hp → Prop} (h : K (mh m A S ρ)) : C_X12_newName l G (d + 1) m n (mh m A S ρ) K := by
  refine m_X12_newName rv_m ?_
  simp only [F_X12_newName, F_X12_newName_35, mfI_0, mpI_0, mfN_1, mfI_2, mpI_2, mfI_3, mpI_3, mfI_4, mpI_4, mfI_5, mpI_5, mfI_6, mpI_6, mfI_7, mpI_7, mfI_8, mpI_8, mfI_9, mpI_9, mfI_10, mpI_10, mfI_11, mpI_11, mfN_12, mfZ_13, mpZ_13, mfZ_14, mpZ_14, mfN_15, mfN_16, mfN_17, mfN_18, mfN_19, mfN_20, mfI_21, mpI_21, mfI_22, mpI_22, mfN_23, mfN_24, mfN_25, mfN_26, mfN_27, mfN_28, mfN_29, mfI_30, mpI_30, mfN_31, mfN_32, mfN_33, mfN_34, mfN_35, mfN_36, mfN_37, mfI_38, mpI_38, mfN_39, mfI_40, mpI_40, mfI_41, mpI_41, hf]
  exact ⟨fun hc => absurd hc (by decide), fun _ => h⟩
/-- a line's first word: the fault with which it is refused, if it is -/
theorem s_X12_begins (hA : okA m A) {j : Nat} {q : String × Nat × String × List Nat} (hq : ssz[j]? = some q) (ha : a ≤ N) (ht : TXT B N S) (hT : TkA B N a S) (hf : S.2.1 13 = false) {can th : Bool} {oth : Int32} {K : Bool → Hp → Prop}
    (hK : isW B N a q.2.2.2 = true → can = true → th = true → ∀ S' : MS, Sm [4, 5, 6, 7, 8] [] [12] S S' → TkA B N (nx B N a) S' → K true (mh m A S' ρ))
    (hK1 : isW B N a q.2.2.2 = true → can = false → K true (mh m A (wr S oth a) ρ)) (hK2 : isW B N a q.2.2.2 = true → can = true → th = false → K true (mh m A (wr S 6 a) ρ)) (hK3 : isW B N a q.2.2.2 = false → K false (mh m A S ρ)) : C_X12_begins l G (d + 6) m (gK G j) can th oth (mh m A S ρ) K := by
  have hw1 : ∀ f : Int32, (wr S f a).2.1 13 = true := fun _ => rfl
  have hw4 : ∀ f : Int32, (wr S f a).1 4 = nI a := fun f => hT.1
  refine m_X12_begins rv_m ?_
  simp only [F_X12_begins, F_X12_begins_24, F_X12_begins_38, F_X12_begins_49]
  refine s_X12_isWord (d := d) hA hq ht.1 ha ht.2.2.1 hT ?_
  rw [hf, Bool.not_false, Bool.true_and]
  refine ⟨fun h1 => ⟨fun h2 => ⟨fun h3 => ?_, fun h3 => ?_⟩, fun h2 => ?_⟩, fun h1 => hK3 h1⟩
  · simp only [mfI_0, mpI_0, mfN_1, mfI_2, mpI_2, mfI_3, mpI_3, mfI_4, mpI_4, mfI_5, mpI_5, mfI_6, mpI_6, mfI_7, mpI_7, mfI_8, mpI_8, mfI_9, mpI_9, mfI_10, mpI_10, mfI_11, mpI_11, mfN_12, mfZ_13, mpZ_13, mfZ_14, mpZ_14, mfN_15, mfN_16, mfN_17, mfN_18, mfN_19, mfN_20, mfI_21, mpI_21, mfI_22, mpI_22, mfN_23, mfN_24, mfN_25, mfN_26, mfN_27, mfN_28, mfN_29, mfI_30, mpI_30, mfN_31, mfN_32, mfN_33, mfN_34, mfN_35, mfN_36, mfN_37, mfI_38, mpI_38, mfN_39, mfI_40, mpI_40, mfI_41, mpI_41, hf]
    exact ⟨fun hc => absurd hc (by decide), fun _ => s_X12_nx (d := d + 3) hA ha ht hT (hK h1 h2 h3)⟩
  · simp only [mfI_0, mpI_0, mfN_1, mfI_2, mpI_2, mfI_3, mpI_3, mfI_4, mpI_4, mfI_5, mpI_5, mfI_6, mpI_6, mfI_7, mpI_7, mfI_8, mpI_8, mfI_9, mpI_9, mfI_10, mpI_10, mfI_11, mpI_11, mfN_12, mfZ_13, mpZ_13, mfZ_14, mpZ_14, mfN_15, mfN_16, mfN_17, mfN_18, mfN_19, mfN_20, mfI_21, mpI_21, mfI_22, mpI_22, mfN_23, mfN_24, mfN_25, mfN_26, mfN_27, mfN_28, mfN_29, mfI_30, mpI_30, mfN_31, mfN_32, mfN_33, mfN_34, mfN_35, mfN_36, mfN_37, mfI_38, mpI_38, mfN_39, mfI_40, mpI_40, mfI_41, mpI_41, hT.1]
    refine s_X12_wrong (d := d + 4) hf ?_
    simp only [mfI_0, mpI_0, mfN_1, mfI_2, mpI_2, mfI_3, mpI_3, mfI_4, mpI_4, mfI_5, mpI_5, mfI_6, mpI_6, mfI_7, mpI_7, mfI_8, mpI_8, mfI_9, mpI_9, mfI_10, mpI_10, mfI_11, mpI_11, mfN_12, mfZ_13, mpZ_13, mfZ_14, mpZ_14, mfN_15, mfN_16, mfN_17, mfN_18, mfN_19, mfN_20, mfI_21, mpI_21, mfI_22, mpI_22, mfN_23, mfN_24, mfN_25, mfN_26, mfN_27, mfN_28, mfN_29, mfI_30, mpI_30, mfN_31, mfN_32, mfN_33, mfN_34, mfN_35, mfN_36, mfN_37, mfI_38, mpI_38, mfN_39, mfI_40, mpI_40, mfI_41, mpI_41, hw1]
    exact ⟨fun _ => hK2 h1 h2 h3, fun hc => absurd hc (by decide)⟩
  · simp only [mfI_0, mpI_0, mfN_1, mfI_2, mpI_2, mfI_3, mpI_3, mfI_4, mpI_4, mfI_5, mpI_5, mfI_6, mpI_6, mfI_7, mpI_7, mfI_8, mpI_8, mfI_9, mpI_9, mfI_10, mpI_10, mfI_11, mpI_11, mfN_12, mfZ_13, mpZ_13, mfZ_14, mpZ_14, mfN_15, mfN_16, mfN_17, mfN_18, mfN_19, mfN_20, mfI_21, mpI_21, mfI_22, mpI_22, mfN_23, mfN_24, mfN_25, mfN_26, mfN_27, mfN_28, mfN_29, mfI_30, mpI_30, mfN_31, mfN_32, mfN_33, mfN_34, mfN_35, mfN_36, mfN_37, mfI_38, mpI_38, mfN_39, mfI_40, mpI_40, mfI_41, mpI_41, hT.1]
    refine s_X12_wrong (d := d + 4) hf ?_
    refine ⟨fun h3 => ?_, fun h3 => ?_⟩
    · simp only [mfI_0, mpI_0, mfN_1, mfI_2, mpI_2, mfI_3, mpI_3, mfI_4, mpI_4, mfI_5, mpI_5, mfI_6, mpI_6, mfI_7, mpI_7, mfI_8, mpI_8, mfI_9, mpI_9, mfI_10, mpI_10, mfI_11, mpI_11, mfN_12, mfZ_13, mpZ_13, mfZ_14, mpZ_14, mfN_15, mfN_16, mfN_17, mfN_18, mfN_19, mfN_20, mfI_21, mpI_21, mfI_22, mpI_22, mfN_23, mfN_24, mfN_25, mfN_26, mfN_27, mfN_28, mfN_29, mfI_30, mpI_30, mfN_31, mfN_32, mfN_33, mfN_34, mfN_35, mfN_36, mfN_37, mfI_38, mpI_38, mfN_39, mfI_40, mpI_40, mfI_41, mpI_41, hw1]
      exact ⟨fun _ => hK1 h1 h2, fun hc => absurd hc (by decide)⟩
    · simp only [mfI_0, mpI_0, mfN_1, mfI_2, mpI_2, mfI_3, mpI_3, mfI_4, mpI_4, mfI_5, mpI_5, mfI_6, mpI_6, mfI_7, mpI_7, mfI_8, mpI_8, mfI_9, mpI_9, mfI_10, mpI_10, mfI_11, mpI_11, mfN_12, mfZ_13, mpZ_13, mfZ_14, mpZ_14, mfN_15, mfN_16, mfN_17, mfN_18, mfN_19, mfN_20, mfI_21, mpI_21, mfI_22, mpI_22, mfN_23, mfN_24, mfN_25, mfN_26, mfN_27, mfN_28, mfN_29, mfI_30, mpI_30, mfN_31, mfN_32, mfN_33, mfN_34, mfN_35, mfN_36, mfN_37, mfI_38, mpI_38, mfN_39, mfI_40, mpI_40, mfI_41, mpI_41]
      refine s_X12_wrong_f (d := d + 4) (hw1 _) ?_
      simp only [mfI_0, mpI_0, mfN_1, mfI_2, mpI_2, mfI_3, mpI_3, mfI_4, mpI_4, mfI_5, mpI_5, mfI_6, mpI_6, mfI_7, mpI_7, mfI_8, mpI_8, mfI_9, mpI_9, mfI_10, mpI_10, mfI_11, mpI_11, mfN_12, mfZ_13, mpZ_13, mfZ_14, mpZ_14, mfN_15, mfN_16, mfN_17, mfN_18, mfN_19, mfN_20, mfI_21, mpI_21, mfI_22, mpI_22, mfN_23, mfN_24, mfN_25, mfN_26, mfN_27, mfN_28, mfN_29, mfI_30, mpI_30, mfN_31, mfN_32, mfN_33, mfN_34, mfN_35, mfN_36, mfN_37, mfI_38, mpI_38, mfN_39, mfI_40, mpI_40, mfI_41, mpI_41, hw1]
      exact ⟨fun _ => hK1 h1 h2, fun hc => absurd hc (by decide)⟩
end NAM
