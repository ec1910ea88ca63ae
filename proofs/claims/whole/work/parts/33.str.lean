/-! STRINGS that are constants; the model's words -/
theorem ssz_small : ∀ q ∈ ssz, q.2.2.2.length ≤ 8 ∧ ∀ c ∈ q.2.2.2, 97 ≤ c ∧ c ≤ 122 := by decide
theorem ssz_mem {j : Nat} {q : String × Nat × String × List Nat} (h : ssz[j]? = some q) : q ∈ ssz := List.mem_of_getElem? h
theorem chr_nar : ∀ c : Fin 256, narrow .char (.int (nI c.val)) = .int (nI c.val) := by decide +kernel
theorem chr_val : ∀ c : Fin 256, (((nI c.val &&& 255) : Int32).toUInt32 % 65536).toInt32 = nI c.val := by decide +kernel
section STR
variable {l : Launch} {G : GG} {d : Nat} {σ : Hp} {j : Nat} {q : String × Nat × String × List Nat}
theorem s_J0_coder (hq : ssz[j]? = some q) {K : Int32 → Hp → Prop} (h : K 0 σ) : C_J0_coder_7d493 l G (d + 1) (gK G j) σ K := by
  refine m_J0_coder_7d493 ⟨j, q, rfl, hq⟩ ?_
  simp only [F_J0_coder_7d493_14, F_J0_coder_7d493]
  exact ⟨fun h => absurd h (by decide), fun _ => ⟨j, q, rfl, hq, by decide, h⟩⟩
theorem s_J0_length (hq : ssz[j]? = some q) {K : Int32 → Hp → Prop} (h : K (nI q.2.2.2.length) σ) : C_J0_length_8abf5 l G (d + 2) (gK G j) σ K := by
  refine m_J0_length_8abf5 ⟨j, q, rfl, hq⟩ ?_
  simp only [F_J0_length_8abf5]
  refine ⟨j, q, rfl, hq, s_J0_coder hq ?_⟩
  have hl := (ssz_small q (ssz_mem hq)).1
  rw [show (0 : Int32) &&& 31 = nI 0 by decide, nt_shr (by omega) (by decide)]
  simpa using h
theorem s_J3_checkIndex {v0 v1 : Int32} {v2 : Option Nat} {K : Int32 → Hp → Prop} (h0 : ¬ v0 < 0) (h1 : v0 < v1) (h : K v0 σ) : C_J3_checkIndex_8e157 l G (d + 1) v0 v1 v2 σ K := by
  refine m_J3_checkIndex_8e157 ?_
  simp only [F_J3_checkIndex_8e157_9, F_J3_checkIndex_8e157]
  exact ⟨fun h2 => h0 h2, fun _ => ⟨fun _ => h, fun h2 => h2 h1⟩⟩
theorem s_J0_checkIndex {v0 v1 : Int32} {K : Hp → Prop} (h0 : ¬ v0 < 0) (h1 : v0 < v1) (h : K σ) : C_J0_checkIndex_df160 l G (d + 2) v0 v1 σ K := by
  refine m_J0_checkIndex_df160 ?_
  simp only [F_J0_checkIndex_df160]
  exact fun o => s_J3_checkIndex h0 h1 h
theorem s_J15_checkIndex {v0 v1 : Int32} {K : Int32 → Hp → Prop} (h0 : ¬ v0 < 0) (h1 : v0 < v1) (h : K v0 σ) : C_J15_checkIndex_7cf53 l G (d + 2) v0 v1 σ K := by
  refine m_J15_checkIndex_7cf53 ?_
  simp only [F_J15_checkIndex_7cf53]
  exact s_J3_checkIndex h0 h1 h
theorem ssz_c (hq : ssz[j]? = some q) (i : Nat) : q.2.2.2.getD i 0 < 256 := by
  rw [List.getD_eq_getElem?_getD]
  cases e : q.2.2.2[i]? with
  | none => simp
  | some c =>
    have := ((ssz_small q (ssz_mem hq)).2 c (List.mem_of_getElem? e)).2
    simp
    omega
theorem s_J1_charAt (hq : ssz[j]? = some q) {i : Nat} (hi : i < q.2.2.2.length) {K : Int32 → Hp → Prop} (h : K (nI (q.2.2.2.getD i 0)) σ) : C_J1_charAt_3b067 l G (d + 3) (gV G j) (nI i) σ K := by
  have hl := (ssz_small q (ssz_mem hq)).1
  have hc := ssz_c hq i
  refine m_J1_charAt_3b067 ?_
  simp only [F_J1_charAt_3b067]
  refine ⟨j, q, rfl, hq, s_J0_checkIndex (nI_pos (by omega)) (nI_lt hi (by omega)) ?_⟩
  rw [nI_clamp (by omega)]
  have e : (((nI (q.2.2.2.getD i 0) &&& 255) : Int32).toUInt32 % 65536).toInt32 = nI (q.2.2.2.getD i 0) := chr_val ⟨_, hc⟩
  rw [e]
  exact ⟨(nt_in (by omega)).mpr hi, chr_nar ⟨_, hc⟩, h⟩
theorem s_J0_isLatin1 (hq : ssz[j]? = some q) {K : Bool → Hp → Prop} (h : K true σ) : C_J0_isLatin1_aae02 l G (d + 1) (gK G j) σ K := by
  refine m_J0_isLatin1_aae02 ⟨j, q, rfl, hq⟩ ?_
  simp only [F_J0_isLatin1_aae02_18, F_J0_isLatin1_aae02_17, F_J0_isLatin1_aae02]
  exact ⟨fun h => absurd h (by decide), fun _ => ⟨j, q, rfl, hq, fun h2 => absurd trivial h2, fun _ => h⟩⟩
theorem s_J0_charAt (hq : ssz[j]? = some q) {i : Nat} (hi : i < q.2.2.2.length) {K : Int32 → Hp → Prop} (h : K (nI (q.2.2.2.getD i 0)) σ) : C_J0_charAt_5068e l G (d + 4) (gK G j) (nI i) σ K := by
  refine m_J0_charAt_5068e ⟨j, q, rfl, hq⟩ ?_
  simp only [F_J0_charAt_5068e]
  refine s_J0_isLatin1 (d := d + 2) hq ⟨fun h => absurd h (by decide), fun _ => ⟨j, q, rfl, hq, s_J1_charAt hq hi ?_⟩⟩
  exact ⟨chr_nar ⟨_, ssz_c hq i⟩, h⟩
end STR
/-- the letters of the token that begins at a -/
def tw (B : Nat → Nat) (N a : Nat) : List Nat := (List.range (eE B N a - a)).map fun j => B (a + j)
def isW (B : Nat → Nat) (N a : Nat) (w : List Nat) : Bool := decide (eK B N a = 2 ∧ tw B N a = w)
theorem tw_len (B : Nat → Nat) (N a : Nat) : (tw B N a).length = eE B N a - a := by simp [tw]
theorem tw_at {B : Nat → Nat} {N a j : Nat} (h : j < eE B N a - a) : (tw B N a)[j]? = some (B (a + j)) := by simp [tw, h]
theorem tw_eq {B : Nat → Nat} {N a : Nat} {w : List Nat} (hl : eE B N a - a = w.length) : tw B N a = w ↔ ∀ j, j < w.length → B (a + j) = w.getD j 0 := by
  constructor
  · rintro h j hj
    rw [← h, List.getD_eq_getElem?_getD, tw_at (by omega)]
    rfl
  · intro h
    apply List.ext_getElem?
    intro j
    by_cases hj : j < w.length
    · rw [tw_at (by omega), h j hj, List.getD_eq_getElem?_getD, List.getElem?_eq_getElem hj]
      rfl
    · rw [List.getElem?_eq_none (by rw [tw_len]; omega), List.getElem?_eq_none (by omega)]
section WRD
variable {l : Launch} {G : GG} {d m : Nat} {A : Nat → Nat} {S : MS} {ρ : Hp} {B : Nat → Nat} {N a : Nat} {j : Nat} {q : String × Nat × String × List Nat}
def weq (B : Nat → Nat) (a : Nat) (w : List Nat) : Nat → Nat → Bool
  | 0, _ => true
  | n + 1, k => decide (B (a + k) = w.getD k 0) && weq B a w n (k + 1)
theorem weq_iff {B : Nat → Nat} {a : Nat} {w : List Nat} : ∀ n k, weq B a w n k = true ↔ ∀ j, k ≤ j → j < k + n → B (a + j) = w.getD j 0
  | 0, k => by simp only [weq, true_iff]; intro j h1 h2; omega
  | n + 1, k => by
    simp only [weq, Bool.and_eq_true, decide_eq_true_eq, weq_iff n (k + 1)]
    constructor
    · rintro ⟨h1, h2⟩ j h3 h4
      by_cases e : j = k
      · rw [e]; exact h1
      · exact h2 j (by omega) (by omega)
    · exact fun h => ⟨h k (Nat.le_refl _) (by omega), fun j h1 h2 => h j (by omega) (by omega)⟩
theorem z_m_word (hA : okA m A) (hq : ssz[j]? = some q) {L : Nat} (hL : L = q.2.2.2.length) (h8 : S.1 8 = nI L) (hb : ∀ j, B j < 256) (hl : ∀ j, j < L → S.2.2.1 12 j = nI (B (a + j))) {K : Bool → Hp → Prop} : ∀ n k (s : Bool), k + n = L → K (s && weq B a q.2.2.2 n k) (mh m A S ρ) → ∃ n', Z_X12_isWord_32 l G (d + 4) K n' m (gK G j) s (nI k) (mh m A S ρ) := by
  have h9 := (ssz_small q (ssz_mem hq)).1
  intro n
  induction n with
  | zero =>
    intro k s hn h
    refine ⟨1, ?_⟩
    simp only [Z_X12_isWord_32, F_X12_isWord_32, mfI_0, mpI_0, mfN_1, mfI_2, mpI_2, mfI_3, mpI_3, mfI_4, mpI_4, mfI_5, mpI_5, mfI_6, mpI_6, mfI_7, mpI_7, mfI_8, mpI_8, mfI_9, mpI_9, mfI_10, mpI_10, mfI_11, mpI_11, mfN_12, mfZ_13, mpZ_13, mfZ_14, mpZ_14, mfN_15, mfN_16, mfN_17, mfN_18, mfN_19, mfN_20, mfI_21, mpI_21, mfI_22, mpI_22, mfN_23, mfN_24, mfN_25, mfN_26, mfN_27, mfN_28, mfN_29, mfI_30, mpI_30, mfN_31, mfN_32, mfN_33, mfN_34, mfN_35, mfN_36, mfN_37, mfI_38, mpI_38, mfN_39, mfI_40, mpI_40, mfI_41, mpI_41, h8]
    rw [nt_le (by omega) (by omega)]
    refine ⟨fun _ => ?_, fun hc => absurd (by omega) hc⟩
    simpa [weq] using h
  | succ n ih =>
    intro k s hn h
    have hk2 : k < L := by omega
    have hc := ssz_c hq k
    have hbk := hb (a + k)
    have e1 : nI k + 1 = nI (k + 1) := nt_add k 1
    cases s with
    | false =>
      obtain ⟨n', hz⟩ := ih (k + 1) false (by omega) (by simpa using h)
      refine ⟨n' + 1, ?_⟩
      simp only [Z_X12_isWord_32, F_X12_isWord_32, F_X12_isWord_62, F_X12_isWord_63, mfI_0, mpI_0, mfN_1, mfI_2, mpI_2, mfI_3, mpI_3, mfI_4, mpI_4, mfI_5, mpI_5, mfI_6, mpI_6, mfI_7, mpI_7, mfI_8, mpI_8, mfI_9, mpI_9, mfI_10, mpI_10, mfI_11, mpI_11, mfN_12, mfZ_13, mpZ_13, mfZ_14, mpZ_14, mfN_15, mfN_16, mfN_17, mfN_18, mfN_19, mfN_20, mfI_21, mpI_21, mfI_22, mpI_22, mfN_23, mfN_24, mfN_25, mfN_26, mfN_27, mfN_28, mfN_29, mfI_30, mpI_30, mfN_31, mfN_32, mfN_33, mfN_34, mfN_35, mfN_36, mfN_37, mfI_38, mpI_38, mfN_39, mfI_40, mpI_40, mfI_41, mpI_41, h8, e1]
      rw [nt_le (by omega) (by omega)]
      exact ⟨fun hc => by omega, fun _ => ⟨fun _ => hz, fun hc => absurd hc (by decide)⟩⟩
    | true =>
      simp only [weq, Bool.true_and] at h
      obtain ⟨n', hz⟩ := ih (k + 1) (decide (B (a + k) = q.2.2.2.getD k 0)) (by omega) h
      refine ⟨n' + 1, ?_⟩
      simp only [Z_X12_isWord_32, F_X12_isWord_32, F_X12_isWord_62, F_X12_isWord_63, mfI_0, mpI_0, mfN_1, mfI_2, mpI_2, mfI_3, mpI_3, mfI_4, mpI_4, mfI_5, mpI_5, mfI_6, mpI_6, mfI_7, mpI_7, mfI_8, mpI_8, mfI_9, mpI_9, mfI_10, mpI_10, mfI_11, mpI_11, mfN_12, mfZ_13, mpZ_13, mfZ_14, mpZ_14, mfN_15, mfN_16, mfN_17, mfN_18, mfN_19, mfN_20, mfI_21, mpI_21, mfI_22, mpI_22, mfN_23, mfN_24, mfN_25, mfN_26, mfN_27, mfN_28, mfN_29, mfI_30, mpI_30, mfN_31, mfN_32, mfN_33, mfN_34, mfN_35, mfN_36, mfN_37, mfI_38, mpI_38, mfN_39, mfI_40, mpI_40, mfI_41, mpI_41, mgI_1 hA, msI_1 hA, mgI_12 hA, msI_12 hA, mgI_15 hA, msI_15 hA, mgI_16 hA, msI_16 hA, mgI_17 hA, msI_17 hA, mgI_18 hA, msI_18 hA, mgI_19 hA, msI_19 hA, mgI_20 hA, msI_20 hA, mgI_23 hA, msI_23 hA, mgI_24 hA, msI_24 hA, mgI_25 hA, msI_25 hA, mgI_26 hA, msI_26 hA, mgI_27 hA, msI_27 hA, mgI_28 hA, msI_28 hA, mgI_29 hA, msI_29 hA, mgI_31 hA, msI_31 hA, mgI_32 hA, msI_32 hA, mgI_33 hA, msI_33 hA, mgI_34 hA, msI_34 hA, mgI_35 hA, msI_35 hA, mgI_36 hA, msI_36 hA, mgI_39 hA, msI_39 hA, mgJ hA, msJ hA, h8, e1]
      rw [nt_le (by omega) (by omega)]
      refine ⟨fun hc => by omega, fun _ => ⟨fun hc => absurd hc (by decide), fun _ => ⟨(nt_in (by omega)).mpr (by omega), ?_⟩⟩⟩
      refine s_J0_charAt hq (by omega) ?_
      rw [nI_clamp (by omega), hl k hk2, nt_eq (by omega) (by omega)]
      refine ⟨fun h5 => ?_, fun h5 => ?_⟩
      · rw [decide_eq_false h5] at hz; exact hz
      · rw [decide_eq_true h5] at hz; exact hz
theorem eK_lt {B : Nat → Nat} {N a : Nat} : eK B N a < 60 := by unfold eK; (repeat' split) <;> omega
theorem s_X12_isWord (hA : okA m A) (hq : ssz[j]? = some q) (hN : N ≤ 900) (ha : a ≤ N) (hb : ∀ j, B j < 256) (hT : TkA B N a S) {K : Bool → Hp → Prop} (h : K (!S.2.1 13 && isW B N a q.2.2.2) (mh m A S ρ)) : C_X12_isWord l G (d + 5) m (gK G j) (mh m A S ρ) K := by
  obtain ⟨h4, h5, h6, h7, h8⟩ := hT
  have h9 := (ssz_small q (ssz_mem hq)).1
  have hEe := eE_le (B := B) ha
  have h60 := eK_lt (B := B) (N := N) (a := a)
  refine m_X12_isWord rv_m ?_
  simp only [F_X12_isWord, F_X12_isWord_26, mfI_0, mpI_0, mfN_1, mfI_2, mpI_2, mfI_3, mpI_3, mfI_4, mpI_4, mfI_5, mpI_5, mfI_6, mpI_6, mfI_7, mpI_7, mfI_8, mpI_8, mfI_9, mpI_9, mfI_10, mpI_10, mfI_11, mpI_11, mfN_12, mfZ_13, mpZ_13, mfZ_14, mpZ_14, mfN_15, mfN_16, mfN_17, mfN_18, mfN_19, mfN_20, mfI_21, mpI_21, mfI_22, mpI_22, mfN_23, mfN_24, mfN_25, mfN_26, mfN_27, mfN_28, mfN_29, mfI_30, mpI_30, mfN_31, mfN_32, mfN_33, mfN_34, mfN_35, mfN_36, mfN_37, mfI_38, mpI_38, mfN_39, mfI_40, mpI_40, mfI_41, mpI_41, h6]
  cases hf : S.2.1 13 with
  | true =>
    rw [hf] at h
    exact ⟨fun _ => h, fun hc => absurd hc (by decide)⟩
  | false =>
    rw [hf, Bool.not_false, Bool.true_and] at h
    refine ⟨fun hc => absurd hc (by decide), fun _ => ?_⟩
    rw [show (2 : Int32) = nI 2 from rfl, nt_eq (by omega) (by decide)]
    refine ⟨fun hk => ?_, fun hk => ?_⟩
    · rw [isW, decide_eq_false (fun hc => hk hc.1)] at h
      exact h
    · obtain ⟨g8, gl⟩ := h7 hk
      simp only [g8]
      refine s_J0_length (d := d + 2) hq ?_
      rw [nt_eq (by omega) (by omega)]
      refine ⟨fun hl => ?_, fun hl => ?_⟩
      · refine z_m_word hA hq hl g8 hb gl _ 0 true (Nat.zero_add _) ?_
        refine kif h ?_
        rw [Bool.true_and, isW, Bool.eq_iff_iff, decide_eq_true_eq, weq_iff, tw_eq hl, hl]
        exact ⟨fun h j _ hj => h.2 j (by omega), fun h => ⟨hk, fun j hj => h j (Nat.zero_le _) (by omega)⟩⟩
      · rw [isW, decide_eq_false (fun hc => hl (by rw [← hc.2, tw_len]))] at h
        exact h
end WRD
